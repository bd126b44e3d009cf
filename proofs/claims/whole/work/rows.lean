section
-- ===== PART A: goes FIRST, ahead of the names: the tables' words, and 'selects' of the private methods out of them =====
/-- a private method of a class that the tables say can be made, by its rows of tables_1 -/
def lw_okq (q : MethodName × Nat) : Prop := (q.1.cls ≠ "java/lang/invoke/MethodHandle" ∧ q.1.cls ≠ "java/lang/invoke/VarHandle") ∧ Cond.instantiable q.1.cls q.2 ∈ tables_1 ∧ Cond.privateMethod q.1 ∈ tables_1 ∧ Cond.instanceMethod q.1 ∈ tables_1
theorem lw_p0 : lw_okq (⟨"LetterTray$Reader", "append", "(I)Z"⟩, 5) := ⟨⟨by decide +kernel, by decide +kernel⟩, List.mem_of_getElem? (i := 23) (by decide +kernel), List.mem_of_getElem? (i := 283) (by decide +kernel), List.mem_of_getElem? (i := 284) (by decide +kernel)⟩
theorem lw_p1 : lw_okq (⟨"LetterTray$Reader", "read", "(LLetterTray$Words;)I"⟩, 5) := ⟨⟨by decide +kernel, by decide +kernel⟩, List.mem_of_getElem? (i := 23) (by decide +kernel), List.mem_of_getElem? (i := 292) (by decide +kernel), List.mem_of_getElem? (i := 293) (by decide +kernel)⟩
theorem lw_p2 : lw_okq (⟨"LetterTray$Words", "clear", "()V"⟩, 13) := ⟨⟨by decide +kernel, by decide +kernel⟩, List.mem_of_getElem? (i := 157) (by decide +kernel), List.mem_of_getElem? (i := 296) (by decide +kernel), List.mem_of_getElem? (i := 297) (by decide +kernel)⟩
theorem lw_p3 : lw_okq (⟨"LetterTray$Reader", "skipSpaces", "()V"⟩, 5) := ⟨⟨by decide +kernel, by decide +kernel⟩, List.mem_of_getElem? (i := 23) (by decide +kernel), List.mem_of_getElem? (i := 303) (by decide +kernel), List.mem_of_getElem? (i := 304) (by decide +kernel)⟩
theorem lw_p4 : lw_okq (⟨"LetterTray$Reader", "readClause", "(LLetterTray$Words;)V"⟩, 5) := ⟨⟨by decide +kernel, by decide +kernel⟩, List.mem_of_getElem? (i := 23) (by decide +kernel), List.mem_of_getElem? (i := 307) (by decide +kernel), List.mem_of_getElem? (i := 308) (by decide +kernel)⟩
theorem lw_p5 : lw_okq (⟨"LetterTray$Reader", "stands", "(C)Z"⟩, 5) := ⟨⟨by decide +kernel, by decide +kernel⟩, List.mem_of_getElem? (i := 23) (by decide +kernel), List.mem_of_getElem? (i := 311) (by decide +kernel), List.mem_of_getElem? (i := 312) (by decide +kernel)⟩
theorem lw_p6 : lw_okq (⟨"LetterTray$Reader", "startClause", "(Z)V"⟩, 5) := ⟨⟨by decide +kernel, by decide +kernel⟩, List.mem_of_getElem? (i := 23) (by decide +kernel), List.mem_of_getElem? (i := 315) (by decide +kernel), List.mem_of_getElem? (i := 316) (by decide +kernel)⟩
theorem lw_p7 : lw_okq (⟨"LetterTray$Reader", "fail", "(II)V"⟩, 5) := ⟨⟨by decide +kernel, by decide +kernel⟩, List.mem_of_getElem? (i := 23) (by decide +kernel), List.mem_of_getElem? (i := 319) (by decide +kernel), List.mem_of_getElem? (i := 320) (by decide +kernel)⟩
theorem lw_p8 : lw_okq (⟨"LetterTray$Reader", "readValues", "(LLetterTray$Words;)V"⟩, 5) := ⟨⟨by decide +kernel, by decide +kernel⟩, List.mem_of_getElem? (i := 23) (by decide +kernel), List.mem_of_getElem? (i := 323) (by decide +kernel), List.mem_of_getElem? (i := 324) (by decide +kernel)⟩
theorem lw_p9 : lw_okq (⟨"LetterTray$Reader", "readNumber", "(II)I"⟩, 5) := ⟨⟨by decide +kernel, by decide +kernel⟩, List.mem_of_getElem? (i := 23) (by decide +kernel), List.mem_of_getElem? (i := 327) (by decide +kernel), List.mem_of_getElem? (i := 328) (by decide +kernel)⟩
theorem lw_p10 : lw_okq (⟨"LetterTray$Reader", "pass", "(C)V"⟩, 5) := ⟨⟨by decide +kernel, by decide +kernel⟩, List.mem_of_getElem? (i := 23) (by decide +kernel), List.mem_of_getElem? (i := 334) (by decide +kernel), List.mem_of_getElem? (i := 335) (by decide +kernel)⟩
theorem lw_p11 : lw_okq (⟨"LetterTray$Reader", "readBag", "(LLetterTray$Words;)V"⟩, 5) := ⟨⟨by decide +kernel, by decide +kernel⟩, List.mem_of_getElem? (i := 23) (by decide +kernel), List.mem_of_getElem? (i := 338) (by decide +kernel), List.mem_of_getElem? (i := 339) (by decide +kernel)⟩
theorem lw_p12 : lw_okq (⟨"LetterTray$Reader", "sortHere", "()I"⟩, 5) := ⟨⟨by decide +kernel, by decide +kernel⟩, List.mem_of_getElem? (i := 23) (by decide +kernel), List.mem_of_getElem? (i := 342) (by decide +kernel), List.mem_of_getElem? (i := 343) (by decide +kernel)⟩
theorem lw_p13 : lw_okq (⟨"LetterTray$Reader", "endLetters", "(I)V"⟩, 5) := ⟨⟨by decide +kernel, by decide +kernel⟩, List.mem_of_getElem? (i := 23) (by decide +kernel), List.mem_of_getElem? (i := 346) (by decide +kernel), List.mem_of_getElem? (i := 347) (by decide +kernel)⟩
theorem lw_p14 : lw_okq (⟨"LetterTray$Reader", "readWord", "(LLetterTray$Words;)V"⟩, 5) := ⟨⟨by decide +kernel, by decide +kernel⟩, List.mem_of_getElem? (i := 23) (by decide +kernel), List.mem_of_getElem? (i := 350) (by decide +kernel), List.mem_of_getElem? (i := 351) (by decide +kernel)⟩
theorem lw_p15 : lw_okq (⟨"LetterTray$Reader", "endWord", "(LLetterTray$Words;II)V"⟩, 5) := ⟨⟨by decide +kernel, by decide +kernel⟩, List.mem_of_getElem? (i := 23) (by decide +kernel), List.mem_of_getElem? (i := 354) (by decide +kernel), List.mem_of_getElem? (i := 355) (by decide +kernel)⟩
def lw_privs_1 : List (MethodName × Nat) := [(⟨"LetterTray$Reader", "append", "(I)Z"⟩, 5), (⟨"LetterTray$Reader", "read", "(LLetterTray$Words;)I"⟩, 5), (⟨"LetterTray$Words", "clear", "()V"⟩, 13), (⟨"LetterTray$Reader", "skipSpaces", "()V"⟩, 5), (⟨"LetterTray$Reader", "readClause", "(LLetterTray$Words;)V"⟩, 5), (⟨"LetterTray$Reader", "stands", "(C)Z"⟩, 5), (⟨"LetterTray$Reader", "startClause", "(Z)V"⟩, 5), (⟨"LetterTray$Reader", "fail", "(II)V"⟩, 5), (⟨"LetterTray$Reader", "readValues", "(LLetterTray$Words;)V"⟩, 5), (⟨"LetterTray$Reader", "readNumber", "(II)I"⟩, 5), (⟨"LetterTray$Reader", "pass", "(C)V"⟩, 5), (⟨"LetterTray$Reader", "readBag", "(LLetterTray$Words;)V"⟩, 5), (⟨"LetterTray$Reader", "sortHere", "()I"⟩, 5), (⟨"LetterTray$Reader", "endLetters", "(I)V"⟩, 5), (⟨"LetterTray$Reader", "readWord", "(LLetterTray$Words;)V"⟩, 5), (⟨"LetterTray$Reader", "endWord", "(LLetterTray$Words;II)V"⟩, 5)]
theorem lw_r1 : ∀ q ∈ lw_privs_1, lw_okq q := List.forall_mem_cons.mpr ⟨lw_p0, List.forall_mem_cons.mpr ⟨lw_p1, List.forall_mem_cons.mpr ⟨lw_p2, List.forall_mem_cons.mpr ⟨lw_p3, List.forall_mem_cons.mpr ⟨lw_p4, List.forall_mem_cons.mpr ⟨lw_p5, List.forall_mem_cons.mpr ⟨lw_p6, List.forall_mem_cons.mpr ⟨lw_p7, List.forall_mem_cons.mpr ⟨lw_p8, List.forall_mem_cons.mpr ⟨lw_p9, List.forall_mem_cons.mpr ⟨lw_p10, List.forall_mem_cons.mpr ⟨lw_p11, List.forall_mem_cons.mpr ⟨lw_p12, List.forall_mem_cons.mpr ⟨lw_p13, List.forall_mem_cons.mpr ⟨lw_p14, List.forall_mem_cons.mpr ⟨lw_p15, fun _ h => absurd h List.not_mem_nil⟩⟩⟩⟩⟩⟩⟩⟩⟩⟩⟩⟩⟩⟩⟩⟩
theorem lw_p16 : lw_okq (⟨"LetterTray$Words", "add", "(II)Z"⟩, 13) := ⟨⟨by decide +kernel, by decide +kernel⟩, List.mem_of_getElem? (i := 157) (by decide +kernel), List.mem_of_getElem? (i := 358) (by decide +kernel), List.mem_of_getElem? (i := 359) (by decide +kernel)⟩
theorem lw_p17 : lw_okq (⟨"LetterTray$Words", "samePlaces", "(II)I"⟩, 13) := ⟨⟨by decide +kernel, by decide +kernel⟩, List.mem_of_getElem? (i := 157) (by decide +kernel), List.mem_of_getElem? (i := 362) (by decide +kernel), List.mem_of_getElem? (i := 363) (by decide +kernel)⟩
theorem lw_p18 : lw_okq (⟨"LetterTray$Words", "spell", "(II)V"⟩, 13) := ⟨⟨by decide +kernel, by decide +kernel⟩, List.mem_of_getElem? (i := 157) (by decide +kernel), List.mem_of_getElem? (i := 366) (by decide +kernel), List.mem_of_getElem? (i := 367) (by decide +kernel)⟩
theorem lw_p19 : lw_okq (⟨"LetterTray$Words", "prepare", "()V"⟩, 13) := ⟨⟨by decide +kernel, by decide +kernel⟩, List.mem_of_getElem? (i := 157) (by decide +kernel), List.mem_of_getElem? (i := 370) (by decide +kernel), List.mem_of_getElem? (i := 371) (by decide +kernel)⟩
theorem lw_p20 : lw_okq (⟨"LetterTray$Words", "countNeeds", "(I)V"⟩, 13) := ⟨⟨by decide +kernel, by decide +kernel⟩, List.mem_of_getElem? (i := 157) (by decide +kernel), List.mem_of_getElem? (i := 374) (by decide +kernel), List.mem_of_getElem? (i := 375) (by decide +kernel)⟩
theorem lw_p21 : lw_okq (⟨"LetterTray$Words", "letterAt", "(II)I"⟩, 13) := ⟨⟨by decide +kernel, by decide +kernel⟩, List.mem_of_getElem? (i := 157) (by decide +kernel), List.mem_of_getElem? (i := 378) (by decide +kernel), List.mem_of_getElem? (i := 379) (by decide +kernel)⟩
theorem lw_p22 : lw_okq (⟨"LetterTray$Words", "worthOf", "(I)I"⟩, 13) := ⟨⟨by decide +kernel, by decide +kernel⟩, List.mem_of_getElem? (i := 157) (by decide +kernel), List.mem_of_getElem? (i := 382) (by decide +kernel), List.mem_of_getElem? (i := 383) (by decide +kernel)⟩
theorem lw_p23 : lw_okq (⟨"LetterTray$Words", "needOf", "(II)I"⟩, 13) := ⟨⟨by decide +kernel, by decide +kernel⟩, List.mem_of_getElem? (i := 157) (by decide +kernel), List.mem_of_getElem? (i := 386) (by decide +kernel), List.mem_of_getElem? (i := 387) (by decide +kernel)⟩
theorem lw_p24 : lw_okq (⟨"LetterTray$Words", "isMirror", "(I)Z"⟩, 13) := ⟨⟨by decide +kernel, by decide +kernel⟩, List.mem_of_getElem? (i := 157) (by decide +kernel), List.mem_of_getElem? (i := 390) (by decide +kernel), List.mem_of_getElem? (i := 391) (by decide +kernel)⟩
theorem lw_p25 : lw_okq (⟨"LetterTray$Words", "inBoth", "(II)I"⟩, 13) := ⟨⟨by decide +kernel, by decide +kernel⟩, List.mem_of_getElem? (i := 157) (by decide +kernel), List.mem_of_getElem? (i := 394) (by decide +kernel), List.mem_of_getElem? (i := 395) (by decide +kernel)⟩
theorem lw_p26 : lw_okq (⟨"LetterTray$Words", "isStep", "(II)Z"⟩, 13) := ⟨⟨by decide +kernel, by decide +kernel⟩, List.mem_of_getElem? (i := 157) (by decide +kernel), List.mem_of_getElem? (i := 399) (by decide +kernel), List.mem_of_getElem? (i := 400) (by decide +kernel)⟩
theorem lw_p27 : lw_okq (⟨"LetterTray$Words", "areKin", "(II)Z"⟩, 13) := ⟨⟨by decide +kernel, by decide +kernel⟩, List.mem_of_getElem? (i := 157) (by decide +kernel), List.mem_of_getElem? (i := 403) (by decide +kernel), List.mem_of_getElem? (i := 404) (by decide +kernel)⟩
theorem lw_p28 : lw_okq (⟨"LetterTray$Words", "isLonger", "(II)Z"⟩, 13) := ⟨⟨by decide +kernel, by decide +kernel⟩, List.mem_of_getElem? (i := 157) (by decide +kernel), List.mem_of_getElem? (i := 407) (by decide +kernel), List.mem_of_getElem? (i := 408) (by decide +kernel)⟩
theorem lw_p29 : lw_okq (⟨"LetterTray$Words", "joinSteps", "()V"⟩, 13) := ⟨⟨by decide +kernel, by decide +kernel⟩, List.mem_of_getElem? (i := 157) (by decide +kernel), List.mem_of_getElem? (i := 411) (by decide +kernel), List.mem_of_getElem? (i := 412) (by decide +kernel)⟩
theorem lw_p30 : lw_okq (⟨"LetterTray", "begin", "()V"⟩, 10) := ⟨⟨by decide +kernel, by decide +kernel⟩, List.mem_of_getElem? (i := 15) (by decide +kernel), List.mem_of_getElem? (i := 415) (by decide +kernel), List.mem_of_getElem? (i := 416) (by decide +kernel)⟩
theorem lw_p31 : lw_okq (⟨"LetterTray$Desk", "clear", "([I)V"⟩, 7) := ⟨⟨by decide +kernel, by decide +kernel⟩, List.mem_of_getElem? (i := 48) (by decide +kernel), List.mem_of_getElem? (i := 419) (by decide +kernel), List.mem_of_getElem? (i := 420) (by decide +kernel)⟩
def lw_privs_2 : List (MethodName × Nat) := [(⟨"LetterTray$Words", "add", "(II)Z"⟩, 13), (⟨"LetterTray$Words", "samePlaces", "(II)I"⟩, 13), (⟨"LetterTray$Words", "spell", "(II)V"⟩, 13), (⟨"LetterTray$Words", "prepare", "()V"⟩, 13), (⟨"LetterTray$Words", "countNeeds", "(I)V"⟩, 13), (⟨"LetterTray$Words", "letterAt", "(II)I"⟩, 13), (⟨"LetterTray$Words", "worthOf", "(I)I"⟩, 13), (⟨"LetterTray$Words", "needOf", "(II)I"⟩, 13), (⟨"LetterTray$Words", "isMirror", "(I)Z"⟩, 13), (⟨"LetterTray$Words", "inBoth", "(II)I"⟩, 13), (⟨"LetterTray$Words", "isStep", "(II)Z"⟩, 13), (⟨"LetterTray$Words", "areKin", "(II)Z"⟩, 13), (⟨"LetterTray$Words", "isLonger", "(II)Z"⟩, 13), (⟨"LetterTray$Words", "joinSteps", "()V"⟩, 13), (⟨"LetterTray", "begin", "()V"⟩, 10), (⟨"LetterTray$Desk", "clear", "([I)V"⟩, 7)]
theorem lw_r2 : ∀ q ∈ lw_privs_2, lw_okq q := List.forall_mem_cons.mpr ⟨lw_p16, List.forall_mem_cons.mpr ⟨lw_p17, List.forall_mem_cons.mpr ⟨lw_p18, List.forall_mem_cons.mpr ⟨lw_p19, List.forall_mem_cons.mpr ⟨lw_p20, List.forall_mem_cons.mpr ⟨lw_p21, List.forall_mem_cons.mpr ⟨lw_p22, List.forall_mem_cons.mpr ⟨lw_p23, List.forall_mem_cons.mpr ⟨lw_p24, List.forall_mem_cons.mpr ⟨lw_p25, List.forall_mem_cons.mpr ⟨lw_p26, List.forall_mem_cons.mpr ⟨lw_p27, List.forall_mem_cons.mpr ⟨lw_p28, List.forall_mem_cons.mpr ⟨lw_p29, List.forall_mem_cons.mpr ⟨lw_p30, List.forall_mem_cons.mpr ⟨lw_p31, fun _ h => absurd h List.not_mem_nil⟩⟩⟩⟩⟩⟩⟩⟩⟩⟩⟩⟩⟩⟩⟩⟩
theorem lw_p32 : lw_okq (⟨"LetterTray$History", "clear", "()V"⟩, 3) := ⟨⟨by decide +kernel, by decide +kernel⟩, List.mem_of_getElem? (i := 85) (by decide +kernel), List.mem_of_getElem? (i := 427) (by decide +kernel), List.mem_of_getElem? (i := 428) (by decide +kernel)⟩
theorem lw_p33 : lw_okq (⟨"LetterTray$Rows", "forget", "()V"⟩, 7) := ⟨⟨by decide +kernel, by decide +kernel⟩, List.mem_of_getElem? (i := 219) (by decide +kernel), List.mem_of_getElem? (i := 431) (by decide +kernel), List.mem_of_getElem? (i := 432) (by decide +kernel)⟩
theorem lw_p34 : lw_okq (⟨"LetterTray$Talk", "clear", "()V"⟩, 7) := ⟨⟨by decide +kernel, by decide +kernel⟩, List.mem_of_getElem? (i := 127) (by decide +kernel), List.mem_of_getElem? (i := 435) (by decide +kernel), List.mem_of_getElem? (i := 436) (by decide +kernel)⟩
theorem lw_p35 : lw_okq (⟨"LetterTray", "canSet", "()I"⟩, 10) := ⟨⟨by decide +kernel, by decide +kernel⟩, List.mem_of_getElem? (i := 15) (by decide +kernel), List.mem_of_getElem? (i := 450) (by decide +kernel), List.mem_of_getElem? (i := 451) (by decide +kernel)⟩
theorem lw_p36 : lw_okq (⟨"LetterTray", "can", "(I)Z"⟩, 10) := ⟨⟨by decide +kernel, by decide +kernel⟩, List.mem_of_getElem? (i := 15) (by decide +kernel), List.mem_of_getElem? (i := 454) (by decide +kernel), List.mem_of_getElem? (i := 455) (by decide +kernel)⟩
theorem lw_p37 : lw_okq (⟨"LetterTray", "missing", "(I)I"⟩, 10) := ⟨⟨by decide +kernel, by decide +kernel⟩, List.mem_of_getElem? (i := 15) (by decide +kernel), List.mem_of_getElem? (i := 458) (by decide +kernel), List.mem_of_getElem? (i := 459) (by decide +kernel)⟩
theorem lw_p38 : lw_okq (⟨"LetterTray", "bestWord", "()I"⟩, 10) := ⟨⟨by decide +kernel, by decide +kernel⟩, List.mem_of_getElem? (i := 15) (by decide +kernel), List.mem_of_getElem? (i := 466) (by decide +kernel), List.mem_of_getElem? (i := 467) (by decide +kernel)⟩
theorem lw_p39 : lw_okq (⟨"LetterTray", "tried", "()LLetterTray$Rows;"⟩, 10) := ⟨⟨by decide +kernel, by decide +kernel⟩, List.mem_of_getElem? (i := 15) (by decide +kernel), List.mem_of_getElem? (i := 470) (by decide +kernel), List.mem_of_getElem? (i := 471) (by decide +kernel)⟩
theorem lw_p40 : lw_okq (⟨"LetterTray$Rows", "tryOut", "(LLetterTray$Words;[I)V"⟩, 7) := ⟨⟨by decide +kernel, by decide +kernel⟩, List.mem_of_getElem? (i := 219) (by decide +kernel), List.mem_of_getElem? (i := 474) (by decide +kernel), List.mem_of_getElem? (i := 475) (by decide +kernel)⟩
theorem lw_p41 : lw_okq (⟨"LetterTray$Rows", "isTray", "([I)Z"⟩, 7) := ⟨⟨by decide +kernel, by decide +kernel⟩, List.mem_of_getElem? (i := 219) (by decide +kernel), List.mem_of_getElem? (i := 478) (by decide +kernel), List.mem_of_getElem? (i := 479) (by decide +kernel)⟩
theorem lw_p42 : lw_okq (⟨"LetterTray$Rows", "countRests", "()V"⟩, 7) := ⟨⟨by decide +kernel, by decide +kernel⟩, List.mem_of_getElem? (i := 219) (by decide +kernel), List.mem_of_getElem? (i := 483) (by decide +kernel), List.mem_of_getElem? (i := 484) (by decide +kernel)⟩
theorem lw_p43 : lw_okq (⟨"LetterTray$Rows", "countWays", "()V"⟩, 7) := ⟨⟨by decide +kernel, by decide +kernel⟩, List.mem_of_getElem? (i := 219) (by decide +kernel), List.mem_of_getElem? (i := 488) (by decide +kernel), List.mem_of_getElem? (i := 489) (by decide +kernel)⟩
theorem lw_p44 : lw_okq (⟨"LetterTray$Rows", "after", "(II)I"⟩, 7) := ⟨⟨by decide +kernel, by decide +kernel⟩, List.mem_of_getElem? (i := 219) (by decide +kernel), List.mem_of_getElem? (i := 493) (by decide +kernel), List.mem_of_getElem? (i := 494) (by decide +kernel)⟩
theorem lw_p45 : lw_okq (⟨"LetterTray$Rows", "countIn", "(II)I"⟩, 7) := ⟨⟨by decide +kernel, by decide +kernel⟩, List.mem_of_getElem? (i := 219) (by decide +kernel), List.mem_of_getElem? (i := 497) (by decide +kernel), List.mem_of_getElem? (i := 498) (by decide +kernel)⟩
theorem lw_p46 : lw_okq (⟨"LetterTray$Rows", "rankRests", "()V"⟩, 7) := ⟨⟨by decide +kernel, by decide +kernel⟩, List.mem_of_getElem? (i := 219) (by decide +kernel), List.mem_of_getElem? (i := 502) (by decide +kernel), List.mem_of_getElem? (i := 503) (by decide +kernel)⟩
theorem lw_p47 : lw_okq (⟨"LetterTray$Rows", "rankWith", "(II)I"⟩, 7) := ⟨⟨by decide +kernel, by decide +kernel⟩, List.mem_of_getElem? (i := 219) (by decide +kernel), List.mem_of_getElem? (i := 506) (by decide +kernel), List.mem_of_getElem? (i := 507) (by decide +kernel)⟩
def lw_privs_3 : List (MethodName × Nat) := [(⟨"LetterTray$History", "clear", "()V"⟩, 3), (⟨"LetterTray$Rows", "forget", "()V"⟩, 7), (⟨"LetterTray$Talk", "clear", "()V"⟩, 7), (⟨"LetterTray", "canSet", "()I"⟩, 10), (⟨"LetterTray", "can", "(I)Z"⟩, 10), (⟨"LetterTray", "missing", "(I)I"⟩, 10), (⟨"LetterTray", "bestWord", "()I"⟩, 10), (⟨"LetterTray", "tried", "()LLetterTray$Rows;"⟩, 10), (⟨"LetterTray$Rows", "tryOut", "(LLetterTray$Words;[I)V"⟩, 7), (⟨"LetterTray$Rows", "isTray", "([I)Z"⟩, 7), (⟨"LetterTray$Rows", "countRests", "()V"⟩, 7), (⟨"LetterTray$Rows", "countWays", "()V"⟩, 7), (⟨"LetterTray$Rows", "after", "(II)I"⟩, 7), (⟨"LetterTray$Rows", "countIn", "(II)I"⟩, 7), (⟨"LetterTray$Rows", "rankRests", "()V"⟩, 7), (⟨"LetterTray$Rows", "rankWith", "(II)I"⟩, 7)]
theorem lw_r3 : ∀ q ∈ lw_privs_3, lw_okq q := List.forall_mem_cons.mpr ⟨lw_p32, List.forall_mem_cons.mpr ⟨lw_p33, List.forall_mem_cons.mpr ⟨lw_p34, List.forall_mem_cons.mpr ⟨lw_p35, List.forall_mem_cons.mpr ⟨lw_p36, List.forall_mem_cons.mpr ⟨lw_p37, List.forall_mem_cons.mpr ⟨lw_p38, List.forall_mem_cons.mpr ⟨lw_p39, List.forall_mem_cons.mpr ⟨lw_p40, List.forall_mem_cons.mpr ⟨lw_p41, List.forall_mem_cons.mpr ⟨lw_p42, List.forall_mem_cons.mpr ⟨lw_p43, List.forall_mem_cons.mpr ⟨lw_p44, List.forall_mem_cons.mpr ⟨lw_p45, List.forall_mem_cons.mpr ⟨lw_p46, List.forall_mem_cons.mpr ⟨lw_p47, fun _ h => absurd h List.not_mem_nil⟩⟩⟩⟩⟩⟩⟩⟩⟩⟩⟩⟩⟩⟩⟩⟩
theorem lw_p48 : lw_okq (⟨"LetterTray$Rows", "all", "()I"⟩, 7) := ⟨⟨by decide +kernel, by decide +kernel⟩, List.mem_of_getElem? (i := 219) (by decide +kernel), List.mem_of_getElem? (i := 511) (by decide +kernel), List.mem_of_getElem? (i := 512) (by decide +kernel)⟩
theorem lw_p49 : lw_okq (⟨"LetterTray$Rows", "most", "()I"⟩, 7) := ⟨⟨by decide +kernel, by decide +kernel⟩, List.mem_of_getElem? (i := 219) (by decide +kernel), List.mem_of_getElem? (i := 515) (by decide +kernel), List.mem_of_getElem? (i := 516) (by decide +kernel)⟩
theorem lw_p50 : lw_okq (⟨"LetterTray$Rows", "many", "()I"⟩, 7) := ⟨⟨by decide +kernel, by decide +kernel⟩, List.mem_of_getElem? (i := 219) (by decide +kernel), List.mem_of_getElem? (i := 519) (by decide +kernel), List.mem_of_getElem? (i := 520) (by decide +kernel)⟩
theorem lw_p51 : lw_okq (⟨"LetterTray$Words", "unused", "()I"⟩, 13) := ⟨⟨by decide +kernel, by decide +kernel⟩, List.mem_of_getElem? (i := 157) (by decide +kernel), List.mem_of_getElem? (i := 524) (by decide +kernel), List.mem_of_getElem? (i := 525) (by decide +kernel)⟩
theorem lw_p52 : lw_okq (⟨"LetterTray$Words", "farthest", "()I"⟩, 13) := ⟨⟨by decide +kernel, by decide +kernel⟩, List.mem_of_getElem? (i := 157) (by decide +kernel), List.mem_of_getElem? (i := 528) (by decide +kernel), List.mem_of_getElem? (i := 529) (by decide +kernel)⟩
theorem lw_p53 : lw_okq (⟨"LetterTray$Words", "stepsTo", "(II)I"⟩, 13) := ⟨⟨by decide +kernel, by decide +kernel⟩, List.mem_of_getElem? (i := 157) (by decide +kernel), List.mem_of_getElem? (i := 532) (by decide +kernel), List.mem_of_getElem? (i := 533) (by decide +kernel)⟩
theorem lw_p54 : lw_okq (⟨"LetterTray$Words", "has", "(I)Z"⟩, 13) := ⟨⟨by decide +kernel, by decide +kernel⟩, List.mem_of_getElem? (i := 157) (by decide +kernel), List.mem_of_getElem? (i := 536) (by decide +kernel), List.mem_of_getElem? (i := 537) (by decide +kernel)⟩
theorem lw_p55 : lw_okq (⟨"LetterTray$Words", "kinOf", "(I)I"⟩, 13) := ⟨⟨by decide +kernel, by decide +kernel⟩, List.mem_of_getElem? (i := 157) (by decide +kernel), List.mem_of_getElem? (i := 551) (by decide +kernel), List.mem_of_getElem? (i := 552) (by decide +kernel)⟩
theorem lw_p56 : lw_okq (⟨"LetterTray$Words", "insideOf", "(I)I"⟩, 13) := ⟨⟨by decide +kernel, by decide +kernel⟩, List.mem_of_getElem? (i := 157) (by decide +kernel), List.mem_of_getElem? (i := 555) (by decide +kernel), List.mem_of_getElem? (i := 556) (by decide +kernel)⟩
theorem lw_p57 : lw_okq (⟨"LetterTray", "odds", "(I)I"⟩, 10) := ⟨⟨by decide +kernel, by decide +kernel⟩, List.mem_of_getElem? (i := 15) (by decide +kernel), List.mem_of_getElem? (i := 559) (by decide +kernel), List.mem_of_getElem? (i := 560) (by decide +kernel)⟩
theorem lw_p58 : lw_okq (⟨"LetterTray$Desk", "hasLaid", "(I)Z"⟩, 7) := ⟨⟨by decide +kernel, by decide +kernel⟩, List.mem_of_getElem? (i := 48) (by decide +kernel), List.mem_of_getElem? (i := 572) (by decide +kernel), List.mem_of_getElem? (i := 573) (by decide +kernel)⟩
theorem lw_p59 : lw_okq (⟨"LetterTray", "drawRefusal", "()I"⟩, 10) := ⟨⟨by decide +kernel, by decide +kernel⟩, List.mem_of_getElem? (i := 15) (by decide +kernel), List.mem_of_getElem? (i := 580) (by decide +kernel), List.mem_of_getElem? (i := 581) (by decide +kernel)⟩
theorem lw_p60 : lw_okq (⟨"LetterTray$History", "push", "(LLetterTray$Desk;)V"⟩, 3) := ⟨⟨by decide +kernel, by decide +kernel⟩, List.mem_of_getElem? (i := 85) (by decide +kernel), List.mem_of_getElem? (i := 586) (by decide +kernel), List.mem_of_getElem? (i := 587) (by decide +kernel)⟩
theorem lw_p61 : lw_okq (⟨"LetterTray$Desk", "become", "(LLetterTray$Desk;)V"⟩, 7) := ⟨⟨by decide +kernel, by decide +kernel⟩, List.mem_of_getElem? (i := 48) (by decide +kernel), List.mem_of_getElem? (i := 590) (by decide +kernel), List.mem_of_getElem? (i := 591) (by decide +kernel)⟩
theorem lw_p62 : lw_okq (⟨"LetterTray", "drawOne", "()I"⟩, 10) := ⟨⟨by decide +kernel, by decide +kernel⟩, List.mem_of_getElem? (i := 15) (by decide +kernel), List.mem_of_getElem? (i := 595) (by decide +kernel), List.mem_of_getElem? (i := 596) (by decide +kernel)⟩
theorem lw_p63 : lw_okq (⟨"LetterTray", "drawOf", "(I)I"⟩, 10) := ⟨⟨by decide +kernel, by decide +kernel⟩, List.mem_of_getElem? (i := 15) (by decide +kernel), List.mem_of_getElem? (i := 599) (by decide +kernel), List.mem_of_getElem? (i := 600) (by decide +kernel)⟩
def lw_privs_4 : List (MethodName × Nat) := [(⟨"LetterTray$Rows", "all", "()I"⟩, 7), (⟨"LetterTray$Rows", "most", "()I"⟩, 7), (⟨"LetterTray$Rows", "many", "()I"⟩, 7), (⟨"LetterTray$Words", "unused", "()I"⟩, 13), (⟨"LetterTray$Words", "farthest", "()I"⟩, 13), (⟨"LetterTray$Words", "stepsTo", "(II)I"⟩, 13), (⟨"LetterTray$Words", "has", "(I)Z"⟩, 13), (⟨"LetterTray$Words", "kinOf", "(I)I"⟩, 13), (⟨"LetterTray$Words", "insideOf", "(I)I"⟩, 13), (⟨"LetterTray", "odds", "(I)I"⟩, 10), (⟨"LetterTray$Desk", "hasLaid", "(I)Z"⟩, 7), (⟨"LetterTray", "drawRefusal", "()I"⟩, 10), (⟨"LetterTray$History", "push", "(LLetterTray$Desk;)V"⟩, 3), (⟨"LetterTray$Desk", "become", "(LLetterTray$Desk;)V"⟩, 7), (⟨"LetterTray", "drawOne", "()I"⟩, 10), (⟨"LetterTray", "drawOf", "(I)I"⟩, 10)]
theorem lw_r4 : ∀ q ∈ lw_privs_4, lw_okq q := List.forall_mem_cons.mpr ⟨lw_p48, List.forall_mem_cons.mpr ⟨lw_p49, List.forall_mem_cons.mpr ⟨lw_p50, List.forall_mem_cons.mpr ⟨lw_p51, List.forall_mem_cons.mpr ⟨lw_p52, List.forall_mem_cons.mpr ⟨lw_p53, List.forall_mem_cons.mpr ⟨lw_p54, List.forall_mem_cons.mpr ⟨lw_p55, List.forall_mem_cons.mpr ⟨lw_p56, List.forall_mem_cons.mpr ⟨lw_p57, List.forall_mem_cons.mpr ⟨lw_p58, List.forall_mem_cons.mpr ⟨lw_p59, List.forall_mem_cons.mpr ⟨lw_p60, List.forall_mem_cons.mpr ⟨lw_p61, List.forall_mem_cons.mpr ⟨lw_p62, List.forall_mem_cons.mpr ⟨lw_p63, fun _ h => absurd h List.not_mem_nil⟩⟩⟩⟩⟩⟩⟩⟩⟩⟩⟩⟩⟩⟩⟩⟩
theorem lw_p64 : lw_okq (⟨"LetterTray$Desk", "toTray", "(I)V"⟩, 7) := ⟨⟨by decide +kernel, by decide +kernel⟩, List.mem_of_getElem? (i := 48) (by decide +kernel), List.mem_of_getElem? (i := 610) (by decide +kernel), List.mem_of_getElem? (i := 611) (by decide +kernel)⟩
theorem lw_p65 : lw_okq (⟨"LetterTray", "giveRefusal", "(I)I"⟩, 10) := ⟨⟨by decide +kernel, by decide +kernel⟩, List.mem_of_getElem? (i := 15) (by decide +kernel), List.mem_of_getElem? (i := 618) (by decide +kernel), List.mem_of_getElem? (i := 619) (by decide +kernel)⟩
theorem lw_p66 : lw_okq (⟨"LetterTray", "giveOne", "(I)V"⟩, 10) := ⟨⟨by decide +kernel, by decide +kernel⟩, List.mem_of_getElem? (i := 15) (by decide +kernel), List.mem_of_getElem? (i := 622) (by decide +kernel), List.mem_of_getElem? (i := 623) (by decide +kernel)⟩
theorem lw_p67 : lw_okq (⟨"LetterTray$Desk", "toBag", "(I)V"⟩, 7) := ⟨⟨by decide +kernel, by decide +kernel⟩, List.mem_of_getElem? (i := 48) (by decide +kernel), List.mem_of_getElem? (i := 626) (by decide +kernel), List.mem_of_getElem? (i := 627) (by decide +kernel)⟩
theorem lw_p68 : lw_okq (⟨"LetterTray", "layRefusal", "(I)I"⟩, 10) := ⟨⟨by decide +kernel, by decide +kernel⟩, List.mem_of_getElem? (i := 15) (by decide +kernel), List.mem_of_getElem? (i := 638) (by decide +kernel), List.mem_of_getElem? (i := 639) (by decide +kernel)⟩
theorem lw_p69 : lw_okq (⟨"LetterTray", "layOne", "(I)V"⟩, 10) := ⟨⟨by decide +kernel, by decide +kernel⟩, List.mem_of_getElem? (i := 15) (by decide +kernel), List.mem_of_getElem? (i := 642) (by decide +kernel), List.mem_of_getElem? (i := 643) (by decide +kernel)⟩
theorem lw_p70 : lw_okq (⟨"LetterTray$Desk", "layDown", "(LLetterTray$Words;I)V"⟩, 7) := ⟨⟨by decide +kernel, by decide +kernel⟩, List.mem_of_getElem? (i := 48) (by decide +kernel), List.mem_of_getElem? (i := 646) (by decide +kernel), List.mem_of_getElem? (i := 647) (by decide +kernel)⟩
theorem lw_p71 : lw_okq (⟨"LetterTray$Words", "lengthOf", "(I)I"⟩, 13) := ⟨⟨by decide +kernel, by decide +kernel⟩, List.mem_of_getElem? (i := 157) (by decide +kernel), List.mem_of_getElem? (i := 651) (by decide +kernel), List.mem_of_getElem? (i := 652) (by decide +kernel)⟩
theorem lw_p72 : lw_okq (⟨"LetterTray", "takeRefusal", "(I)I"⟩, 10) := ⟨⟨by decide +kernel, by decide +kernel⟩, List.mem_of_getElem? (i := 15) (by decide +kernel), List.mem_of_getElem? (i := 660) (by decide +kernel), List.mem_of_getElem? (i := 661) (by decide +kernel)⟩
theorem lw_p73 : lw_okq (⟨"LetterTray", "takeOne", "(I)V"⟩, 10) := ⟨⟨by decide +kernel, by decide +kernel⟩, List.mem_of_getElem? (i := 15) (by decide +kernel), List.mem_of_getElem? (i := 665) (by decide +kernel), List.mem_of_getElem? (i := 666) (by decide +kernel)⟩
theorem lw_p74 : lw_okq (⟨"LetterTray$Desk", "takeUp", "(LLetterTray$Words;I)V"⟩, 7) := ⟨⟨by decide +kernel, by decide +kernel⟩, List.mem_of_getElem? (i := 48) (by decide +kernel), List.mem_of_getElem? (i := 669) (by decide +kernel), List.mem_of_getElem? (i := 670) (by decide +kernel)⟩
theorem lw_p75 : lw_okq (⟨"LetterTray", "driftOnce", "(I)V"⟩, 10) := ⟨⟨by decide +kernel, by decide +kernel⟩, List.mem_of_getElem? (i := 15) (by decide +kernel), List.mem_of_getElem? (i := 678) (by decide +kernel), List.mem_of_getElem? (i := 679) (by decide +kernel)⟩
theorem lw_p76 : lw_okq (⟨"LetterTray", "driftGive", "()V"⟩, 10) := ⟨⟨by decide +kernel, by decide +kernel⟩, List.mem_of_getElem? (i := 15) (by decide +kernel), List.mem_of_getElem? (i := 682) (by decide +kernel), List.mem_of_getElem? (i := 683) (by decide +kernel)⟩
theorem lw_p77 : lw_okq (⟨"LetterTray", "driftLay", "()V"⟩, 10) := ⟨⟨by decide +kernel, by decide +kernel⟩, List.mem_of_getElem? (i := 15) (by decide +kernel), List.mem_of_getElem? (i := 686) (by decide +kernel), List.mem_of_getElem? (i := 687) (by decide +kernel)⟩
theorem lw_p78 : lw_okq (⟨"LetterTray", "driftTake", "()V"⟩, 10) := ⟨⟨by decide +kernel, by decide +kernel⟩, List.mem_of_getElem? (i := 15) (by decide +kernel), List.mem_of_getElem? (i := 690) (by decide +kernel), List.mem_of_getElem? (i := 691) (by decide +kernel)⟩
theorem lw_p79 : lw_okq (⟨"LetterTray$History", "pop", "(ILLetterTray$Desk;)V"⟩, 3) := ⟨⟨by decide +kernel, by decide +kernel⟩, List.mem_of_getElem? (i := 85) (by decide +kernel), List.mem_of_getElem? (i := 698) (by decide +kernel), List.mem_of_getElem? (i := 699) (by decide +kernel)⟩
def lw_privs_5 : List (MethodName × Nat) := [(⟨"LetterTray$Desk", "toTray", "(I)V"⟩, 7), (⟨"LetterTray", "giveRefusal", "(I)I"⟩, 10), (⟨"LetterTray", "giveOne", "(I)V"⟩, 10), (⟨"LetterTray$Desk", "toBag", "(I)V"⟩, 7), (⟨"LetterTray", "layRefusal", "(I)I"⟩, 10), (⟨"LetterTray", "layOne", "(I)V"⟩, 10), (⟨"LetterTray$Desk", "layDown", "(LLetterTray$Words;I)V"⟩, 7), (⟨"LetterTray$Words", "lengthOf", "(I)I"⟩, 13), (⟨"LetterTray", "takeRefusal", "(I)I"⟩, 10), (⟨"LetterTray", "takeOne", "(I)V"⟩, 10), (⟨"LetterTray$Desk", "takeUp", "(LLetterTray$Words;I)V"⟩, 7), (⟨"LetterTray", "driftOnce", "(I)V"⟩, 10), (⟨"LetterTray", "driftGive", "()V"⟩, 10), (⟨"LetterTray", "driftLay", "()V"⟩, 10), (⟨"LetterTray", "driftTake", "()V"⟩, 10), (⟨"LetterTray$History", "pop", "(ILLetterTray$Desk;)V"⟩, 3)]
theorem lw_r5 : ∀ q ∈ lw_privs_5, lw_okq q := List.forall_mem_cons.mpr ⟨lw_p64, List.forall_mem_cons.mpr ⟨lw_p65, List.forall_mem_cons.mpr ⟨lw_p66, List.forall_mem_cons.mpr ⟨lw_p67, List.forall_mem_cons.mpr ⟨lw_p68, List.forall_mem_cons.mpr ⟨lw_p69, List.forall_mem_cons.mpr ⟨lw_p70, List.forall_mem_cons.mpr ⟨lw_p71, List.forall_mem_cons.mpr ⟨lw_p72, List.forall_mem_cons.mpr ⟨lw_p73, List.forall_mem_cons.mpr ⟨lw_p74, List.forall_mem_cons.mpr ⟨lw_p75, List.forall_mem_cons.mpr ⟨lw_p76, List.forall_mem_cons.mpr ⟨lw_p77, List.forall_mem_cons.mpr ⟨lw_p78, List.forall_mem_cons.mpr ⟨lw_p79, fun _ h => absurd h List.not_mem_nil⟩⟩⟩⟩⟩⟩⟩⟩⟩⟩⟩⟩⟩⟩⟩⟩
theorem lw_p80 : lw_okq (⟨"LetterTray$Rows", "kth", "(I)I"⟩, 7) := ⟨⟨by decide +kernel, by decide +kernel⟩, List.mem_of_getElem? (i := 219) (by decide +kernel), List.mem_of_getElem? (i := 710) (by decide +kernel), List.mem_of_getElem? (i := 711) (by decide +kernel)⟩
theorem lw_p81 : lw_okq (⟨"LetterTray$Rows", "leastOfBest", "(I)I"⟩, 7) := ⟨⟨by decide +kernel, by decide +kernel⟩, List.mem_of_getElem? (i := 219) (by decide +kernel), List.mem_of_getElem? (i := 714) (by decide +kernel), List.mem_of_getElem? (i := 715) (by decide +kernel)⟩
theorem lw_p82 : lw_okq (⟨"LetterTray$Words", "nextTo", "(II)I"⟩, 13) := ⟨⟨by decide +kernel, by decide +kernel⟩, List.mem_of_getElem? (i := 157) (by decide +kernel), List.mem_of_getElem? (i := 723) (by decide +kernel), List.mem_of_getElem? (i := 724) (by decide +kernel)⟩
theorem lw_p83 : lw_okq (⟨"LetterTray$Words", "farSet", "(II)I"⟩, 13) := ⟨⟨by decide +kernel, by decide +kernel⟩, List.mem_of_getElem? (i := 157) (by decide +kernel), List.mem_of_getElem? (i := 731) (by decide +kernel), List.mem_of_getElem? (i := 732) (by decide +kernel)⟩
theorem lw_p84 : lw_okq (⟨"LetterTray$Words", "rightOf", "(II)I"⟩, 13) := ⟨⟨by decide +kernel, by decide +kernel⟩, List.mem_of_getElem? (i := 157) (by decide +kernel), List.mem_of_getElem? (i := 739) (by decide +kernel), List.mem_of_getElem? (i := 740) (by decide +kernel)⟩
theorem lw_p85 : lw_okq (⟨"LetterTray$Words", "moreOf", "(II)I"⟩, 13) := ⟨⟨by decide +kernel, by decide +kernel⟩, List.mem_of_getElem? (i := 157) (by decide +kernel), List.mem_of_getElem? (i := 743) (by decide +kernel), List.mem_of_getElem? (i := 744) (by decide +kernel)⟩
theorem lw_p86 : lw_okq (⟨"LetterTray$Talk", "addSaid", "(III)Z"⟩, 7) := ⟨⟨by decide +kernel, by decide +kernel⟩, List.mem_of_getElem? (i := 127) (by decide +kernel), List.mem_of_getElem? (i := 757) (by decide +kernel), List.mem_of_getElem? (i := 758) (by decide +kernel)⟩
theorem lw_p87 : lw_okq (⟨"LetterTray$Talk", "fitting", "(LLetterTray$Words;)I"⟩, 7) := ⟨⟨by decide +kernel, by decide +kernel⟩, List.mem_of_getElem? (i := 127) (by decide +kernel), List.mem_of_getElem? (i := 765) (by decide +kernel), List.mem_of_getElem? (i := 766) (by decide +kernel)⟩
theorem lw_p88 : lw_okq (⟨"LetterTray$Talk", "fits", "(LLetterTray$Words;I)Z"⟩, 7) := ⟨⟨by decide +kernel, by decide +kernel⟩, List.mem_of_getElem? (i := 127) (by decide +kernel), List.mem_of_getElem? (i := 769) (by decide +kernel), List.mem_of_getElem? (i := 770) (by decide +kernel)⟩
theorem lw_p89 : lw_okq (⟨"LetterTray$Talk", "bestToAsk", "(LLetterTray$Words;)I"⟩, 7) := ⟨⟨by decide +kernel, by decide +kernel⟩, List.mem_of_getElem? (i := 127) (by decide +kernel), List.mem_of_getElem? (i := 779) (by decide +kernel), List.mem_of_getElem? (i := 780) (by decide +kernel)⟩
theorem lw_p90 : lw_okq (⟨"LetterTray$Talk", "greatestPart", "(LLetterTray$Words;II)I"⟩, 7) := ⟨⟨by decide +kernel, by decide +kernel⟩, List.mem_of_getElem? (i := 127) (by decide +kernel), List.mem_of_getElem? (i := 790) (by decide +kernel), List.mem_of_getElem? (i := 791) (by decide +kernel)⟩
theorem lw_p91 : lw_okq (⟨"LetterTray$Talk", "partWith", "(LLetterTray$Words;III)I"⟩, 7) := ⟨⟨by decide +kernel, by decide +kernel⟩, List.mem_of_getElem? (i := 127) (by decide +kernel), List.mem_of_getElem? (i := 794) (by decide +kernel), List.mem_of_getElem? (i := 795) (by decide +kernel)⟩
theorem lw_p92 : lw_okq (⟨"LetterTray$Talk", "addEntry", "(II)Z"⟩, 7) := ⟨⟨by decide +kernel, by decide +kernel⟩, List.mem_of_getElem? (i := 127) (by decide +kernel), List.mem_of_getElem? (i := 803) (by decide +kernel), List.mem_of_getElem? (i := 804) (by decide +kernel)⟩
theorem lw_p93 : lw_okq (⟨"LetterTray$Talk", "firstWrong", "(LLetterTray$Desk;)I"⟩, 7) := ⟨⟨by decide +kernel, by decide +kernel⟩, List.mem_of_getElem? (i := 127) (by decide +kernel), List.mem_of_getElem? (i := 811) (by decide +kernel), List.mem_of_getElem? (i := 812) (by decide +kernel)⟩
theorem lw_p94 : lw_okq (⟨"LetterTrayModel", "letter", "()I"⟩, 39) := ⟨⟨by decide +kernel, by decide +kernel⟩, List.mem_of_getElem? (i := 833) (by decide +kernel), List.mem_of_getElem? (i := 972) (by decide +kernel), List.mem_of_getElem? (i := 973) (by decide +kernel)⟩
theorem lw_p95 : lw_okq (⟨"LetterTrayModel", "readGame", "()Z"⟩, 39) := ⟨⟨by decide +kernel, by decide +kernel⟩, List.mem_of_getElem? (i := 833) (by decide +kernel), List.mem_of_getElem? (i := 976) (by decide +kernel), List.mem_of_getElem? (i := 977) (by decide +kernel)⟩
def lw_privs_6 : List (MethodName × Nat) := [(⟨"LetterTray$Rows", "kth", "(I)I"⟩, 7), (⟨"LetterTray$Rows", "leastOfBest", "(I)I"⟩, 7), (⟨"LetterTray$Words", "nextTo", "(II)I"⟩, 13), (⟨"LetterTray$Words", "farSet", "(II)I"⟩, 13), (⟨"LetterTray$Words", "rightOf", "(II)I"⟩, 13), (⟨"LetterTray$Words", "moreOf", "(II)I"⟩, 13), (⟨"LetterTray$Talk", "addSaid", "(III)Z"⟩, 7), (⟨"LetterTray$Talk", "fitting", "(LLetterTray$Words;)I"⟩, 7), (⟨"LetterTray$Talk", "fits", "(LLetterTray$Words;I)Z"⟩, 7), (⟨"LetterTray$Talk", "bestToAsk", "(LLetterTray$Words;)I"⟩, 7), (⟨"LetterTray$Talk", "greatestPart", "(LLetterTray$Words;II)I"⟩, 7), (⟨"LetterTray$Talk", "partWith", "(LLetterTray$Words;III)I"⟩, 7), (⟨"LetterTray$Talk", "addEntry", "(II)Z"⟩, 7), (⟨"LetterTray$Talk", "firstWrong", "(LLetterTray$Desk;)I"⟩, 7), (⟨"LetterTrayModel", "letter", "()I"⟩, 39), (⟨"LetterTrayModel", "readGame", "()Z"⟩, 39)]
theorem lw_r6 : ∀ q ∈ lw_privs_6, lw_okq q := List.forall_mem_cons.mpr ⟨lw_p80, List.forall_mem_cons.mpr ⟨lw_p81, List.forall_mem_cons.mpr ⟨lw_p82, List.forall_mem_cons.mpr ⟨lw_p83, List.forall_mem_cons.mpr ⟨lw_p84, List.forall_mem_cons.mpr ⟨lw_p85, List.forall_mem_cons.mpr ⟨lw_p86, List.forall_mem_cons.mpr ⟨lw_p87, List.forall_mem_cons.mpr ⟨lw_p88, List.forall_mem_cons.mpr ⟨lw_p89, List.forall_mem_cons.mpr ⟨lw_p90, List.forall_mem_cons.mpr ⟨lw_p91, List.forall_mem_cons.mpr ⟨lw_p92, List.forall_mem_cons.mpr ⟨lw_p93, List.forall_mem_cons.mpr ⟨lw_p94, List.forall_mem_cons.mpr ⟨lw_p95, fun _ h => absurd h List.not_mem_nil⟩⟩⟩⟩⟩⟩⟩⟩⟩⟩⟩⟩⟩⟩⟩⟩
theorem lw_p96 : lw_okq (⟨"LetterTrayModel", "takes", "(I)Z"⟩, 39) := ⟨⟨by decide +kernel, by decide +kernel⟩, List.mem_of_getElem? (i := 833) (by decide +kernel), List.mem_of_getElem? (i := 980) (by decide +kernel), List.mem_of_getElem? (i := 981) (by decide +kernel)⟩
theorem lw_p97 : lw_okq (⟨"LetterTrayModel", "faults", "(II)Z"⟩, 39) := ⟨⟨by decide +kernel, by decide +kernel⟩, List.mem_of_getElem? (i := 833) (by decide +kernel), List.mem_of_getElem? (i := 984) (by decide +kernel), List.mem_of_getElem? (i := 985) (by decide +kernel)⟩
theorem lw_p98 : lw_okq (⟨"LetterTrayModel", "readValues", "()Z"⟩, 39) := ⟨⟨by decide +kernel, by decide +kernel⟩, List.mem_of_getElem? (i := 833) (by decide +kernel), List.mem_of_getElem? (i := 988) (by decide +kernel), List.mem_of_getElem? (i := 989) (by decide +kernel)⟩
theorem lw_p99 : lw_okq (⟨"LetterTrayModel", "takesNumber", "(II)Z"⟩, 39) := ⟨⟨by decide +kernel, by decide +kernel⟩, List.mem_of_getElem? (i := 833) (by decide +kernel), List.mem_of_getElem? (i := 992) (by decide +kernel), List.mem_of_getElem? (i := 993) (by decide +kernel)⟩
theorem lw_p100 : lw_okq (⟨"LetterTrayModel", "readClause", "()Z"⟩, 39) := ⟨⟨by decide +kernel, by decide +kernel⟩, List.mem_of_getElem? (i := 833) (by decide +kernel), List.mem_of_getElem? (i := 998) (by decide +kernel), List.mem_of_getElem? (i := 999) (by decide +kernel)⟩
theorem lw_p101 : lw_okq (⟨"LetterTrayModel", "readBag", "()Z"⟩, 39) := ⟨⟨by decide +kernel, by decide +kernel⟩, List.mem_of_getElem? (i := 833) (by decide +kernel), List.mem_of_getElem? (i := 1002) (by decide +kernel), List.mem_of_getElem? (i := 1003) (by decide +kernel)⟩
theorem lw_p102 : lw_okq (⟨"LetterTrayModel", "readWord", "()Z"⟩, 39) := ⟨⟨by decide +kernel, by decide +kernel⟩, List.mem_of_getElem? (i := 833) (by decide +kernel), List.mem_of_getElem? (i := 1011) (by decide +kernel), List.mem_of_getElem? (i := 1012) (by decide +kernel)⟩
theorem lw_p103 : lw_okq (⟨"LetterTrayModel", "isToldAlready", "()Z"⟩, 39) := ⟨⟨by decide +kernel, by decide +kernel⟩, List.mem_of_getElem? (i := 833) (by decide +kernel), List.mem_of_getElem? (i := 1015) (by decide +kernel), List.mem_of_getElem? (i := 1016) (by decide +kernel)⟩
theorem lw_p104 : lw_okq (⟨"LetterTrayModel", "clear", "()V"⟩, 39) := ⟨⟨by decide +kernel, by decide +kernel⟩, List.mem_of_getElem? (i := 833) (by decide +kernel), List.mem_of_getElem? (i := 1019) (by decide +kernel), List.mem_of_getElem? (i := 1020) (by decide +kernel)⟩
theorem lw_p105 : lw_okq (⟨"LetterTrayModel", "isWord", "(I)Z"⟩, 39) := ⟨⟨by decide +kernel, by decide +kernel⟩, List.mem_of_getElem? (i := 833) (by decide +kernel), List.mem_of_getElem? (i := 1040) (by decide +kernel), List.mem_of_getElem? (i := 1041) (by decide +kernel)⟩
theorem lw_p106 : lw_okq (⟨"LetterTrayModel", "worthOf", "(I)I"⟩, 39) := ⟨⟨by decide +kernel, by decide +kernel⟩, List.mem_of_getElem? (i := 833) (by decide +kernel), List.mem_of_getElem? (i := 1045) (by decide +kernel), List.mem_of_getElem? (i := 1046) (by decide +kernel)⟩
theorem lw_p107 : lw_okq (⟨"LetterTrayModel", "readsAlike", "(I)Z"⟩, 39) := ⟨⟨by decide +kernel, by decide +kernel⟩, List.mem_of_getElem? (i := 833) (by decide +kernel), List.mem_of_getElem? (i := 1049) (by decide +kernel), List.mem_of_getElem? (i := 1050) (by decide +kernel)⟩
theorem lw_p108 : lw_okq (⟨"LetterTrayModel", "missingOf", "(I)I"⟩, 39) := ⟨⟨by decide +kernel, by decide +kernel⟩, List.mem_of_getElem? (i := 833) (by decide +kernel), List.mem_of_getElem? (i := 1053) (by decide +kernel), List.mem_of_getElem? (i := 1054) (by decide +kernel)⟩
theorem lw_p109 : lw_okq (⟨"LetterTrayModel", "kinOf", "(I)I"⟩, 39) := ⟨⟨by decide +kernel, by decide +kernel⟩, List.mem_of_getElem? (i := 833) (by decide +kernel), List.mem_of_getElem? (i := 1057) (by decide +kernel), List.mem_of_getElem? (i := 1058) (by decide +kernel)⟩
theorem lw_p110 : lw_okq (⟨"LetterTrayModel", "areKin", "(II)Z"⟩, 39) := ⟨⟨by decide +kernel, by decide +kernel⟩, List.mem_of_getElem? (i := 833) (by decide +kernel), List.mem_of_getElem? (i := 1061) (by decide +kernel), List.mem_of_getElem? (i := 1062) (by decide +kernel)⟩
theorem lw_p111 : lw_okq (⟨"LetterTrayModel", "isInside", "(II)Z"⟩, 39) := ⟨⟨by decide +kernel, by decide +kernel⟩, List.mem_of_getElem? (i := 833) (by decide +kernel), List.mem_of_getElem? (i := 1065) (by decide +kernel), List.mem_of_getElem? (i := 1066) (by decide +kernel)⟩
def lw_privs_7 : List (MethodName × Nat) := [(⟨"LetterTrayModel", "takes", "(I)Z"⟩, 39), (⟨"LetterTrayModel", "faults", "(II)Z"⟩, 39), (⟨"LetterTrayModel", "readValues", "()Z"⟩, 39), (⟨"LetterTrayModel", "takesNumber", "(II)Z"⟩, 39), (⟨"LetterTrayModel", "readClause", "()Z"⟩, 39), (⟨"LetterTrayModel", "readBag", "()Z"⟩, 39), (⟨"LetterTrayModel", "readWord", "()Z"⟩, 39), (⟨"LetterTrayModel", "isToldAlready", "()Z"⟩, 39), (⟨"LetterTrayModel", "clear", "()V"⟩, 39), (⟨"LetterTrayModel", "isWord", "(I)Z"⟩, 39), (⟨"LetterTrayModel", "worthOf", "(I)I"⟩, 39), (⟨"LetterTrayModel", "readsAlike", "(I)Z"⟩, 39), (⟨"LetterTrayModel", "missingOf", "(I)I"⟩, 39), (⟨"LetterTrayModel", "kinOf", "(I)I"⟩, 39), (⟨"LetterTrayModel", "areKin", "(II)Z"⟩, 39), (⟨"LetterTrayModel", "isInside", "(II)Z"⟩, 39)]
theorem lw_r7 : ∀ q ∈ lw_privs_7, lw_okq q := List.forall_mem_cons.mpr ⟨lw_p96, List.forall_mem_cons.mpr ⟨lw_p97, List.forall_mem_cons.mpr ⟨lw_p98, List.forall_mem_cons.mpr ⟨lw_p99, List.forall_mem_cons.mpr ⟨lw_p100, List.forall_mem_cons.mpr ⟨lw_p101, List.forall_mem_cons.mpr ⟨lw_p102, List.forall_mem_cons.mpr ⟨lw_p103, List.forall_mem_cons.mpr ⟨lw_p104, List.forall_mem_cons.mpr ⟨lw_p105, List.forall_mem_cons.mpr ⟨lw_p106, List.forall_mem_cons.mpr ⟨lw_p107, List.forall_mem_cons.mpr ⟨lw_p108, List.forall_mem_cons.mpr ⟨lw_p109, List.forall_mem_cons.mpr ⟨lw_p110, List.forall_mem_cons.mpr ⟨lw_p111, fun _ h => absurd h List.not_mem_nil⟩⟩⟩⟩⟩⟩⟩⟩⟩⟩⟩⟩⟩⟩⟩⟩
theorem lw_p112 : lw_okq (⟨"LetterTrayModel", "insideOf", "(I)I"⟩, 39) := ⟨⟨by decide +kernel, by decide +kernel⟩, List.mem_of_getElem? (i := 833) (by decide +kernel), List.mem_of_getElem? (i := 1069) (by decide +kernel), List.mem_of_getElem? (i := 1070) (by decide +kernel)⟩
theorem lw_p113 : lw_okq (⟨"LetterTrayModel", "oddsOf", "(I)I"⟩, 39) := ⟨⟨by decide +kernel, by decide +kernel⟩, List.mem_of_getElem? (i := 833) (by decide +kernel), List.mem_of_getElem? (i := 1073) (by decide +kernel), List.mem_of_getElem? (i := 1074) (by decide +kernel)⟩
theorem lw_p114 : lw_okq (⟨"LetterTrayModel", "can", "(I)Z"⟩, 39) := ⟨⟨by decide +kernel, by decide +kernel⟩, List.mem_of_getElem? (i := 833) (by decide +kernel), List.mem_of_getElem? (i := 1077) (by decide +kernel), List.mem_of_getElem? (i := 1078) (by decide +kernel)⟩
theorem lw_p115 : lw_okq (⟨"LetterTrayModel", "sumOf", "(I)I"⟩, 39) := ⟨⟨by decide +kernel, by decide +kernel⟩, List.mem_of_getElem? (i := 833) (by decide +kernel), List.mem_of_getElem? (i := 1081) (by decide +kernel), List.mem_of_getElem? (i := 1082) (by decide +kernel)⟩
theorem lw_p116 : lw_okq (⟨"LetterTrayModel", "isLaid", "(I)Z"⟩, 39) := ⟨⟨by decide +kernel, by decide +kernel⟩, List.mem_of_getElem? (i := 833) (by decide +kernel), List.mem_of_getElem? (i := 1094) (by decide +kernel), List.mem_of_getElem? (i := 1095) (by decide +kernel)⟩
theorem lw_p117 : lw_okq (⟨"LetterTrayModel", "goRows", "()V"⟩, 39) := ⟨⟨by decide +kernel, by decide +kernel⟩, List.mem_of_getElem? (i := 833) (by decide +kernel), List.mem_of_getElem? (i := 1102) (by decide +kernel), List.mem_of_getElem? (i := 1103) (by decide +kernel)⟩
theorem lw_p118 : lw_okq (⟨"LetterTrayModel", "judgeRow", "(I)V"⟩, 39) := ⟨⟨by decide +kernel, by decide +kernel⟩, List.mem_of_getElem? (i := 833) (by decide +kernel), List.mem_of_getElem? (i := 1106) (by decide +kernel), List.mem_of_getElem? (i := 1107) (by decide +kernel)⟩
theorem lw_p119 : lw_okq (⟨"LetterTrayModel", "join", "(II)V"⟩, 39) := ⟨⟨by decide +kernel, by decide +kernel⟩, List.mem_of_getElem? (i := 833) (by decide +kernel), List.mem_of_getElem? (i := 1110) (by decide +kernel), List.mem_of_getElem? (i := 1111) (by decide +kernel)⟩
theorem lw_p120 : lw_okq (⟨"LetterTrayModel", "fits", "()Z"⟩, 39) := ⟨⟨by decide +kernel, by decide +kernel⟩, List.mem_of_getElem? (i := 833) (by decide +kernel), List.mem_of_getElem? (i := 1114) (by decide +kernel), List.mem_of_getElem? (i := 1115) (by decide +kernel)⟩
theorem lw_p121 : lw_okq (⟨"LetterTrayModel", "stepsTo", "(II)I"⟩, 39) := ⟨⟨by decide +kernel, by decide +kernel⟩, List.mem_of_getElem? (i := 833) (by decide +kernel), List.mem_of_getElem? (i := 1127) (by decide +kernel), List.mem_of_getElem? (i := 1128) (by decide +kernel)⟩
theorem lw_p122 : lw_okq (⟨"LetterTrayModel", "spread", "(I)I"⟩, 39) := ⟨⟨by decide +kernel, by decide +kernel⟩, List.mem_of_getElem? (i := 833) (by decide +kernel), List.mem_of_getElem? (i := 1134) (by decide +kernel), List.mem_of_getElem? (i := 1135) (by decide +kernel)⟩
theorem lw_p123 : lw_okq (⟨"LetterTrayModel", "isStep", "(II)Z"⟩, 39) := ⟨⟨by decide +kernel, by decide +kernel⟩, List.mem_of_getElem? (i := 833) (by decide +kernel), List.mem_of_getElem? (i := 1138) (by decide +kernel), List.mem_of_getElem? (i := 1139) (by decide +kernel)⟩
theorem lw_p124 : lw_okq (⟨"LetterTrayModel", "isOneOther", "(II)Z"⟩, 39) := ⟨⟨by decide +kernel, by decide +kernel⟩, List.mem_of_getElem? (i := 833) (by decide +kernel), List.mem_of_getElem? (i := 1142) (by decide +kernel), List.mem_of_getElem? (i := 1143) (by decide +kernel)⟩
theorem lw_p125 : lw_okq (⟨"LetterTrayModel", "isOneMore", "(II)Z"⟩, 39) := ⟨⟨by decide +kernel, by decide +kernel⟩, List.mem_of_getElem? (i := 833) (by decide +kernel), List.mem_of_getElem? (i := 1146) (by decide +kernel), List.mem_of_getElem? (i := 1147) (by decide +kernel)⟩
theorem lw_p126 : lw_okq (⟨"LetterTrayModel", "note", "()V"⟩, 39) := ⟨⟨by decide +kernel, by decide +kernel⟩, List.mem_of_getElem? (i := 833) (by decide +kernel), List.mem_of_getElem? (i := 1161) (by decide +kernel), List.mem_of_getElem? (i := 1162) (by decide +kernel)⟩
theorem lw_p127 : lw_okq (⟨"LetterTrayModel", "drawsOne", "()I"⟩, 39) := ⟨⟨by decide +kernel, by decide +kernel⟩, List.mem_of_getElem? (i := 833) (by decide +kernel), List.mem_of_getElem? (i := 1165) (by decide +kernel), List.mem_of_getElem? (i := 1166) (by decide +kernel)⟩
def lw_privs_8 : List (MethodName × Nat) := [(⟨"LetterTrayModel", "insideOf", "(I)I"⟩, 39), (⟨"LetterTrayModel", "oddsOf", "(I)I"⟩, 39), (⟨"LetterTrayModel", "can", "(I)Z"⟩, 39), (⟨"LetterTrayModel", "sumOf", "(I)I"⟩, 39), (⟨"LetterTrayModel", "isLaid", "(I)Z"⟩, 39), (⟨"LetterTrayModel", "goRows", "()V"⟩, 39), (⟨"LetterTrayModel", "judgeRow", "(I)V"⟩, 39), (⟨"LetterTrayModel", "join", "(II)V"⟩, 39), (⟨"LetterTrayModel", "fits", "()Z"⟩, 39), (⟨"LetterTrayModel", "stepsTo", "(II)I"⟩, 39), (⟨"LetterTrayModel", "spread", "(I)I"⟩, 39), (⟨"LetterTrayModel", "isStep", "(II)Z"⟩, 39), (⟨"LetterTrayModel", "isOneOther", "(II)Z"⟩, 39), (⟨"LetterTrayModel", "isOneMore", "(II)Z"⟩, 39), (⟨"LetterTrayModel", "note", "()V"⟩, 39), (⟨"LetterTrayModel", "drawsOne", "()I"⟩, 39)]
theorem lw_r8 : ∀ q ∈ lw_privs_8, lw_okq q := List.forall_mem_cons.mpr ⟨lw_p112, List.forall_mem_cons.mpr ⟨lw_p113, List.forall_mem_cons.mpr ⟨lw_p114, List.forall_mem_cons.mpr ⟨lw_p115, List.forall_mem_cons.mpr ⟨lw_p116, List.forall_mem_cons.mpr ⟨lw_p117, List.forall_mem_cons.mpr ⟨lw_p118, List.forall_mem_cons.mpr ⟨lw_p119, List.forall_mem_cons.mpr ⟨lw_p120, List.forall_mem_cons.mpr ⟨lw_p121, List.forall_mem_cons.mpr ⟨lw_p122, List.forall_mem_cons.mpr ⟨lw_p123, List.forall_mem_cons.mpr ⟨lw_p124, List.forall_mem_cons.mpr ⟨lw_p125, List.forall_mem_cons.mpr ⟨lw_p126, List.forall_mem_cons.mpr ⟨lw_p127, fun _ h => absurd h List.not_mem_nil⟩⟩⟩⟩⟩⟩⟩⟩⟩⟩⟩⟩⟩⟩⟩⟩
theorem lw_p128 : lw_okq (⟨"LetterTrayModel", "drawOf", "(I)I"⟩, 39) := ⟨⟨by decide +kernel, by decide +kernel⟩, List.mem_of_getElem? (i := 833) (by decide +kernel), List.mem_of_getElem? (i := 1169) (by decide +kernel), List.mem_of_getElem? (i := 1170) (by decide +kernel)⟩
theorem lw_p129 : lw_okq (⟨"LetterTrayModel", "sortAt", "(II)I"⟩, 39) := ⟨⟨by decide +kernel, by decide +kernel⟩, List.mem_of_getElem? (i := 833) (by decide +kernel), List.mem_of_getElem? (i := 1177) (by decide +kernel), List.mem_of_getElem? (i := 1178) (by decide +kernel)⟩
theorem lw_p130 : lw_okq (⟨"LetterTrayModel", "move", "(III)V"⟩, 39) := ⟨⟨by decide +kernel, by decide +kernel⟩, List.mem_of_getElem? (i := 833) (by decide +kernel), List.mem_of_getElem? (i := 1181) (by decide +kernel), List.mem_of_getElem? (i := 1182) (by decide +kernel)⟩
theorem lw_p131 : lw_okq (⟨"LetterTrayModel", "lacksTurn", "(I)I"⟩, 39) := ⟨⟨by decide +kernel, by decide +kernel⟩, List.mem_of_getElem? (i := 833) (by decide +kernel), List.mem_of_getElem? (i := 1189) (by decide +kernel), List.mem_of_getElem? (i := 1190) (by decide +kernel)⟩
theorem lw_p132 : lw_okq (⟨"LetterTrayModel", "lays", "(I)V"⟩, 39) := ⟨⟨by decide +kernel, by decide +kernel⟩, List.mem_of_getElem? (i := 833) (by decide +kernel), List.mem_of_getElem? (i := 1201) (by decide +kernel), List.mem_of_getElem? (i := 1202) (by decide +kernel)⟩
theorem lw_p133 : lw_okq (⟨"LetterTrayModel", "hasRoom", "(I)Z"⟩, 39) := ⟨⟨by decide +kernel, by decide +kernel⟩, List.mem_of_getElem? (i := 833) (by decide +kernel), List.mem_of_getElem? (i := 1209) (by decide +kernel), List.mem_of_getElem? (i := 1210) (by decide +kernel)⟩
theorem lw_p134 : lw_okq (⟨"LetterTrayModel", "takesUp", "(I)V"⟩, 39) := ⟨⟨by decide +kernel, by decide +kernel⟩, List.mem_of_getElem? (i := 833) (by decide +kernel), List.mem_of_getElem? (i := 1213) (by decide +kernel), List.mem_of_getElem? (i := 1214) (by decide +kernel)⟩
theorem lw_p135 : lw_okq (⟨"LetterTrayModel", "byDraws", "()V"⟩, 39) := ⟨⟨by decide +kernel, by decide +kernel⟩, List.mem_of_getElem? (i := 833) (by decide +kernel), List.mem_of_getElem? (i := 1222) (by decide +kernel), List.mem_of_getElem? (i := 1223) (by decide +kernel)⟩
theorem lw_p136 : lw_okq (⟨"LetterTrayModel", "rightOf", "(II)I"⟩, 39) := ⟨⟨by decide +kernel, by decide +kernel⟩, List.mem_of_getElem? (i := 833) (by decide +kernel), List.mem_of_getElem? (i := 1235) (by decide +kernel), List.mem_of_getElem? (i := 1236) (by decide +kernel)⟩
theorem lw_p137 : lw_okq (⟨"LetterTrayModel", "moreOf", "(II)I"⟩, 39) := ⟨⟨by decide +kernel, by decide +kernel⟩, List.mem_of_getElem? (i := 833) (by decide +kernel), List.mem_of_getElem? (i := 1239) (by decide +kernel), List.mem_of_getElem? (i := 1240) (by decide +kernel)⟩
theorem lw_p138 : lw_okq (⟨"LetterTrayModel", "partBy", "(II)I"⟩, 39) := ⟨⟨by decide +kernel, by decide +kernel⟩, List.mem_of_getElem? (i := 833) (by decide +kernel), List.mem_of_getElem? (i := 1267) (by decide +kernel), List.mem_of_getElem? (i := 1268) (by decide +kernel)⟩
theorem lw_p139 : lw_okq (⟨"LetterTrayModel", "canSet", "()I"⟩, 39) := ⟨⟨by decide +kernel, by decide +kernel⟩, List.mem_of_getElem? (i := 833) (by decide +kernel), List.mem_of_getElem? (i := 1299) (by decide +kernel), List.mem_of_getElem? (i := 1300) (by decide +kernel)⟩
theorem lw_p140 : lw_okq (⟨"LetterTrayModel", "bestNow", "()I"⟩, 39) := ⟨⟨by decide +kernel, by decide +kernel⟩, List.mem_of_getElem? (i := 833) (by decide +kernel), List.mem_of_getElem? (i := 1303) (by decide +kernel), List.mem_of_getElem? (i := 1304) (by decide +kernel)⟩
theorem lw_p141 : lw_okq (⟨"LetterTrayModel", "toldOfRows", "(I)I"⟩, 39) := ⟨⟨by decide +kernel, by decide +kernel⟩, List.mem_of_getElem? (i := 833) (by decide +kernel), List.mem_of_getElem? (i := 1307) (by decide +kernel), List.mem_of_getElem? (i := 1308) (by decide +kernel)⟩
theorem lw_p142 : lw_okq (⟨"LetterTrayModel", "unusedNow", "()I"⟩, 39) := ⟨⟨by decide +kernel, by decide +kernel⟩, List.mem_of_getElem? (i := 833) (by decide +kernel), List.mem_of_getElem? (i := 1311) (by decide +kernel), List.mem_of_getElem? (i := 1312) (by decide +kernel)⟩
theorem lw_p143 : lw_okq (⟨"LetterTrayModel", "farthest", "()I"⟩, 39) := ⟨⟨by decide +kernel, by decide +kernel⟩, List.mem_of_getElem? (i := 833) (by decide +kernel), List.mem_of_getElem? (i := 1315) (by decide +kernel), List.mem_of_getElem? (i := 1316) (by decide +kernel)⟩
def lw_privs_9 : List (MethodName × Nat) := [(⟨"LetterTrayModel", "drawOf", "(I)I"⟩, 39), (⟨"LetterTrayModel", "sortAt", "(II)I"⟩, 39), (⟨"LetterTrayModel", "move", "(III)V"⟩, 39), (⟨"LetterTrayModel", "lacksTurn", "(I)I"⟩, 39), (⟨"LetterTrayModel", "lays", "(I)V"⟩, 39), (⟨"LetterTrayModel", "hasRoom", "(I)Z"⟩, 39), (⟨"LetterTrayModel", "takesUp", "(I)V"⟩, 39), (⟨"LetterTrayModel", "byDraws", "()V"⟩, 39), (⟨"LetterTrayModel", "rightOf", "(II)I"⟩, 39), (⟨"LetterTrayModel", "moreOf", "(II)I"⟩, 39), (⟨"LetterTrayModel", "partBy", "(II)I"⟩, 39), (⟨"LetterTrayModel", "canSet", "()I"⟩, 39), (⟨"LetterTrayModel", "bestNow", "()I"⟩, 39), (⟨"LetterTrayModel", "toldOfRows", "(I)I"⟩, 39), (⟨"LetterTrayModel", "unusedNow", "()I"⟩, 39), (⟨"LetterTrayModel", "farthest", "()I"⟩, 39)]
theorem lw_r9 : ∀ q ∈ lw_privs_9, lw_okq q := List.forall_mem_cons.mpr ⟨lw_p128, List.forall_mem_cons.mpr ⟨lw_p129, List.forall_mem_cons.mpr ⟨lw_p130, List.forall_mem_cons.mpr ⟨lw_p131, List.forall_mem_cons.mpr ⟨lw_p132, List.forall_mem_cons.mpr ⟨lw_p133, List.forall_mem_cons.mpr ⟨lw_p134, List.forall_mem_cons.mpr ⟨lw_p135, List.forall_mem_cons.mpr ⟨lw_p136, List.forall_mem_cons.mpr ⟨lw_p137, List.forall_mem_cons.mpr ⟨lw_p138, List.forall_mem_cons.mpr ⟨lw_p139, List.forall_mem_cons.mpr ⟨lw_p140, List.forall_mem_cons.mpr ⟨lw_p141, List.forall_mem_cons.mpr ⟨lw_p142, List.forall_mem_cons.mpr ⟨lw_p143, fun _ h => absurd h List.not_mem_nil⟩⟩⟩⟩⟩⟩⟩⟩⟩⟩⟩⟩⟩⟩⟩⟩
def lw_privs : List (MethodName × Nat) := lw_privs_1 ++ (lw_privs_2 ++ (lw_privs_3 ++ (lw_privs_4 ++ (lw_privs_5 ++ (lw_privs_6 ++ (lw_privs_7 ++ (lw_privs_8 ++ (lw_privs_9))))))))
def lw_tbl : List Cond := k2_sels lw_privs ++ tables_1
theorem lw_privs_ok : ∀ q ∈ lw_privs, lw_okq q := by
  show ∀ q ∈ lw_privs_1 ++ (lw_privs_2 ++ (lw_privs_3 ++ (lw_privs_4 ++ (lw_privs_5 ++ (lw_privs_6 ++ (lw_privs_7 ++ (lw_privs_8 ++ (lw_privs_9)))))))), lw_okq q
  exact List.forall_mem_append.mpr ⟨lw_r1, List.forall_mem_append.mpr ⟨lw_r2, List.forall_mem_append.mpr ⟨lw_r3, List.forall_mem_append.mpr ⟨lw_r4, List.forall_mem_append.mpr ⟨lw_r5, List.forall_mem_append.mpr ⟨lw_r6, List.forall_mem_append.mpr ⟨lw_r7, List.forall_mem_append.mpr ⟨lw_r8, lw_r9⟩⟩⟩⟩⟩⟩⟩⟩
-- ===== end of PART A; then your names; then what follows =====
end
section
def RX0 : String := "LetterTray$Desk"
def TX0 : u_T := fun k => match k with
  | 0 => ("LetterTray$Desk", "bag", "[I", true)
  | 1 => ("LetterTray$Desk", "tray", "[I", true)
  | 2 => ("LetterTray$Desk", "laidWords", "[I", true)
  | 3 => ("LetterTray$Desk", "laidBlanks", "[I", true)
  | 4 => ("LetterTray$Desk", "count", "I", false)
  | 5 => ("LetterTray$Desk", "score", "I", false)
  | _ => ("LetterTray$Desk", "turns", "I", false)
def tyX0 : Nat → FieldType := fun k => match k with
  | 0 => .array .int
  | 1 => .array .int
  | 2 => .array .int
  | 3 => .array .int
  | 4 => .int
  | 5 => .int
  | _ => .int
abbrev wsX00 : List Cond := u_ws RX0 TX0 7
theorem nmX0 : ∀ a, a < 7 → ∀ b, b < 7 → a ≠ b → (TX0 a).2.1 ≠ (TX0 b).2.1 := by decide +kernel
theorem tyX0_ok : ∀ k, k < 7 → parseFieldDescriptor (TX0 k).2.2.1 = some (tyX0 k) := by decide +kernel
abbrev cX0_init : ByteArray := prog_2_method_1_code
def yX0_init : MethodName := ⟨RX0, "<init>", "()V"⟩
abbrev cX0_clear : ByteArray := prog_2_method_2_code
def yX0_clear : MethodName := ⟨RX0, "clear", "([I)V"⟩
abbrev cX0_become : ByteArray := prog_2_method_3_code
def yX0_become : MethodName := ⟨RX0, "become", "(LLetterTray$Desk;)V"⟩
abbrev cX0_hasLaid : ByteArray := prog_2_method_4_code
def yX0_hasLaid : MethodName := ⟨RX0, "hasLaid", "(I)Z"⟩
abbrev cX0_toTray : ByteArray := prog_2_method_5_code
def yX0_toTray : MethodName := ⟨RX0, "toTray", "(I)V"⟩
abbrev cX0_toBag : ByteArray := prog_2_method_6_code
def yX0_toBag : MethodName := ⟨RX0, "toBag", "(I)V"⟩
abbrev cX0_layDown : ByteArray := prog_2_method_7_code
def yX0_layDown : MethodName := ⟨RX0, "layDown", "(LLetterTray$Words;I)V"⟩
abbrev cX0_takeUp : ByteArray := prog_2_method_8_code
def yX0_takeUp : MethodName := ⟨RX0, "takeUp", "(LLetterTray$Words;I)V"⟩
def RX1 : String := "LetterTray$History"
def TX1 : u_T := fun k => match k with
  | 0 => ("LetterTray$History", "ring", "[LLetterTray$Desk;", true)
  | 1 => ("LetterTray$History", "next", "I", false)
  | _ => ("LetterTray$History", "count", "I", false)
def tyX1 : Nat → FieldType := fun k => match k with
  | 0 => .array (.object "LetterTray$Desk")
  | 1 => .int
  | _ => .int
abbrev wsX10 : List Cond := u_ws RX1 TX1 3
theorem nmX1 : ∀ a, a < 3 → ∀ b, b < 3 → a ≠ b → (TX1 a).2.1 ≠ (TX1 b).2.1 := by decide +kernel
theorem tyX1_ok : ∀ k, k < 3 → parseFieldDescriptor (TX1 k).2.2.1 = some (tyX1 k) := by decide +kernel
abbrev cX1_init : ByteArray := prog_3_method_1_code
def yX1_init : MethodName := ⟨RX1, "<init>", "()V"⟩
abbrev cX1_clear : ByteArray := prog_3_method_2_code
def yX1_clear : MethodName := ⟨RX1, "clear", "()V"⟩
abbrev cX1_push : ByteArray := prog_3_method_3_code
def yX1_push : MethodName := ⟨RX1, "push", "(LLetterTray$Desk;)V"⟩
abbrev cX1_pop : ByteArray := prog_3_method_4_code
def yX1_pop : MethodName := ⟨RX1, "pop", "(ILLetterTray$Desk;)V"⟩
def RX2 : String := "LetterTray$Image"
def TX2 : u_T := fun k => match k with
  | 0 => ("LetterTray$Image", "desk", "LLetterTray$Desk;", true)
  | 1 => ("LetterTray$Image", "chance", "I", false)
  | _ => ("LetterTray$Image", "kept", "Z", false)
def tyX2 : Nat → FieldType := fun k => match k with
  | 0 => .object "LetterTray$Desk"
  | 1 => .int
  | _ => .boolean
abbrev wsX20 : List Cond := u_ws RX2 TX2 3
theorem nmX2 : ∀ a, a < 3 → ∀ b, b < 3 → a ≠ b → (TX2 a).2.1 ≠ (TX2 b).2.1 := by decide +kernel
theorem tyX2_ok : ∀ k, k < 3 → parseFieldDescriptor (TX2 k).2.2.1 = some (tyX2 k) := by decide +kernel
abbrev cX2_init : ByteArray := prog_4_method_1_code
def yX2_init : MethodName := ⟨RX2, "<init>", "()V"⟩
def RX3 : String := "LetterTray$Reader"
def TX3 : u_T := fun k => match k with
  | 0 => ("LetterTray$Reader", "text", "[C", true)
  | 1 => ("LetterTray$Reader", "length", "I", false)
  | 2 => ("LetterTray$Reader", "at", "I", false)
  | 3 => ("LetterTray$Reader", "flaw", "I", false)
  | _ => ("LetterTray$Reader", "flawAt", "I", false)
def tyX3 : Nat → FieldType := fun k => match k with
  | 0 => .array .char
  | 1 => .int
  | 2 => .int
  | 3 => .int
  | _ => .int
abbrev wsX30 : List Cond := u_ws RX3 TX3 5
theorem nmX3 : ∀ a, a < 5 → ∀ b, b < 5 → a ≠ b → (TX3 a).2.1 ≠ (TX3 b).2.1 := by decide +kernel
theorem tyX3_ok : ∀ k, k < 5 → parseFieldDescriptor (TX3 k).2.2.1 = some (tyX3 k) := by decide +kernel
abbrev cX3_init : ByteArray := prog_5_method_1_code
def yX3_init : MethodName := ⟨RX3, "<init>", "()V"⟩
abbrev cX3_append : ByteArray := prog_5_method_2_code
def yX3_append : MethodName := ⟨RX3, "append", "(I)Z"⟩
abbrev cX3_read : ByteArray := prog_5_method_3_code
def yX3_read : MethodName := ⟨RX3, "read", "(LLetterTray$Words;)I"⟩
abbrev cX3_readClause : ByteArray := prog_5_method_4_code
def yX3_readClause : MethodName := ⟨RX3, "readClause", "(LLetterTray$Words;)V"⟩
abbrev cX3_startClause : ByteArray := prog_5_method_5_code
def yX3_startClause : MethodName := ⟨RX3, "startClause", "(Z)V"⟩
abbrev cX3_readValues : ByteArray := prog_5_method_6_code
def yX3_readValues : MethodName := ⟨RX3, "readValues", "(LLetterTray$Words;)V"⟩
abbrev cX3_readBag : ByteArray := prog_5_method_7_code
def yX3_readBag : MethodName := ⟨RX3, "readBag", "(LLetterTray$Words;)V"⟩
abbrev cX3_readWord : ByteArray := prog_5_method_8_code
def yX3_readWord : MethodName := ⟨RX3, "readWord", "(LLetterTray$Words;)V"⟩
abbrev cX3_endWord : ByteArray := prog_5_method_9_code
def yX3_endWord : MethodName := ⟨RX3, "endWord", "(LLetterTray$Words;II)V"⟩
abbrev cX3_endLetters : ByteArray := prog_5_method_10_code
def yX3_endLetters : MethodName := ⟨RX3, "endLetters", "(I)V"⟩
abbrev cX3_readNumber : ByteArray := prog_5_method_11_code
def yX3_readNumber : MethodName := ⟨RX3, "readNumber", "(II)I"⟩
abbrev cX3_pass : ByteArray := prog_5_method_12_code
def yX3_pass : MethodName := ⟨RX3, "pass", "(C)V"⟩
abbrev cX3_stands : ByteArray := prog_5_method_13_code
def yX3_stands : MethodName := ⟨RX3, "stands", "(C)Z"⟩
abbrev cX3_skipSpaces : ByteArray := prog_5_method_14_code
def yX3_skipSpaces : MethodName := ⟨RX3, "skipSpaces", "()V"⟩
abbrev cX3_sortHere : ByteArray := prog_5_method_15_code
def yX3_sortHere : MethodName := ⟨RX3, "sortHere", "()I"⟩
abbrev cX3_fail : ByteArray := prog_5_method_16_code
def yX3_fail : MethodName := ⟨RX3, "fail", "(II)V"⟩
def RX4 : String := "LetterTray$Rows"
def TX4 : u_T := fun k => match k with
  | 0 => ("LetterTray$Rows", "tray", "[I", true)
  | 1 => ("LetterTray$Rows", "weight", "[I", true)
  | 2 => ("LetterTray$Rows", "ways", "[I", true)
  | 3 => ("LetterTray$Rows", "best", "[I", true)
  | 4 => ("LetterTray$Rows", "rests", "I", false)
  | 5 => ("LetterTray$Rows", "fresh", "Z", false)
  | _ => ("LetterTray$Rows", "words", "LLetterTray$Words;", false)
def tyX4 : Nat → FieldType := fun k => match k with
  | 0 => .array .int
  | 1 => .array .int
  | 2 => .array .int
  | 3 => .array .int
  | 4 => .int
  | 5 => .boolean
  | _ => .object "LetterTray$Words"
abbrev wsX40 : List Cond := u_ws RX4 TX4 7
theorem nmX4 : ∀ a, a < 7 → ∀ b, b < 7 → a ≠ b → (TX4 a).2.1 ≠ (TX4 b).2.1 := by decide +kernel
theorem tyX4_ok : ∀ k, k < 7 → parseFieldDescriptor (TX4 k).2.2.1 = some (tyX4 k) := by decide +kernel
abbrev cX4_init : ByteArray := prog_6_method_1_code
def yX4_init : MethodName := ⟨RX4, "<init>", "(LLetterTray$Words;)V"⟩
abbrev cX4_forget : ByteArray := prog_6_method_2_code
def yX4_forget : MethodName := ⟨RX4, "forget", "()V"⟩
abbrev cX4_tryOut : ByteArray := prog_6_method_3_code
def yX4_tryOut : MethodName := ⟨RX4, "tryOut", "(LLetterTray$Words;[I)V"⟩
abbrev cX4_isTray : ByteArray := prog_6_method_4_code
def yX4_isTray : MethodName := ⟨RX4, "isTray", "([I)Z"⟩
abbrev cX4_countRests : ByteArray := prog_6_method_5_code
def yX4_countRests : MethodName := ⟨RX4, "countRests", "()V"⟩
abbrev cX4_countWays : ByteArray := prog_6_method_6_code
def yX4_countWays : MethodName := ⟨RX4, "countWays", "()V"⟩
abbrev cX4_rankRests : ByteArray := prog_6_method_7_code
def yX4_rankRests : MethodName := ⟨RX4, "rankRests", "()V"⟩
abbrev cX4_rankWith : ByteArray := prog_6_method_8_code
def yX4_rankWith : MethodName := ⟨RX4, "rankWith", "(II)I"⟩
abbrev cX4_after : ByteArray := prog_6_method_9_code
def yX4_after : MethodName := ⟨RX4, "after", "(II)I"⟩
abbrev cX4_countIn : ByteArray := prog_6_method_10_code
def yX4_countIn : MethodName := ⟨RX4, "countIn", "(II)I"⟩
abbrev cX4_all : ByteArray := prog_6_method_11_code
def yX4_all : MethodName := ⟨RX4, "all", "()I"⟩
abbrev cX4_most : ByteArray := prog_6_method_12_code
def yX4_most : MethodName := ⟨RX4, "most", "()I"⟩
abbrev cX4_many : ByteArray := prog_6_method_13_code
def yX4_many : MethodName := ⟨RX4, "many", "()I"⟩
abbrev cX4_kth : ByteArray := prog_6_method_14_code
def yX4_kth : MethodName := ⟨RX4, "kth", "(I)I"⟩
abbrev cX4_leastOfBest : ByteArray := prog_6_method_15_code
def yX4_leastOfBest : MethodName := ⟨RX4, "leastOfBest", "(I)I"⟩
def RX5 : String := "LetterTray$Talk"
def TX5 : u_T := fun k => match k with
  | 0 => ("LetterTray$Talk", "saidWords", "[I", true)
  | 1 => ("LetterTray$Talk", "saidRights", "[I", true)
  | 2 => ("LetterTray$Talk", "saidMores", "[I", true)
  | 3 => ("LetterTray$Talk", "places", "[I", true)
  | 4 => ("LetterTray$Talk", "placeWords", "[I", true)
  | 5 => ("LetterTray$Talk", "said", "I", false)
  | _ => ("LetterTray$Talk", "written", "I", false)
def tyX5 : Nat → FieldType := fun k => match k with
  | 0 => .array .int
  | 1 => .array .int
  | 2 => .array .int
  | 3 => .array .int
  | 4 => .array .int
  | 5 => .int
  | _ => .int
abbrev wsX50 : List Cond := u_ws RX5 TX5 7
theorem nmX5 : ∀ a, a < 7 → ∀ b, b < 7 → a ≠ b → (TX5 a).2.1 ≠ (TX5 b).2.1 := by decide +kernel
theorem tyX5_ok : ∀ k, k < 7 → parseFieldDescriptor (TX5 k).2.2.1 = some (tyX5 k) := by decide +kernel
abbrev cX5_init : ByteArray := prog_7_method_1_code
def yX5_init : MethodName := ⟨RX5, "<init>", "()V"⟩
abbrev cX5_clear : ByteArray := prog_7_method_2_code
def yX5_clear : MethodName := ⟨RX5, "clear", "()V"⟩
abbrev cX5_addSaid : ByteArray := prog_7_method_3_code
def yX5_addSaid : MethodName := ⟨RX5, "addSaid", "(III)Z"⟩
abbrev cX5_addEntry : ByteArray := prog_7_method_4_code
def yX5_addEntry : MethodName := ⟨RX5, "addEntry", "(II)Z"⟩
abbrev cX5_fitting : ByteArray := prog_7_method_5_code
def yX5_fitting : MethodName := ⟨RX5, "fitting", "(LLetterTray$Words;)I"⟩
abbrev cX5_fits : ByteArray := prog_7_method_6_code
def yX5_fits : MethodName := ⟨RX5, "fits", "(LLetterTray$Words;I)Z"⟩
abbrev cX5_bestToAsk : ByteArray := prog_7_method_7_code
def yX5_bestToAsk : MethodName := ⟨RX5, "bestToAsk", "(LLetterTray$Words;)I"⟩
abbrev cX5_greatestPart : ByteArray := prog_7_method_8_code
def yX5_greatestPart : MethodName := ⟨RX5, "greatestPart", "(LLetterTray$Words;II)I"⟩
abbrev cX5_partWith : ByteArray := prog_7_method_9_code
def yX5_partWith : MethodName := ⟨RX5, "partWith", "(LLetterTray$Words;III)I"⟩
abbrev cX5_firstWrong : ByteArray := prog_7_method_10_code
def yX5_firstWrong : MethodName := ⟨RX5, "firstWrong", "(LLetterTray$Desk;)I"⟩
def RX6 : String := "LetterTray$Words"
def TX6 : u_T := fun k => match k with
  | 0 => ("LetterTray$Words", "values", "[I", true)
  | 1 => ("LetterTray$Words", "bag", "[I", true)
  | 2 => ("LetterTray$Words", "kinds", "[I", true)
  | 3 => ("LetterTray$Words", "lengths", "[I", true)
  | 4 => ("LetterTray$Words", "worths", "[I", true)
  | 5 => ("LetterTray$Words", "spelling", "[I", true)
  | 6 => ("LetterTray$Words", "needed", "[I", true)
  | 7 => ("LetterTray$Words", "steps", "[I", true)
  | 8 => ("LetterTray$Words", "rights", "[I", true)
  | 9 => ("LetterTray$Words", "mores", "[I", true)
  | 10 => ("LetterTray$Words", "isGame", "Z", false)
  | 11 => ("LetterTray$Words", "hasBag", "Z", false)
  | _ => ("LetterTray$Words", "count", "I", false)
def tyX6 : Nat → FieldType := fun k => match k with
  | 0 => .array .int
  | 1 => .array .int
  | 2 => .array .int
  | 3 => .array .int
  | 4 => .array .int
  | 5 => .array .int
  | 6 => .array .int
  | 7 => .array .int
  | 8 => .array .int
  | 9 => .array .int
  | 10 => .boolean
  | 11 => .boolean
  | _ => .int
abbrev wsX60 : List Cond := u_ws RX6 TX6 13
theorem nmX6 : ∀ a, a < 13 → ∀ b, b < 13 → a ≠ b → (TX6 a).2.1 ≠ (TX6 b).2.1 := by decide +kernel
theorem tyX6_ok : ∀ k, k < 13 → parseFieldDescriptor (TX6 k).2.2.1 = some (tyX6 k) := by decide +kernel
abbrev cX6_init : ByteArray := prog_8_method_1_code
def yX6_init : MethodName := ⟨RX6, "<init>", "()V"⟩
abbrev cX6_clear : ByteArray := prog_8_method_2_code
def yX6_clear : MethodName := ⟨RX6, "clear", "()V"⟩
abbrev cX6_has : ByteArray := prog_8_method_3_code
def yX6_has : MethodName := ⟨RX6, "has", "(I)Z"⟩
abbrev cX6_spell : ByteArray := prog_8_method_4_code
def yX6_spell : MethodName := ⟨RX6, "spell", "(II)V"⟩
abbrev cX6_add : ByteArray := prog_8_method_5_code
def yX6_add : MethodName := ⟨RX6, "add", "(II)Z"⟩
abbrev cX6_lengthOf : ByteArray := prog_8_method_6_code
def yX6_lengthOf : MethodName := ⟨RX6, "lengthOf", "(I)I"⟩
abbrev cX6_letterAt : ByteArray := prog_8_method_7_code
def yX6_letterAt : MethodName := ⟨RX6, "letterAt", "(II)I"⟩
abbrev cX6_needOf : ByteArray := prog_8_method_8_code
def yX6_needOf : MethodName := ⟨RX6, "needOf", "(II)I"⟩
abbrev cX6_prepare : ByteArray := prog_8_method_9_code
def yX6_prepare : MethodName := ⟨RX6, "prepare", "()V"⟩
abbrev cX6_countNeeds : ByteArray := prog_8_method_10_code
def yX6_countNeeds : MethodName := ⟨RX6, "countNeeds", "(I)V"⟩
abbrev cX6_worthOf : ByteArray := prog_8_method_11_code
def yX6_worthOf : MethodName := ⟨RX6, "worthOf", "(I)I"⟩
abbrev cX6_isMirror : ByteArray := prog_8_method_12_code
def yX6_isMirror : MethodName := ⟨RX6, "isMirror", "(I)Z"⟩
abbrev cX6_samePlaces : ByteArray := prog_8_method_13_code
def yX6_samePlaces : MethodName := ⟨RX6, "samePlaces", "(II)I"⟩
abbrev cX6_inBoth : ByteArray := prog_8_method_14_code
def yX6_inBoth : MethodName := ⟨RX6, "inBoth", "(II)I"⟩
abbrev cX6_areKin : ByteArray := prog_8_method_15_code
def yX6_areKin : MethodName := ⟨RX6, "areKin", "(II)Z"⟩
abbrev cX6_isStep : ByteArray := prog_8_method_16_code
def yX6_isStep : MethodName := ⟨RX6, "isStep", "(II)Z"⟩
abbrev cX6_isLonger : ByteArray := prog_8_method_17_code
def yX6_isLonger : MethodName := ⟨RX6, "isLonger", "(II)Z"⟩
abbrev cX6_joinSteps : ByteArray := prog_8_method_18_code
def yX6_joinSteps : MethodName := ⟨RX6, "joinSteps", "()V"⟩
abbrev cX6_kinOf : ByteArray := prog_8_method_19_code
def yX6_kinOf : MethodName := ⟨RX6, "kinOf", "(I)I"⟩
abbrev cX6_insideOf : ByteArray := prog_8_method_20_code
def yX6_insideOf : MethodName := ⟨RX6, "insideOf", "(I)I"⟩
abbrev cX6_unused : ByteArray := prog_8_method_21_code
def yX6_unused : MethodName := ⟨RX6, "unused", "()I"⟩
abbrev cX6_rightOf : ByteArray := prog_8_method_22_code
def yX6_rightOf : MethodName := ⟨RX6, "rightOf", "(II)I"⟩
abbrev cX6_moreOf : ByteArray := prog_8_method_23_code
def yX6_moreOf : MethodName := ⟨RX6, "moreOf", "(II)I"⟩
abbrev cX6_stepsTo : ByteArray := prog_8_method_24_code
def yX6_stepsTo : MethodName := ⟨RX6, "stepsTo", "(II)I"⟩
abbrev cX6_nextTo : ByteArray := prog_8_method_25_code
def yX6_nextTo : MethodName := ⟨RX6, "nextTo", "(II)I"⟩
abbrev cX6_farSet : ByteArray := prog_8_method_26_code
def yX6_farSet : MethodName := ⟨RX6, "farSet", "(II)I"⟩
abbrev cX6_farthest : ByteArray := prog_8_method_27_code
def yX6_farthest : MethodName := ⟨RX6, "farthest", "()I"⟩
def RX7 : String := "LetterTray"
def TX7 : u_T := fun k => match k with
  | 0 => ("LetterTray", "reader", "LLetterTray$Reader;", true)
  | 1 => ("LetterTray", "desk", "LLetterTray$Desk;", true)
  | 2 => ("LetterTray", "history", "LLetterTray$History;", true)
  | 3 => ("LetterTray", "images", "[LLetterTray$Image;", true)
  | 4 => ("LetterTray", "rows", "LLetterTray$Rows;", true)
  | 5 => ("LetterTray", "talk", "LLetterTray$Talk;", true)
  | 6 => ("LetterTray", "words", "LLetterTray$Words;", false)
  | 7 => ("LetterTray", "spare", "LLetterTray$Words;", false)
  | 8 => ("LetterTray", "chance", "I", false)
  | _ => ("LetterTray", "faultAt", "I", false)
def tyX7 : Nat → FieldType := fun k => match k with
  | 0 => .object "LetterTray$Reader"
  | 1 => .object "LetterTray$Desk"
  | 2 => .object "LetterTray$History"
  | 3 => .array (.object "LetterTray$Image")
  | 4 => .object "LetterTray$Rows"
  | 5 => .object "LetterTray$Talk"
  | 6 => .object "LetterTray$Words"
  | 7 => .object "LetterTray$Words"
  | 8 => .int
  | _ => .int
abbrev wsX70 : List Cond := u_ws RX7 TX7 10
theorem nmX7 : ∀ a, a < 10 → ∀ b, b < 10 → a ≠ b → (TX7 a).2.1 ≠ (TX7 b).2.1 := by decide +kernel
theorem tyX7_ok : ∀ k, k < 10 → parseFieldDescriptor (TX7 k).2.2.1 = some (tyX7 k) := by decide +kernel
abbrev cX7_init : ByteArray := prog_1_method_1_code
def yX7_init : MethodName := ⟨RX7, "<init>", "()V"⟩
abbrev cX7_feed : ByteArray := prog_1_method_2_code
def yX7_feed : MethodName := ⟨RX7, "feed", "(I)I"⟩
abbrev cX7_game : ByteArray := prog_1_method_3_code
def yX7_game : MethodName := ⟨RX7, "game", "()I"⟩
abbrev cX7_begin : ByteArray := prog_1_method_4_code
def yX7_begin : MethodName := ⟨RX7, "begin", "()V"⟩
abbrev cX7_fault : ByteArray := prog_1_method_5_code
def yX7_fault : MethodName := ⟨RX7, "fault", "()I"⟩
abbrev cX7_told : ByteArray := prog_1_method_6_code
def yX7_told : MethodName := ⟨RX7, "told", "(I)I"⟩
abbrev cX7_letters : ByteArray := prog_1_method_7_code
def yX7_letters : MethodName := ⟨RX7, "letters", "(II)I"⟩
abbrev cX7_word : ByteArray := prog_1_method_8_code
def yX7_word : MethodName := ⟨RX7, "word", "(II)I"⟩
abbrev cX7_spelt : ByteArray := prog_1_method_9_code
def yX7_spelt : MethodName := ⟨RX7, "spelt", "(II)I"⟩
abbrev cX7_laid : ByteArray := prog_1_method_10_code
def yX7_laid : MethodName := ⟨RX7, "laid", "(II)I"⟩
abbrev cX7_draw : ByteArray := prog_1_method_11_code
def yX7_draw : MethodName := ⟨RX7, "draw", "()I"⟩
abbrev cX7_give : ByteArray := prog_1_method_12_code
def yX7_give : MethodName := ⟨RX7, "give", "(I)I"⟩
abbrev cX7_change : ByteArray := prog_1_method_13_code
def yX7_change : MethodName := ⟨RX7, "change", "(I)I"⟩
abbrev cX7_lay : ByteArray := prog_1_method_14_code
def yX7_lay : MethodName := ⟨RX7, "lay", "(I)I"⟩
abbrev cX7_take : ByteArray := prog_1_method_15_code
def yX7_take : MethodName := ⟨RX7, "take", "(I)I"⟩
abbrev cX7_drift : ByteArray := prog_1_method_16_code
def yX7_drift : MethodName := ⟨RX7, "drift", "(I)I"⟩
abbrev cX7_undo : ByteArray := prog_1_method_17_code
def yX7_undo : MethodName := ⟨RX7, "undo", "(I)I"⟩
abbrev cX7_drawRefusal : ByteArray := prog_1_method_18_code
def yX7_drawRefusal : MethodName := ⟨RX7, "drawRefusal", "()I"⟩
abbrev cX7_giveRefusal : ByteArray := prog_1_method_19_code
def yX7_giveRefusal : MethodName := ⟨RX7, "giveRefusal", "(I)I"⟩
abbrev cX7_layRefusal : ByteArray := prog_1_method_20_code
def yX7_layRefusal : MethodName := ⟨RX7, "layRefusal", "(I)I"⟩
abbrev cX7_takeRefusal : ByteArray := prog_1_method_21_code
def yX7_takeRefusal : MethodName := ⟨RX7, "takeRefusal", "(I)I"⟩
abbrev cX7_drawOne : ByteArray := prog_1_method_22_code
def yX7_drawOne : MethodName := ⟨RX7, "drawOne", "()I"⟩
abbrev cX7_giveOne : ByteArray := prog_1_method_23_code
def yX7_giveOne : MethodName := ⟨RX7, "giveOne", "(I)V"⟩
abbrev cX7_layOne : ByteArray := prog_1_method_24_code
def yX7_layOne : MethodName := ⟨RX7, "layOne", "(I)V"⟩
abbrev cX7_takeOne : ByteArray := prog_1_method_25_code
def yX7_takeOne : MethodName := ⟨RX7, "takeOne", "(I)V"⟩
abbrev cX7_driftOnce : ByteArray := prog_1_method_26_code
def yX7_driftOnce : MethodName := ⟨RX7, "driftOnce", "(I)V"⟩
abbrev cX7_driftGive : ByteArray := prog_1_method_27_code
def yX7_driftGive : MethodName := ⟨RX7, "driftGive", "()V"⟩
abbrev cX7_driftLay : ByteArray := prog_1_method_28_code
def yX7_driftLay : MethodName := ⟨RX7, "driftLay", "()V"⟩
abbrev cX7_driftTake : ByteArray := prog_1_method_29_code
def yX7_driftTake : MethodName := ⟨RX7, "driftTake", "()V"⟩
abbrev cX7_drawOf : ByteArray := prog_1_method_30_code
def yX7_drawOf : MethodName := ⟨RX7, "drawOf", "(I)I"⟩
abbrev cX7_needs : ByteArray := prog_1_method_31_code
def yX7_needs : MethodName := ⟨RX7, "needs", "(II)I"⟩
abbrev cX7_first : ByteArray := prog_1_method_32_code
def yX7_first : MethodName := ⟨RX7, "first", "(I)I"⟩
abbrev cX7_ladder : ByteArray := prog_1_method_33_code
def yX7_ladder : MethodName := ⟨RX7, "ladder", "(III)I"⟩
abbrev cX7_far : ByteArray := prog_1_method_34_code
def yX7_far : MethodName := ⟨RX7, "far", "(II)I"⟩
abbrev cX7_right : ByteArray := prog_1_method_35_code
def yX7_right : MethodName := ⟨RX7, "right", "(III)I"⟩
abbrev cX7_luck : ByteArray := prog_1_method_36_code
def yX7_luck : MethodName := ⟨RX7, "luck", "(II)I"⟩
abbrev cX7_missing : ByteArray := prog_1_method_37_code
def yX7_missing : MethodName := ⟨RX7, "missing", "(I)I"⟩
abbrev cX7_can : ByteArray := prog_1_method_38_code
def yX7_can : MethodName := ⟨RX7, "can", "(I)Z"⟩
abbrev cX7_canSet : ByteArray := prog_1_method_39_code
def yX7_canSet : MethodName := ⟨RX7, "canSet", "()I"⟩
abbrev cX7_bestWord : ByteArray := prog_1_method_40_code
def yX7_bestWord : MethodName := ⟨RX7, "bestWord", "()I"⟩
abbrev cX7_odds : ByteArray := prog_1_method_41_code
def yX7_odds : MethodName := ⟨RX7, "odds", "(I)I"⟩
abbrev cX7_tried : ByteArray := prog_1_method_42_code
def yX7_tried : MethodName := ⟨RX7, "tried", "()LLetterTray$Rows;"⟩
abbrev cX7_say : ByteArray := prog_1_method_43_code
def yX7_say : MethodName := ⟨RX7, "say", "(III)I"⟩
abbrev cX7_couldBe : ByteArray := prog_1_method_44_code
def yX7_couldBe : MethodName := ⟨RX7, "couldBe", "()I"⟩
abbrev cX7_ask : ByteArray := prog_1_method_45_code
def yX7_ask : MethodName := ⟨RX7, "ask", "()I"⟩
abbrev cX7_write : ByteArray := prog_1_method_46_code
def yX7_write : MethodName := ⟨RX7, "write", "(II)I"⟩
abbrev cX7_judge : ByteArray := prog_1_method_47_code
def yX7_judge : MethodName := ⟨RX7, "judge", "()I"⟩
abbrev cX7_tear : ByteArray := prog_1_method_48_code
def yX7_tear : MethodName := ⟨RX7, "tear", "()I"⟩
abbrev cX7_seed : ByteArray := prog_1_method_49_code
def yX7_seed : MethodName := ⟨RX7, "seed", "(I)I"⟩
abbrev cX7_keep : ByteArray := prog_1_method_50_code
def yX7_keep : MethodName := ⟨RX7, "keep", "(I)I"⟩
abbrev cX7_goBack : ByteArray := prog_1_method_51_code
def yX7_goBack : MethodName := ⟨RX7, "goBack", "(I)I"⟩
abbrev cX7_sum : ByteArray := prog_1_method_52_code
def yX7_sum : MethodName := ⟨RX7, "sum", "([I)I"⟩
abbrev cX7_nthSort : ByteArray := prog_1_method_53_code
def yX7_nthSort : MethodName := ⟨RX7, "nthSort", "([II)I"⟩
def RX8 : String := "LetterTrayModel"
def TX8 : u_T := fun k => match k with
  | 0 => ("LetterTrayModel", "values", "[I", true)
  | 1 => ("LetterTrayModel", "kinds", "[I", true)
  | 2 => ("LetterTrayModel", "sizes", "[I", true)
  | 3 => ("LetterTrayModel", "spelt", "[I", true)
  | 4 => ("LetterTrayModel", "has", "[I", true)
  | 5 => ("LetterTrayModel", "words", "I", false)
  | 6 => ("LetterTrayModel", "isGame", "Z", false)
  | 7 => ("LetterTrayModel", "st", "[I", true)
  | 8 => ("LetterTrayModel", "seed", "I", false)
  | 9 => ("LetterTrayModel", "past", "[I", true)
  | 10 => ("LetterTrayModel", "undoMany", "I", false)
  | 11 => ("LetterTrayModel", "text", "[I", true)
  | 12 => ("LetterTrayModel", "length", "I", false)
  | 13 => ("LetterTrayModel", "place", "I", false)
  | 14 => ("LetterTrayModel", "wrongAt", "I", false)
  | 15 => ("LetterTrayModel", "wrong", "I", false)
  | 16 => ("LetterTrayModel", "number", "I", false)
  | 17 => ("LetterTrayModel", "newValues", "[I", true)
  | 18 => ("LetterTrayModel", "newBag", "[I", true)
  | 19 => ("LetterTrayModel", "newKinds", "[I", true)
  | 20 => ("LetterTrayModel", "newSizes", "[I", true)
  | 21 => ("LetterTrayModel", "newSpelt", "[I", true)
  | 22 => ("LetterTrayModel", "newWords", "I", false)
  | 23 => ("LetterTrayModel", "newIsBag", "Z", false)
  | 24 => ("LetterTrayModel", "row", "[I", true)
  | 25 => ("LetterTrayModel", "rowMany", "I", false)
  | 26 => ("LetterTrayModel", "needed", "[I", true)
  | 27 => ("LetterTrayModel", "rowLong", "I", false)
  | 28 => ("LetterTrayModel", "rowWorth", "I", false)
  | 29 => ("LetterTrayModel", "allRows", "I", false)
  | 30 => ("LetterTrayModel", "mostWorth", "I", false)
  | 31 => ("LetterTrayModel", "mostMany", "I", false)
  | 32 => ("LetterTrayModel", "mostRow", "[I", true)
  | 33 => ("LetterTrayModel", "said", "[I", true)
  | 34 => ("LetterTrayModel", "saidMany", "I", false)
  | 35 => ("LetterTrayModel", "book", "[I", true)
  | 36 => ("LetterTrayModel", "bookMany", "I", false)
  | 37 => ("LetterTrayModel", "images", "[I", true)
  | _ => ("LetterTrayModel", "isKept", "[Z", true)
def tyX8 : Nat → FieldType := fun k => match k with
  | 0 => .array .int
  | 1 => .array .int
  | 2 => .array .int
  | 3 => .array .int
  | 4 => .array .int
  | 5 => .int
  | 6 => .boolean
  | 7 => .array .int
  | 8 => .int
  | 9 => .array .int
  | 10 => .int
  | 11 => .array .int
  | 12 => .int
  | 13 => .int
  | 14 => .int
  | 15 => .int
  | 16 => .int
  | 17 => .array .int
  | 18 => .array .int
  | 19 => .array .int
  | 20 => .array .int
  | 21 => .array .int
  | 22 => .int
  | 23 => .boolean
  | 24 => .array .int
  | 25 => .int
  | 26 => .array .int
  | 27 => .int
  | 28 => .int
  | 29 => .int
  | 30 => .int
  | 31 => .int
  | 32 => .array .int
  | 33 => .array .int
  | 34 => .int
  | 35 => .array .int
  | 36 => .int
  | 37 => .array .int
  | _ => .array .boolean
abbrev wsX80 : List Cond := u_ws RX8 TX8 39
theorem nmX8 : ∀ a, a < 39 → ∀ b, b < 39 → a ≠ b → (TX8 a).2.1 ≠ (TX8 b).2.1 := by decide +kernel
theorem tyX8_ok : ∀ k, k < 39 → parseFieldDescriptor (TX8 k).2.2.1 = some (tyX8 k) := by decide +kernel
abbrev cX8_init : ByteArray := prog_10_method_1_code
def yX8_init : MethodName := ⟨RX8, "<init>", "()V"⟩
abbrev cX8_in : ByteArray := prog_10_method_2_code
def yX8_in : MethodName := ⟨RX8, "in", "(JJJ)Z"⟩
abbrev cX8_isIn : ByteArray := prog_10_method_3_code
def yX8_isIn : MethodName := ⟨RX8, "isIn", "(II)Z"⟩
abbrev cX8_ones : ByteArray := prog_10_method_4_code
def yX8_ones : MethodName := ⟨RX8, "ones", "(I)I"⟩
abbrev cX8_isWord : ByteArray := prog_10_method_5_code
def yX8_isWord : MethodName := ⟨RX8, "isWord", "(I)Z"⟩
abbrev cX8_isSort : ByteArray := prog_10_method_6_code
def yX8_isSort : MethodName := ⟨RX8, "isSort", "(I)Z"⟩
abbrev cX8_feed : ByteArray := prog_10_method_7_code
def yX8_feed : MethodName := ⟨RX8, "feed", "(I)I"⟩
abbrev cX8_letter : ByteArray := prog_10_method_8_code
def yX8_letter : MethodName := ⟨RX8, "letter", "()I"⟩
abbrev cX8_faults : ByteArray := prog_10_method_9_code
def yX8_faults : MethodName := ⟨RX8, "faults", "(II)Z"⟩
abbrev cX8_takes : ByteArray := prog_10_method_10_code
def yX8_takes : MethodName := ⟨RX8, "takes", "(I)Z"⟩
abbrev cX8_takesNumber : ByteArray := prog_10_method_11_code
def yX8_takesNumber : MethodName := ⟨RX8, "takesNumber", "(II)Z"⟩
abbrev cX8_readValues : ByteArray := prog_10_method_12_code
def yX8_readValues : MethodName := ⟨RX8, "readValues", "()Z"⟩
abbrev cX8_sortBy : ByteArray := prog_10_method_13_code
def yX8_sortBy : MethodName := ⟨RX8, "sortBy", "(I)I"⟩
abbrev cX8_readBag : ByteArray := prog_10_method_14_code
def yX8_readBag : MethodName := ⟨RX8, "readBag", "()Z"⟩
abbrev cX8_isToldAlready : ByteArray := prog_10_method_15_code
def yX8_isToldAlready : MethodName := ⟨RX8, "isToldAlready", "()Z"⟩
abbrev cX8_readWord : ByteArray := prog_10_method_16_code
def yX8_readWord : MethodName := ⟨RX8, "readWord", "()Z"⟩
abbrev cX8_readClause : ByteArray := prog_10_method_17_code
def yX8_readClause : MethodName := ⟨RX8, "readClause", "()Z"⟩
abbrev cX8_readGame : ByteArray := prog_10_method_18_code
def yX8_readGame : MethodName := ⟨RX8, "readGame", "()Z"⟩
abbrev cX8_clear : ByteArray := prog_10_method_19_code
def yX8_clear : MethodName := ⟨RX8, "clear", "()V"⟩
abbrev cX8_game : ByteArray := prog_10_method_20_code
def yX8_game : MethodName := ⟨RX8, "game", "()I"⟩
abbrev cX8_fault : ByteArray := prog_10_method_21_code
def yX8_fault : MethodName := ⟨RX8, "fault", "()I"⟩
abbrev cX8_sumOf : ByteArray := prog_10_method_22_code
def yX8_sumOf : MethodName := ⟨RX8, "sumOf", "(I)I"⟩
abbrev cX8_readsAlike : ByteArray := prog_10_method_23_code
def yX8_readsAlike : MethodName := ⟨RX8, "readsAlike", "(I)Z"⟩
abbrev cX8_worthOf : ByteArray := prog_10_method_24_code
def yX8_worthOf : MethodName := ⟨RX8, "worthOf", "(I)I"⟩
abbrev cX8_missingOf : ByteArray := prog_10_method_25_code
def yX8_missingOf : MethodName := ⟨RX8, "missingOf", "(I)I"⟩
abbrev cX8_can : ByteArray := prog_10_method_26_code
def yX8_can : MethodName := ⟨RX8, "can", "(I)Z"⟩
abbrev cX8_canSet : ByteArray := prog_10_method_27_code
def yX8_canSet : MethodName := ⟨RX8, "canSet", "()I"⟩
abbrev cX8_bestNow : ByteArray := prog_10_method_28_code
def yX8_bestNow : MethodName := ⟨RX8, "bestNow", "()I"⟩
abbrev cX8_isInside : ByteArray := prog_10_method_29_code
def yX8_isInside : MethodName := ⟨RX8, "isInside", "(II)Z"⟩
abbrev cX8_areKin : ByteArray := prog_10_method_30_code
def yX8_areKin : MethodName := ⟨RX8, "areKin", "(II)Z"⟩
abbrev cX8_kinOf : ByteArray := prog_10_method_31_code
def yX8_kinOf : MethodName := ⟨RX8, "kinOf", "(I)I"⟩
abbrev cX8_insideOf : ByteArray := prog_10_method_32_code
def yX8_insideOf : MethodName := ⟨RX8, "insideOf", "(I)I"⟩
abbrev cX8_unusedNow : ByteArray := prog_10_method_33_code
def yX8_unusedNow : MethodName := ⟨RX8, "unusedNow", "()I"⟩
abbrev cX8_oddsOf : ByteArray := prog_10_method_34_code
def yX8_oddsOf : MethodName := ⟨RX8, "oddsOf", "(I)I"⟩
abbrev cX8_letters : ByteArray := prog_10_method_35_code
def yX8_letters : MethodName := ⟨RX8, "letters", "(II)I"⟩
abbrev cX8_word : ByteArray := prog_10_method_36_code
def yX8_word : MethodName := ⟨RX8, "word", "(II)I"⟩
abbrev cX8_spelt : ByteArray := prog_10_method_37_code
def yX8_spelt : MethodName := ⟨RX8, "spelt", "(II)I"⟩
abbrev cX8_isLaid : ByteArray := prog_10_method_38_code
def yX8_isLaid : MethodName := ⟨RX8, "isLaid", "(I)Z"⟩
abbrev cX8_laid : ByteArray := prog_10_method_39_code
def yX8_laid : MethodName := ⟨RX8, "laid", "(II)I"⟩
abbrev cX8_join : ByteArray := prog_10_method_40_code
def yX8_join : MethodName := ⟨RX8, "join", "(II)V"⟩
abbrev cX8_fits : ByteArray := prog_10_method_41_code
def yX8_fits : MethodName := ⟨RX8, "fits", "()Z"⟩
abbrev cX8_judgeRow : ByteArray := prog_10_method_42_code
def yX8_judgeRow : MethodName := ⟨RX8, "judgeRow", "(I)V"⟩
abbrev cX8_goRows : ByteArray := prog_10_method_43_code
def yX8_goRows : MethodName := ⟨RX8, "goRows", "()V"⟩
abbrev cX8_first : ByteArray := prog_10_method_44_code
def yX8_first : MethodName := ⟨RX8, "first", "(I)I"⟩
abbrev cX8_needs : ByteArray := prog_10_method_45_code
def yX8_needs : MethodName := ⟨RX8, "needs", "(II)I"⟩
abbrev cX8_isOneOther : ByteArray := prog_10_method_46_code
def yX8_isOneOther : MethodName := ⟨RX8, "isOneOther", "(II)Z"⟩
abbrev cX8_isOneMore : ByteArray := prog_10_method_47_code
def yX8_isOneMore : MethodName := ⟨RX8, "isOneMore", "(II)Z"⟩
abbrev cX8_isStep : ByteArray := prog_10_method_48_code
def yX8_isStep : MethodName := ⟨RX8, "isStep", "(II)Z"⟩
abbrev cX8_spread : ByteArray := prog_10_method_49_code
def yX8_spread : MethodName := ⟨RX8, "spread", "(I)I"⟩
abbrev cX8_stepsTo : ByteArray := prog_10_method_50_code
def yX8_stepsTo : MethodName := ⟨RX8, "stepsTo", "(II)I"⟩
abbrev cX8_ladder : ByteArray := prog_10_method_51_code
def yX8_ladder : MethodName := ⟨RX8, "ladder", "(III)I"⟩
abbrev cX8_far : ByteArray := prog_10_method_52_code
def yX8_far : MethodName := ⟨RX8, "far", "(II)I"⟩
abbrev cX8_farthest : ByteArray := prog_10_method_53_code
def yX8_farthest : MethodName := ⟨RX8, "farthest", "()I"⟩
abbrev cX8_note : ByteArray := prog_10_method_54_code
def yX8_note : MethodName := ⟨RX8, "note", "()V"⟩
abbrev cX8_drawOf : ByteArray := prog_10_method_55_code
def yX8_drawOf : MethodName := ⟨RX8, "drawOf", "(I)I"⟩
abbrev cX8_sortAt : ByteArray := prog_10_method_56_code
def yX8_sortAt : MethodName := ⟨RX8, "sortAt", "(II)I"⟩
abbrev cX8_move : ByteArray := prog_10_method_57_code
def yX8_move : MethodName := ⟨RX8, "move", "(III)V"⟩
abbrev cX8_drawsOne : ByteArray := prog_10_method_58_code
def yX8_drawsOne : MethodName := ⟨RX8, "drawsOne", "()I"⟩
abbrev cX8_draw : ByteArray := prog_10_method_59_code
def yX8_draw : MethodName := ⟨RX8, "draw", "()I"⟩
abbrev cX8_lacksTurn : ByteArray := prog_10_method_60_code
def yX8_lacksTurn : MethodName := ⟨RX8, "lacksTurn", "(I)I"⟩
abbrev cX8_give : ByteArray := prog_10_method_61_code
def yX8_give : MethodName := ⟨RX8, "give", "(I)I"⟩
abbrev cX8_change : ByteArray := prog_10_method_62_code
def yX8_change : MethodName := ⟨RX8, "change", "(I)I"⟩
abbrev cX8_lays : ByteArray := prog_10_method_63_code
def yX8_lays : MethodName := ⟨RX8, "lays", "(I)V"⟩
abbrev cX8_lay : ByteArray := prog_10_method_64_code
def yX8_lay : MethodName := ⟨RX8, "lay", "(I)I"⟩
abbrev cX8_hasRoom : ByteArray := prog_10_method_65_code
def yX8_hasRoom : MethodName := ⟨RX8, "hasRoom", "(I)Z"⟩
abbrev cX8_takesUp : ByteArray := prog_10_method_66_code
def yX8_takesUp : MethodName := ⟨RX8, "takesUp", "(I)V"⟩
abbrev cX8_take : ByteArray := prog_10_method_67_code
def yX8_take : MethodName := ⟨RX8, "take", "(I)I"⟩
abbrev cX8_byDraws : ByteArray := prog_10_method_68_code
def yX8_byDraws : MethodName := ⟨RX8, "byDraws", "()V"⟩
abbrev cX8_drift : ByteArray := prog_10_method_69_code
def yX8_drift : MethodName := ⟨RX8, "drift", "(I)I"⟩
abbrev cX8_undo : ByteArray := prog_10_method_70_code
def yX8_undo : MethodName := ⟨RX8, "undo", "(I)I"⟩
abbrev cX8_rightOf : ByteArray := prog_10_method_71_code
def yX8_rightOf : MethodName := ⟨RX8, "rightOf", "(II)I"⟩
abbrev cX8_moreOf : ByteArray := prog_10_method_72_code
def yX8_moreOf : MethodName := ⟨RX8, "moreOf", "(II)I"⟩
abbrev cX8_right : ByteArray := prog_10_method_73_code
def yX8_right : MethodName := ⟨RX8, "right", "(III)I"⟩
abbrev cX8_luck : ByteArray := prog_10_method_74_code
def yX8_luck : MethodName := ⟨RX8, "luck", "(II)I"⟩
abbrev cX8_say : ByteArray := prog_10_method_75_code
def yX8_say : MethodName := ⟨RX8, "say", "(III)I"⟩
abbrev cX8_couldBe : ByteArray := prog_10_method_76_code
def yX8_couldBe : MethodName := ⟨RX8, "couldBe", "()I"⟩
abbrev cX8_partBy : ByteArray := prog_10_method_77_code
def yX8_partBy : MethodName := ⟨RX8, "partBy", "(II)I"⟩
abbrev cX8_ask : ByteArray := prog_10_method_78_code
def yX8_ask : MethodName := ⟨RX8, "ask", "()I"⟩
abbrev cX8_write : ByteArray := prog_10_method_79_code
def yX8_write : MethodName := ⟨RX8, "write", "(II)I"⟩
abbrev cX8_judge : ByteArray := prog_10_method_80_code
def yX8_judge : MethodName := ⟨RX8, "judge", "()I"⟩
abbrev cX8_tear : ByteArray := prog_10_method_81_code
def yX8_tear : MethodName := ⟨RX8, "tear", "()I"⟩
abbrev cX8_seed : ByteArray := prog_10_method_82_code
def yX8_seed : MethodName := ⟨RX8, "seed", "(I)I"⟩
abbrev cX8_keep : ByteArray := prog_10_method_83_code
def yX8_keep : MethodName := ⟨RX8, "keep", "(I)I"⟩
abbrev cX8_goBack : ByteArray := prog_10_method_84_code
def yX8_goBack : MethodName := ⟨RX8, "goBack", "(I)I"⟩
abbrev cX8_toldOfRows : ByteArray := prog_10_method_85_code
def yX8_toldOfRows : MethodName := ⟨RX8, "toldOfRows", "(I)I"⟩
abbrev cX8_told : ByteArray := prog_10_method_86_code
def yX8_told : MethodName := ⟨RX8, "told", "(I)I"⟩
def RJ6 : String := "java/lang/Integer"
def TJ6 : u_T := fun k => match k with
  | _ => ("", "", "", false)
def tyJ6 : Nat → FieldType := fun k => match k with
  | _ => .int
abbrev wsJ60 : List Cond := u_ws RJ6 TJ6 0
theorem nmJ6 : ∀ a, a < 0 → ∀ b, b < 0 → a ≠ b → (TJ6 a).2.1 ≠ (TJ6 b).2.1 := by decide +kernel
theorem tyJ6_ok : ∀ k, k < 0 → parseFieldDescriptor (TJ6 k).2.2.1 = some (tyJ6 k) := by decide +kernel
abbrev cJ6_bitCount_0f7a4 : ByteArray := prog_11_method_49_code
def yJ6_bitCount_0f7a4 : MethodName := ⟨RJ6, "bitCount", "(I)I"⟩
def RJ9 : String := "java/lang/Math"
def TJ9 : u_T := fun k => match k with
  | _ => ("", "", "", false)
def tyJ9 : Nat → FieldType := fun k => match k with
  | _ => .int
abbrev wsJ90 : List Cond := u_ws RJ9 TJ9 0
theorem nmJ9 : ∀ a, a < 0 → ∀ b, b < 0 → a ≠ b → (TJ9 a).2.1 ≠ (TJ9 b).2.1 := by decide +kernel
theorem tyJ9_ok : ∀ k, k < 0 → parseFieldDescriptor (TJ9 k).2.2.1 = some (tyJ9 k) := by decide +kernel
abbrev cJ9_max_7cf53 : ByteArray := prog_12_method_65_code
def yJ9_max_7cf53 : MethodName := ⟨RJ9, "max", "(II)I"⟩
abbrev cJ9_min_7cf53 : ByteArray := prog_12_method_69_code
def yJ9_min_7cf53 : MethodName := ⟨RJ9, "min", "(II)I"⟩
def RJ10 : String := "java/lang/System"
def TJ10 : u_T := fun k => match k with
  | _ => ("", "", "", false)
def tyJ10 : Nat → FieldType := fun k => match k with
  | _ => .int
abbrev wsJ100 : List Cond := u_ws RJ10 TJ10 0
theorem nmJ10 : ∀ a, a < 0 → ∀ b, b < 0 → a ≠ b → (TJ10 a).2.1 ≠ (TJ10 b).2.1 := by decide +kernel
theorem tyJ10_ok : ∀ k, k < 0 → parseFieldDescriptor (TJ10 k).2.2.1 = some (tyJ10 k) := by decide +kernel
def RJ7 : String := "java/util/Arrays"
def TJ7 : u_T := fun k => match k with
  | _ => ("", "", "", false)
def tyJ7 : Nat → FieldType := fun k => match k with
  | _ => .int
abbrev wsJ70 : List Cond := u_ws RJ7 TJ7 0
theorem nmJ7 : ∀ a, a < 0 → ∀ b, b < 0 → a ≠ b → (TJ7 a).2.1 ≠ (TJ7 b).2.1 := by decide +kernel
theorem tyJ7_ok : ∀ k, k < 0 → parseFieldDescriptor (TJ7 k).2.2.1 = some (tyJ7 k) := by decide +kernel
abbrev cJ7_fill_53178 : ByteArray := prog_14_method_103_code
def yJ7_fill_53178 : MethodName := ⟨RJ7, "fill", "([II)V"⟩
def RL : String := "LetterTrayLaw"
abbrev cL_law : ByteArray := code
def yL_law : MethodName := ⟨RL, "law", "([I)Z"⟩
def wsX0_init : List Cond := .code yX0_init cX0_init 1 none :: ([.methodLink RX0 3 objectInit, .instanceMethod objectInit, .code objectInit ⟨#[0xb1]⟩ 1 none, .arrayClass .int, .fieldLink RX0 9 "LetterTray$Desk" "bag" "[I", .fieldLink RX0 15 "LetterTray$Desk" "tray" "[I", .fieldLink RX0 18 "LetterTray$Desk" "laidWords" "[I", .fieldLink RX0 21 "LetterTray$Desk" "laidBlanks" "[I", .fieldLink RX0 24 "LetterTray$Desk" "count" "I", .fieldLink RX0 28 "LetterTray$Desk" "score" "I", .fieldLink RX0 31 "LetterTray$Desk" "turns" "I"] ++ wsX00)
def wsJ7_fill_53178 : List Cond := .code yJ7_fill_53178 cJ7_fill_53178 4 none :: ([])
def wsX0_clear : List Cond := .code yX0_clear cX0_clear 2 none :: ([.fieldLink RX0 9 "LetterTray$Desk" "bag" "[I", .methodLink RX0 34 arraycopyName, .native arraycopyName, .static arraycopyName, .initialized "java/lang/System", .fieldLink RX0 15 "LetterTray$Desk" "tray" "[I", .fieldLink RX0 24 "LetterTray$Desk" "count" "I", .fieldLink RX0 28 "LetterTray$Desk" "score" "I", .fieldLink RX0 31 "LetterTray$Desk" "turns" "I", .methodLink RX0 40 yJ7_fill_53178, .static yJ7_fill_53178, .initialized RJ7, .code yJ7_fill_53178 cJ7_fill_53178 4 none] ++ wsX00)
abbrev vwCl : List vw_C := [(RX0, TX0, 7), (RX1, TX1, 3), (RX2, TX2, 3), (RX3, TX3, 5), (RX4, TX4, 7), (RX5, TX5, 7), (RX6, TX6, 13), (RX7, TX7, 10), (RX8, TX8, 39)]
end
section
/-! ===== the store as plain numbers: cells stand at B + k; kinds 0..8 objects (by class number), 9 int[], 10 char[], 11 boolean[], 12 Desk[], 13 Image[] ===== -/
abbrev Mem : Type := Nat → Nat → Int32
abbrev Rfs : Type := Nat → Nat → Option Nat
abbrev GT : Type := (Nat → ClassId) × (Nat → Nat → Nat) × (Nat → ClassId) × Nat × Heap
abbrev Shp : Type := Nat × (Nat → Nat) × (Nat → Nat)
def cN (ci : Nat) : String := match ci with
  | 0 => RX0 | 1 => RX1 | 2 => RX2 | 3 => RX3 | 4 => RX4 | 5 => RX5 | 6 => RX6 | 7 => RX7 | _ => RX8
def cT (ci : Nat) : u_T := match ci with
  | 0 => TX0 | 1 => TX1 | 2 => TX2 | 3 => TX3 | 4 => TX4 | 5 => TX5 | 6 => TX6 | 7 => TX7 | _ => TX8
def cF (ci : Nat) : Nat := match ci with
  | 0 => 7 | 1 => 3 | 2 => 3 | 3 => 5 | 4 => 7 | 5 => 7 | 6 => 13 | 7 => 10 | _ => 39
def cTy (ci : Nat) : Nat → FieldType := match ci with
  | 0 => tyX0 | 1 => tyX1 | 2 => tyX2 | 3 => tyX3 | 4 => tyX4 | 5 => tyX5 | 6 => tyX6 | 7 => tyX7 | _ => tyX8
def isR (ci k : Nat) : Bool := match cTy ci k with
  | .array _ => true
  | .object _ => true
  | _ => false
theorem cl_at : ∀ ci, ci < 9 → vwCl[ci]? = some (cN ci, cT ci, cF ci)
  | 0, _ => rfl | 1, _ => rfl | 2, _ => rfl | 3, _ => rfl | 4, _ => rfl | 5, _ => rfl | 6, _ => rfl | 7, _ => rfl | 8, _ => rfl
  | n + 9, h => absurd h (by omega)
theorem cl_ty : ∀ ci, ci < 9 → ∀ k, k < cF ci → parseFieldDescriptor (cT ci k).2.2.1 = some (cTy ci k)
  | 0, _ => tyX0_ok | 1, _ => tyX1_ok | 2, _ => tyX2_ok | 3, _ => tyX3_ok | 4, _ => tyX4_ok | 5, _ => tyX5_ok | 6, _ => tyX6_ok | 7, _ => tyX7_ok | 8, _ => tyX8_ok
  | n + 9, h => absurd h (by omega)
theorem cl_nm : ∀ ci, ci < 9 → ∀ a, a < cF ci → ∀ b, b < cF ci → a ≠ b → (cT ci a).2.1 ≠ (cT ci b).2.1
  | 0, _ => nmX0 | 1, _ => nmX1 | 2, _ => nmX2 | 3, _ => nmX3 | 4, _ => nmX4 | 5, _ => nmX5 | 6, _ => nmX6 | 7, _ => nmX7 | 8, _ => nmX8
  | n + 9, h => absurd h (by omega)
/-- the words that keep along calls, and the nest mates' links, which are carried beside them -/
def tblG : List Cond := lw_tbl.filter goodWord
def isNest (w : Cond) : Bool := match w with
  | .fieldLinkNest .. => true
  | .methodLinkNest .. => true
  | .arrayOver (.object _) => true
  | _ => false
def nestT : List Cond := tables_1.filter isNest
theorem tg {w : Cond} (h : w ∈ lw_tbl) (h2 : goodWord w = true) : w ∈ tblG := List.mem_filter.mpr ⟨h, h2⟩
theorem tg1 {w : Cond} (h : w ∈ tables_1) (h2 : goodWord w = true) : w ∈ tblG := tg (List.mem_append_right _ h) h2
theorem tn1 {w : Cond} (h : w ∈ tables_1) (h2 : isNest w = true) : w ∈ nestT := List.mem_filter.mpr ⟨h, h2⟩
theorem goodG (y : MethodName) (cc : ByteArray) (n : Nat) (rt : Option FieldType) (h : Cond.code y cc n rt ∈ tblG) : GoodIn tblG (Cond.code y cc n rt :: tblG) := by
  intro w hw
  rcases List.mem_cons.mp hw with rfl | hw
  · exact ⟨h, good_of_word (List.mem_filter.mp h).2⟩
  · exact ⟨hw, good_of_word (List.mem_filter.mp hw).2⟩
theorem inX (C : String) (T : u_T) (N : Nat) (h : ∀ w ∈ u_ws C T N, w ∈ lw_tbl) (h2 : (u_ws C T N).all goodWord = true) : ∀ w ∈ u_ws C T N, w ∈ tblG := fun w hw => tg (h w hw) (List.all_eq_true.mp h2 w hw)
set_option maxRecDepth 100000 in
theorem cl_in : ∀ ci, ci < 9 → ∀ w ∈ u_ws (cN ci) (cT ci) (cF ci), w ∈ tblG
  | 0, _ => inX RX0 TX0 7 (by decide +kernel) (by decide +kernel)
  | 1, _ => inX RX1 TX1 3 (by decide +kernel) (by decide +kernel)
  | 2, _ => inX RX2 TX2 3 (by decide +kernel) (by decide +kernel)
  | 3, _ => inX RX3 TX3 5 (by decide +kernel) (by decide +kernel)
  | 4, _ => inX RX4 TX4 7 (by decide +kernel) (by decide +kernel)
  | 5, _ => inX RX5 TX5 7 (by decide +kernel) (by decide +kernel)
  | 6, _ => inX RX6 TX6 13 (by decide +kernel) (by decide +kernel)
  | 7, _ => inX RX7 TX7 10 (by decide +kernel) (by decide +kernel)
  | 8, _ => inX RX8 TX8 39 (by decide +kernel) (by decide +kernel)
  | n + 9, h => absurd h (by omega)
/-- a field's value, a cell, the whole store -/
def fv (B ci k : Nat) (r : Option Nat) (x : Int32) : Value := if isR ci k = true then va_rf (r.map (B + ·)) else .int x
def av (B kd : Nat) (r : Option Nat) (x : Int32) : Value := if kd < 12 then .int x else va_rf (r.map (B + ·))
def cellR (G : GT) (S : Shp) (mr : Rfs) (mi : Mem) (k : Nat) (H : Heap) : Prop :=
  (S.2.1 k < 9 → t_OB (G.2.2.2.1 + k) (G.1 (S.2.1 k)) (cF (S.2.1 k)) (G.2.1 (S.2.1 k)) H (fun j => fv G.2.2.2.1 (S.2.1 k) j (mr k j) (mi k j))) ∧
  (9 ≤ S.2.1 k → H[G.2.2.2.1 + k]? = some (arrV (G.2.2.1 (S.2.1 k)) (S.2.2 k) (fun j => av G.2.2.2.1 (S.2.1 k) (mr k j) (mi k j))))
def RM (G : GT) (S : Shp) (mr : Rfs) (mi : Mem) (H : Heap) (locs : List Loc) : Prop :=
  H.size = G.2.2.2.1 + S.1 ∧ (∀ q : Nat, q < G.2.2.2.1 → H[q]? = G.2.2.2.2[q]?) ∧ (∀ k, k < S.1 → cellR G S mr mi k H) ∧ ∀ q ∈ locs, G.2.2.2.1 ≤ q.base
theorem cellR.kept {G : GT} {S : Shp} {mr mr' : Rfs} {mi mi' : Mem} {k : Nat} {H H' : Heap} (h : cellR G S mr mi k H) (h1 : mr' k = mr k) (h2 : mi' k = mi k) (hq : H'[G.2.2.2.1 + k]? = H[G.2.2.2.1 + k]?) : cellR G S mr' mi' k H' := by
  refine ⟨fun hk => ?_, fun hk => ?_⟩
  · rw [h1, h2]; exact (h.1 hk).kept hq
  · rw [h1, h2, hq]; exact h.2 hk
theorem RM.nil {G : GT} {S : Shp} {mr : Rfs} {mi : Mem} {H : Heap} {locs : List Loc} (h : RM G S mr mi H locs) : RM G S mr mi H [] := ⟨h.1, h.2.1, h.2.2.1, fun q hq => by cases hq⟩
theorem RM.locs {G : GT} {S : Shp} {mr : Rfs} {mi : Mem} {H : Heap} {locs : List Loc} (h : RM G S mr mi H []) (h2 : ∀ q ∈ locs, G.2.2.2.1 ≤ q.base) : RM G S mr mi H locs := ⟨h.1, h.2.1, h.2.2.1, h2⟩
theorem RM.upd {G : GT} {S : Shp} {mr mr' : Rfs} {mi mi' : Mem} {H H' : Heap} {locs locs' : List Loc} (h : RM G S mr mi H locs) {a : Nat} (z : H'.size = H.size) (oq : ∀ q : Nat, q ≠ G.2.2.2.1 + a → H'[q]? = H[q]?) (hs : ∀ k, k ≠ a → mr' k = mr k ∧ mi' k = mi k) (hc : cellR G S mr' mi' a H') (hl : ∀ q ∈ locs', G.2.2.2.1 ≤ q.base) : RM G S mr' mi' H' locs' := by
  refine ⟨z.trans h.1, fun q hq => (oq q (by omega)).trans (h.2.1 q hq), fun k hk => ?_, hl⟩
  by_cases e : k = a
  · subst e; exact hc
  · exact (h.2.2.1 k hk).kept (hs k e).1 (hs k e).2 (oq _ (by omega))
theorem locs1 {B : Nat} {locs : List Loc} {a j : Nat} (h : ∀ q ∈ locs, B ≤ q.base) : ∀ q ∈ locs ++ [⟨B + a, j⟩], B ≤ q.base := t_lc h (Nat.le_add_right _ _)
/-- a new number at a place -/
def st (mi : Mem) (a k : Nat) (v : Int32) : Mem := fun b => if b = a then (fun j => if j = k then v else mi a j) else mi b
theorem st_ne {mi : Mem} {a k : Nat} {v : Int32} {b : Nat} (h : b ≠ a) : st mi a k v b = mi b := if_neg h
theorem st_eq {mi : Mem} {a k : Nat} {v : Int32} : st mi a k v a = (fun j => if j = k then v else mi a j) := if_pos rfl
def sr (mr : Rfs) (a k : Nat) (v : Option Nat) : Rfs := fun b => if b = a then (fun j => if j = k then v else mr a j) else mr b
theorem sr_ne {mr : Rfs} {a k : Nat} {v : Option Nat} {b : Nat} (h : b ≠ a) : sr mr a k v b = mr b := if_neg h
theorem sr_eq {mr : Rfs} {a k : Nat} {v : Option Nat} : sr mr a k v a = (fun j => if j = k then v else mr a j) := if_pos rfl
/-- an index within a row -/
def inB (i : Int32) (n : Nat) : Bool := decide (0 ≤ i.toInt) && decide (i.toInt < (n : Int))
theorem inB_vp {i : Int32} {n : Nat} (h : inB i n = true) : vp_in i n := by
  unfold inB at h
  rw [Bool.and_eq_true, decide_eq_true_eq, decide_eq_true_eq] at h
  exact vp_in_iff.mpr h
abbrev ix (i : Int32) : Nat := i.toNatClampNeg
theorem inB_lt {i : Int32} {n : Nat} (h : inB i n = true) : ix i < n := Nat.not_le.mp fun q => inB_vp h (Or.inr q)
def tysL (dA : Nat → ClassId) : List (ClassId × FieldType) := [(dA 9, .int), (dA 10, .char), (dA 11, .boolean), (dA 12, .object RX0), (dA 13, .object RX2)]
def Kx (G : GT) (U : State) : Prop := va_K (G.1, G.2.1) vwCl (tysL G.2.2.1) U ∧ ∀ w ∈ nestT, va_Nw w U
theorem Kx.warm {G : GT} {s U : State} (hW : s.WarmedH U.vm) (h : Kx G s) : Kx G U := by
  refine ⟨va_K.moved hW.alike h.1, fun w hw => ?_⟩
  have h1 := h.2 w hw
  have h2 := (List.mem_filter.mp hw).2
  cases w with
  | arrayOver ty => cases ty <;> first | exact va_AO.moved hW.alike h1 | (exfalso; revert h2; simp [isNest])
  | _ => first | exact va_Nw.warmF hW h1 | exact va_Nw.warmM hW h1 | (exfalso; revert h2; simp [isNest])
/-- what stays through a method's walk -/
def Cx (G : GT) (p : Program) (s : State) (m : MethodId) (c : Code) (args : Array Value) (own : String) (cc : ByteArray) (nL : Nat) : Prop :=
  p.tables.exec = Jvm.exec ∧ c.code = cc ∧ c.maxLocals = nL ∧ s.vm.findClass own = some m.cls ∧ (∀ w ∈ tblG, w.before args s = true) ∧ Kx G s
def FO (own : String) (idx ci k : Nat) : Prop := ci < 9 ∧ k < cF ci ∧
  (Cond.fieldLink own idx (cT ci k).1 (cT ci k).2.1 (cT ci k).2.2.1 ∈ tblG ∨ Cond.fieldLinkNest own idx (cT ci k).1 (cT ci k).2.1 (cT ci k).2.2.1 "LetterTray" ∈ nestT)
section XR
variable {p : Program} {l : Launch} {e : Env} {R : Room} {s : State} {m : MethodId} {args : Array Value} {below : List Frame} {meth : Method} {c : Code} {H : Heap} {locs : List Loc} {cells slots : Nat} {Q : State → Prop}
variable {cc : ByteArray} {pc : Nat} {ls : Array Slot} {rest : List Value} {G : GT} {S : Shp} {mr : Rfs} {mi : Mem} {own : String} {nL : Nat}
theorem x_get (C : Cx G p s m c args own cc nL) (hR : RM G S mr mi H locs) {a idx ci k : Nat} (hF : FO own idx ci k) (ha : a < S.1 ∧ S.2.1 a = ci) (hd : decode cc pc = .ok (.getfield idx, 3))
    (kk : W p l e R s m args below meth c H locs cells slots Q (F0 m (pc + 3) ls (fv G.2.2.2.1 ci k (mr a k) (mi a k) :: rest))) : W p l e R s m args below meth c H locs cells slots Q (F0 m pc ls (.ref (G.2.2.2.1 + a) :: rest)) := by
  obtain ⟨hx, hb, -, hown, hts, hK⟩ := C
  obtain ⟨hci, hk, hl⟩ := hF
  obtain ⟨ha, hk2⟩ := ha
  have hc := (hR.2.2.1 a ha).1 (by rw [hk2]; exact hci)
  rw [hk2] at hc
  obtain ⟨cell, q1, q2, q3, q4⟩ := hc
  obtain ⟨hS, hfc, kC, hkC, hkind⟩ := hK.1.1 ci _ (cl_at ci hci)
  obtain ⟨cf, kf, fi, f, hi, hsl⟩ := hS k hk
  have hst := (u_facts hfc hkC (u_lays hts (cl_in ci hci) hk) hi).1
  rcases hl with hl | hl
  · exact W.getf hx hb hown (hts _ hl) hi hst q1 (by rw [q3]; exact fun h => by cases h) (by rw [hsl]; exact q4 k hk) rfl rfl hd kk
  · exact va_Wgetf hx hb hown (va_Nw.use rfl (hK.2 _ hl)) hi hst q1 (by rw [q3]; exact fun h => by cases h) (by rw [hsl]; exact q4 k hk) rfl rfl hd kk
theorem x_geti (C : Cx G p s m c args own cc nL) (hR : RM G S mr mi H locs) {a idx ci k : Nat} (hF : FO own idx ci k) (hi : isR ci k = false) (ha : a < S.1 ∧ S.2.1 a = ci) (hd : decode cc pc = .ok (.getfield idx, 3))
    (kk : W p l e R s m args below meth c H locs cells slots Q (F0 m (pc + 3) ls (.int (mi a k) :: rest))) : W p l e R s m args below meth c H locs cells slots Q (F0 m pc ls (.ref (G.2.2.2.1 + a) :: rest)) :=
  x_get C hR hF ha hd (by rw [fv, hi]; exact kk)
theorem x_getr (C : Cx G p s m c args own cc nL) (hR : RM G S mr mi H locs) {a idx ci k b : Nat} (hF : FO own idx ci k) (hi : isR ci k = true) (ha : a < S.1 ∧ S.2.1 a = ci) (hb : mr a k = some b) (hd : decode cc pc = .ok (.getfield idx, 3))
    (kk : W p l e R s m args below meth c H locs cells slots Q (F0 m (pc + 3) ls (.ref (G.2.2.2.1 + b) :: rest))) : W p l e R s m args below meth c H locs cells slots Q (F0 m pc ls (.ref (G.2.2.2.1 + a) :: rest)) :=
  x_get C hR hF ha hd (by rw [fv, hi, hb]; exact kk)
theorem x_put (C : Cx G p s m c args own cc nL) (hR : RM G S mr mi H locs) {a idx ci k : Nat} {v : Value} (hF : FO own idx ci k) (hfin : (cT ci k).2.2.2 = false) (hn : narrow (cTy ci k) v = v) (hfit : fits (cTy ci k) v = true) (ha : a < S.1 ∧ S.2.1 a = ci) (hd : decode cc pc = .ok (.putfield idx, 3))
    {mr' : Rfs} {mi' : Mem} (hs : ∀ b, b ≠ a → mr' b = mr b ∧ mi' b = mi b) (hv : ∀ j, j < cF ci → updV (fun j => fv G.2.2.2.1 ci j (mr a j) (mi a j)) k v j = fv G.2.2.2.1 ci j (mr' a j) (mi' a j))
    (kk : ∀ (H1 : Heap) (locs1 : List Loc), RM G S mr' mi' H1 locs1 → W p l e R s m args below meth c H1 locs1 cells slots Q (F0 m (pc + 3) ls rest)) : W p l e R s m args below meth c H locs cells slots Q (F0 m pc ls (v :: .ref (G.2.2.2.1 + a) :: rest)) := by
  obtain ⟨hx, hb, -, hown, hts, hK⟩ := C
  obtain ⟨hci, hk, hl⟩ := hF
  obtain ⟨ha, hk2⟩ := ha
  have hc := (hR.2.2.1 a ha).1 (by rw [hk2]; exact hci)
  rw [hk2] at hc
  obtain ⟨cell, q1, q2, q3, q4⟩ := hc
  have hap := va_apart (own := own) hts (cl_in ci hci) (cTy ci) (cl_ty ci hci) (cl_nm ci hci) hK.1 (cl_at ci hci)
  obtain ⟨hS, hfc, kC, hkC, hkind⟩ := hK.1.1 ci _ (cl_at ci hci)
  obtain ⟨cf, kf, fi, f, hi, hsl⟩ := hS k hk
  have hst := (u_facts hfc hkC (u_lays hts (cl_in ci hci) hk) hi).1
  have hlay := hts _ (cl_in ci hci _ (u_in_lay hk))
  unfold u_lay at hlay
  rw [if_neg (by rw [hfin]; decide)] at hlay
  have h6 := u_store hfc hkC hkind hlay hi (cl_ty ci hci k hk) hn hfit
  have fin : ∀ H' : Heap, H'[G.2.2.2.1 + a]? = some (cell.setSlot f.slot v) → H'.size = H.size → (∀ q, q ≠ G.2.2.2.1 + a → H'[q]? = H[q]?) → W p l e R s m args below meth c H' (locs ++ [⟨G.2.2.2.1 + a, f.slot⟩]) cells slots Q (F0 m (pc + 3) ls rest) := by
    intro H' e1 e2 e3
    rw [hsl] at e1
    refine kk H' _ (hR.upd e2 e3 hs ⟨fun h9 => ?_, fun h9 => absurd h9 (by rw [hk2]; omega)⟩ (locs1 hR.2.2.2))
    rw [hk2]
    exact t_OB.to (V := updV (fun j => fv G.2.2.2.1 ci j (mr a j) (mi a j)) k v) ⟨_, e1, q2, q3, t_set q4 hap hk v⟩ hv
  rcases hl with hl | hl
  · exact W.putK hx hb (f := f) ⟨hown, hts _ hl, ⟨_, _, _, hi⟩, hst⟩ (by rw [q2]; exact h6) q1 q3 (by rw [hsl]; exact k2_hasslot (q4 k hk)) rfl rfl hd fin
  · exact va_WputK hx hb (f := f) hown (va_Nw.use rfl (hK.2 _ hl)) hi hst (by rw [q2]; exact h6) q1 q3 (by rw [hsl]; exact k2_hasslot (q4 k hk)) rfl rfl hd fin
end XR
end
section
/-! ===== stores, rows, answers, calls over the plain store ===== -/
theorem fv_i {B ci k : Nat} {r : Option Nat} {x : Int32} (h : isR ci k = false) : fv B ci k r x = .int x := by rw [fv, h]; rfl
theorem fv_r {B ci k : Nat} {r : Option Nat} {x : Int32} (h : isR ci k = true) : fv B ci k r x = va_rf (r.map (B + ·)) := by rw [fv, h]; rfl
theorem st_pt {mi : Mem} {a k : Nat} {v : Int32} (j : Nat) : st mi a k v a j = if j = k then v else mi a j := by rw [st_eq]
theorem sr_pt {mr : Rfs} {a k : Nat} {v : Option Nat} (j : Nat) : sr mr a k v a j = if j = k then v else mr a j := by rw [sr_eq]
def cpM (mi : Mem) (a b n : Nat) : Mem := fun c => if c = b then va_cpy (mi a) (mi b) 0 0 n else mi c
theorem cpM_ne {mi : Mem} {a b n c : Nat} (h : c ≠ b) : cpM mi a b n c = mi c := if_neg h
theorem cpM_eq {mi : Mem} {a b n : Nat} : cpM mi a b n b = va_cpy (mi a) (mi b) 0 0 n := if_pos rfl
def isB (v : Int32) : Bool := v == 0 || v == 1
theorem isB_n {v : Int32} (h : isB v = true) : narrow .boolean (.int v) = .int v := by
  unfold isB at h
  rw [Bool.or_eq_true, beq_iff_eq, beq_iff_eq] at h
  rcases h with rfl | rfl <;> rfl
theorem isB_f {v : Int32} (h : isB v = true) : fits .boolean (.int v) = true := by
  unfold isB at h
  rw [Bool.or_eq_true, beq_iff_eq, beq_iff_eq] at h
  rcases h with rfl | rfl <;> rfl
section XS
variable {p : Program} {l : Launch} {e : Env} {R : Room} {s : State} {m : MethodId} {args : Array Value} {below : List Frame} {meth : Method} {c : Code} {H : Heap} {locs : List Loc} {cells slots : Nat} {Q : State → Prop}
variable {cc : ByteArray} {pc : Nat} {ls : Array Slot} {rest : List Value} {G : GT} {S : Shp} {mr : Rfs} {mi : Mem} {own : String} {nL : Nat}
theorem x_put_v {B ci k a : Nat} {mr : Rfs} {mi : Mem} {v : Int32} (hi : isR ci k = false) (j : Nat) : updV (fun j => fv B ci j (mr a j) (mi a j)) k (.int v) j = fv B ci j (mr a j) (st mi a k v a j) := by
  rw [st_pt]
  by_cases h : j = k
  · subst h; rw [if_pos rfl, fv_i hi]; simp [updV]
  · rw [if_neg h]; simp [updV, h]
theorem x_puti (C : Cx G p s m c args own cc nL) (hR : RM G S mr mi H locs) {a idx ci k : Nat} {v : Int32} (hF : FO own idx ci k) (hfin : (cT ci k).2.2.2 = false) (hty : cTy ci k = .int) (ha : a < S.1 ∧ S.2.1 a = ci) (hd : decode cc pc = .ok (.putfield idx, 3))
    (kk : ∀ (H1 : Heap) (locs1 : List Loc), RM G S mr (st mi a k v) H1 locs1 → W p l e R s m args below meth c H1 locs1 cells slots Q (F0 m (pc + 3) ls rest)) : W p l e R s m args below meth c H locs cells slots Q (F0 m pc ls (.int v :: .ref (G.2.2.2.1 + a) :: rest)) :=
  x_put C hR hF hfin (by rw [hty]; rfl) (by rw [hty]; rfl) ha hd (fun b h => ⟨rfl, st_ne h⟩) (fun j _ => x_put_v (by rw [isR, hty]) j) kk
theorem x_putz (C : Cx G p s m c args own cc nL) (hR : RM G S mr mi H locs) {a idx ci k : Nat} {v : Int32} (hv : isB v = true) (hF : FO own idx ci k) (hfin : (cT ci k).2.2.2 = false) (hty : cTy ci k = .boolean) (ha : a < S.1 ∧ S.2.1 a = ci) (hd : decode cc pc = .ok (.putfield idx, 3))
    (kk : ∀ (H1 : Heap) (locs1 : List Loc), RM G S mr (st mi a k v) H1 locs1 → W p l e R s m args below meth c H1 locs1 cells slots Q (F0 m (pc + 3) ls rest)) : W p l e R s m args below meth c H locs cells slots Q (F0 m pc ls (.int v :: .ref (G.2.2.2.1 + a) :: rest)) :=
  x_put C hR hF hfin (by rw [hty]; exact isB_n hv) (by rw [hty]; exact isB_f hv) ha hd (fun b h => ⟨rfl, st_ne h⟩) (fun j _ => x_put_v (by rw [isR, hty]) j) kk
theorem x_put_r {B ci k a b : Nat} {mr : Rfs} {mi : Mem} (hi : isR ci k = true) (j : Nat) : updV (fun j => fv B ci j (mr a j) (mi a j)) k (.ref (B + b)) j = fv B ci j (sr mr a k (some b) a j) (mi a j) := by
  rw [sr_pt]
  by_cases h : j = k
  · subst h; rw [if_pos rfl, fv_r hi]; simp [updV, va_rf]
  · rw [if_neg h]; simp [updV, h]
theorem x_putr (C : Cx G p s m c args own cc nL) (hR : RM G S mr mi H locs) {a idx ci k b : Nat} {n : String} (hF : FO own idx ci k) (hfin : (cT ci k).2.2.2 = false) (hty : cTy ci k = .object n) (ha : a < S.1 ∧ S.2.1 a = ci) (hd : decode cc pc = .ok (.putfield idx, 3))
    (kk : ∀ (H1 : Heap) (locs1 : List Loc), RM G S (sr mr a k (some b)) mi H1 locs1 → W p l e R s m args below meth c H1 locs1 cells slots Q (F0 m (pc + 3) ls rest)) : W p l e R s m args below meth c H locs cells slots Q (F0 m pc ls (.ref (G.2.2.2.1 + b) :: .ref (G.2.2.2.1 + a) :: rest)) :=
  x_put C hR hF hfin (by rw [hty]; rfl) (by rw [hty]; rfl) ha hd (fun b h => ⟨sr_ne h, rfl⟩) (fun j _ => x_put_r (by rw [isR, hty]) j) kk
theorem x_arr (hR : RM G S mr mi H locs) {a kd : Nat} (ha : a < S.1 ∧ S.2.1 a = kd) (h9 : 9 ≤ kd) : H[G.2.2.2.1 + a]? = some (arrV (G.2.2.1 kd) (S.2.2 a) (fun j => av G.2.2.2.1 kd (mr a j) (mi a j))) := by
  have hc := (hR.2.2.1 a ha.1).2 (by rw [ha.2]; exact h9)
  rw [ha.2] at hc
  exact hc
theorem av_i {B kd : Nat} {r : Option Nat} {x : Int32} (h : kd < 12) : av B kd r x = .int x := if_pos h
theorem av_r {B kd : Nat} {r : Option Nat} {x : Int32} (h : ¬ kd < 12) : av B kd r x = va_rf (r.map (B + ·)) := if_neg h
theorem x_iald (C : Cx G p s m c args own cc nL) (hR : RM G S mr mi H locs) {a : Nat} {i : Int32} (ha : a < S.1 ∧ S.2.1 a = 9) (hin : inB i (S.2.2 a) = true) (hd : decode cc pc = .ok (.iaload, 1))
    (kk : W p l e R s m args below meth c H locs cells slots Q (F0 m (pc + 1) ls (.int (mi a (ix i)) :: rest))) : W p l e R s m args below meth c H locs cells slots Q (F0 m pc ls (.int i :: .ref (G.2.2.2.1 + a) :: rest)) := by
  obtain ⟨hx, hb, -, -, -, hK⟩ := C
  exact W.iald (v := .int (mi a (ix i))) hx hb (x_arr hR ha (by decide)) ((hK.1.2 0 _ rfl).1 _ _) (fun q => by cases q) (by rw [arrV_size]; exact inB_vp hin) (by rw [arrV_read _ _ (inB_lt hin), av_i (by decide)]) rfl rfl hd kk
theorem x_cald (C : Cx G p s m c args own cc nL) (hR : RM G S mr mi H locs) {a : Nat} {i : Int32} (ha : a < S.1 ∧ S.2.1 a = 10) (hin : inB i (S.2.2 a) = true) (hd : decode cc pc = .ok (.caload, 1))
    (kk : W p l e R s m args below meth c H locs cells slots Q (F0 m (pc + 1) ls (.int (mi a (ix i)) :: rest))) : W p l e R s m args below meth c H locs cells slots Q (F0 m pc ls (.int i :: .ref (G.2.2.2.1 + a) :: rest)) := by
  obtain ⟨hx, hb, -, -, -, hK⟩ := C
  exact W.cald (v := .int (mi a (ix i))) hx hb (x_arr hR ha (by decide)) ((hK.1.2 1 _ rfl).1 _ _) (fun q => by cases q) (by rw [arrV_size]; exact inB_vp hin) (by rw [arrV_read _ _ (inB_lt hin), av_i (by decide)]) rfl rfl hd kk
theorem x_zald (C : Cx G p s m c args own cc nL) (hR : RM G S mr mi H locs) {a : Nat} {i : Int32} (ha : a < S.1 ∧ S.2.1 a = 11) (hin : inB i (S.2.2 a) = true) (hd : decode cc pc = .ok (.baload, 1))
    (kk : W p l e R s m args below meth c H locs cells slots Q (F0 m (pc + 1) ls (.int (mi a (ix i)) :: rest))) : W p l e R s m args below meth c H locs cells slots Q (F0 m pc ls (.int i :: .ref (G.2.2.2.1 + a) :: rest)) := by
  obtain ⟨hx, hb, -, -, -, hK⟩ := C
  exact W.zald (v := .int (mi a (ix i))) hx hb (x_arr hR ha (by decide)) ((hK.1.2 2 _ rfl).1 _ _) (fun q => by cases q) (by rw [arrV_size]; exact inB_vp hin) (by rw [arrV_read _ _ (inB_lt hin), av_i (by decide)]) rfl rfl hd kk
/-- the Desk[] (12) and the Image[] (13) -/
theorem x_aald (C : Cx G p s m c args own cc nL) (hR : RM G S mr mi H locs) {a b kd : Nat} {i : Int32} (hkd : kd = 12 ∨ kd = 13) (ha : a < S.1 ∧ S.2.1 a = kd) (hin : inB i (S.2.2 a) = true) (hv : mr a (ix i) = some b) (hd : decode cc pc = .ok (.aaload, 1))
    (kk : W p l e R s m args below meth c H locs cells slots Q (F0 m (pc + 1) ls (.ref (G.2.2.2.1 + b) :: rest))) : W p l e R s m args below meth c H locs cells slots Q (F0 m pc ls (.int i :: .ref (G.2.2.2.1 + a) :: rest)) := by
  obtain ⟨hx, hb, -, -, -, hK⟩ := C
  rcases hkd with rfl | rfl
  · exact W.aald (v := .ref (G.2.2.2.1 + b)) (ty := .object RX0) hx hb (x_arr hR ha (by decide)) ((hK.1.2 3 _ rfl).1 _ _) rfl (fun q => by cases q) (by rw [arrV_size]; exact inB_vp hin) (by rw [arrV_read _ _ (inB_lt hin), av_r (by decide), hv]; rfl) rfl rfl hd kk
  · exact W.aald (v := .ref (G.2.2.2.1 + b)) (ty := .object RX2) hx hb (x_arr hR ha (by decide)) ((hK.1.2 4 _ rfl).1 _ _) rfl (fun q => by cases q) (by rw [arrV_size]; exact inB_vp hin) (by rw [arrV_read _ _ (inB_lt hin), av_r (by decide), hv]; rfl) rfl rfl hd kk
theorem x_alen (C : Cx G p s m c args own cc nL) (hR : RM G S mr mi H locs) {a : Nat} (ha : a < S.1 ∧ S.2.1 a = 9) (hd : decode cc pc = .ok (.arraylength, 1))
    (kk : W p l e R s m args below meth c H locs cells slots Q (F0 m (pc + 1) ls (.int (nI (S.2.2 a)) :: rest))) : W p l e R s m args below meth c H locs cells slots Q (F0 m pc ls (.ref (G.2.2.2.1 + a) :: rest)) := by
  obtain ⟨hx, hb, -, -, -, hK⟩ := C
  exact W.alen (n := nI (S.2.2 a)) hx hb (x_arr hR ha (by decide)) ((hK.1.2 0 _ rfl).1 _ _) (by rw [arrV_size]; rfl) rfl rfl hd kk
theorem x_ast_u {G : GT} {S : Shp} {mr : Rfs} {mi : Mem} {H H1 : Heap} {locs : List Loc} {a kd j : Nat} {x : Int32} {locs1 : List Loc} (hR : RM G S mr mi H locs) (h9 : 9 ≤ kd) (h12 : kd < 12) (ha : a < S.1 ∧ S.2.1 a = kd) (e1 : H1[G.2.2.2.1 + a]? = some ((arrV (G.2.2.1 kd) (S.2.2 a) (fun j => av G.2.2.2.1 kd (mr a j) (mi a j))).setSlot j (.int x))) (z : H1.size = H.size) (oq : ∀ q, q ≠ G.2.2.2.1 + a → H1[q]? = H[q]?) (hl : ∀ q ∈ locs1, G.2.2.2.1 ≤ q.base) : RM G S mr (st mi a j x) H1 locs1 := by
  refine hR.upd z oq (fun k h => ⟨rfl, st_ne h⟩) ⟨fun h => absurd h (by rw [ha.2]; omega), fun _ => ?_⟩ hl
  rw [e1, arrV_store, ha.2]
  congr 2
  funext q
  rw [st_pt]
  by_cases hq : q = j
  · subst hq; rw [if_pos rfl, av_i h12]; simp [updV]
  · rw [if_neg hq]; simp [updV, hq]
theorem x_iast (C : Cx G p s m c args own cc nL) (hR : RM G S mr mi H locs) {a : Nat} {i x : Int32} (ha : a < S.1 ∧ S.2.1 a = 9) (hin : inB i (S.2.2 a) = true) (hd : decode cc pc = .ok (.iastore, 1))
    (kk : ∀ (H1 : Heap) (locs1 : List Loc), RM G S mr (st mi a (ix i) x) H1 locs1 → W p l e R s m args below meth c H1 locs1 cells slots Q (F0 m (pc + 1) ls rest)) : W p l e R s m args below meth c H locs cells slots Q (F0 m pc ls (.int x :: .int i :: .ref (G.2.2.2.1 + a) :: rest)) := by
  obtain ⟨hx, hb, -, -, -, hK⟩ := C
  exact W.iast hx hb (x_arr hR ha (by decide)) ((hK.1.2 0 _ rfl).1 _ _) (fun q => by cases q) (by rw [arrV_size]; exact inB_vp hin) rfl rfl hd fun H1 e1 z oq => kk H1 _ (x_ast_u hR (by decide) (by decide) ha e1 z oq (locs1 hR.2.2.2))
theorem x_cast (C : Cx G p s m c args own cc nL) (hR : RM G S mr mi H locs) {a : Nat} {i x : Int32} (hn : narrow .char (.int x) = .int x) (ha : a < S.1 ∧ S.2.1 a = 10) (hin : inB i (S.2.2 a) = true) (hd : decode cc pc = .ok (.castore, 1))
    (kk : ∀ (H1 : Heap) (locs1 : List Loc), RM G S mr (st mi a (ix i) x) H1 locs1 → W p l e R s m args below meth c H1 locs1 cells slots Q (F0 m (pc + 1) ls rest)) : W p l e R s m args below meth c H locs cells slots Q (F0 m pc ls (.int x :: .int i :: .ref (G.2.2.2.1 + a) :: rest)) := by
  obtain ⟨hx, hb, -, -, -, hK⟩ := C
  exact W.cast hx hb (x_arr hR ha (by decide)) ((hK.1.2 1 _ rfl).1 _ _) (fun q => by cases q) (by rw [arrV_size]; exact inB_vp hin) rfl rfl hd fun H1 e1 z oq => kk H1 _ (x_ast_u hR (by decide) (by decide) ha (by rw [e1, hn]) z oq (locs1 hR.2.2.2))
theorem x_zast (C : Cx G p s m c args own cc nL) (hR : RM G S mr mi H locs) {a : Nat} {i x : Int32} (hv : isB x = true) (ha : a < S.1 ∧ S.2.1 a = 11) (hin : inB i (S.2.2 a) = true) (hd : decode cc pc = .ok (.bastore, 1))
    (kk : ∀ (H1 : Heap) (locs1 : List Loc), RM G S mr (st mi a (ix i) x) H1 locs1 → W p l e R s m args below meth c H1 locs1 cells slots Q (F0 m (pc + 1) ls rest)) : W p l e R s m args below meth c H locs cells slots Q (F0 m pc ls (.int x :: .int i :: .ref (G.2.2.2.1 + a) :: rest)) := by
  obtain ⟨hx, hb, -, -, -, hK⟩ := C
  exact W.zast hx hb (x_arr hR ha (by decide)) ((hK.1.2 2 _ rfl).1 _ _) (fun q => by cases q) (by rw [arrV_size]; exact inB_vp hin) rfl rfl hd fun H1 e1 z oq => kk H1 _ (x_ast_u hR (by decide) (by decide) ha (by rw [e1, isB_n hv]) z oq (locs1 hR.2.2.2))
/-- System.arraycopy from the beginning of one int row to that of another -/
theorem x_copy (C : Cx G p s m c args own cc nL) (hR : RM G S mr mi H locs) {a b idx : Nat} {n : Int32} (ha : a < S.1 ∧ S.2.1 a = 9) (hb2 : b < S.1 ∧ S.2.1 b = 9) (h3 : ¬ n < 0) (h4 : ix n ≤ S.2.2 a) (h5 : ix n ≤ S.2.2 b) (hl : Cond.methodLink own idx arraycopyName ∈ tblG) (hl2 : Cond.native arraycopyName ∈ tblG ∧ Cond.static arraycopyName ∈ tblG ∧ Cond.initialized "java/lang/System" ∈ tblG) (hfr : 1 ≤ R.frames) (hlo : (rest.map fun v => v.category).sum + 18 ≤ R.locals) (hls : ls.size = nL) (hd : decode cc pc = .ok (.invokestatic idx, 3))
    (kk : ∀ (H1 : Heap) (locs1 : List Loc), RM G S mr (cpM mi a b (ix n)) H1 locs1 → W p l e R s m args below meth c H1 locs1 cells slots Q (F0 m (pc + 3) ls rest)) : W p l e R s m args below meth c H locs cells slots Q (F0 m pc ls (.int n :: .int 0 :: .ref (G.2.2.2.1 + b) :: .int 0 :: .ref (G.2.2.2.1 + a) :: rest)) := by
  obtain ⟨hx, hb, hml, hown, hts, hK⟩ := C
  have hc0 := x_arr hR ha (by decide)
  have hc1 := x_arr hR hb2 (by decide)
  have e0 : (fun j => av G.2.2.2.1 9 (mr a j) (mi a j)) = (fun j => Value.int (mi a j)) := rfl
  have e1 : (fun j => av G.2.2.2.1 9 (mr b j) (mi b j)) = (fun j => Value.int (mi b j)) := rfl
  rw [e0] at hc0
  rw [e1] at hc1
  have nn : n.toInt = (ix n : Int) := by
    have hz0 : (0 : Int) ≤ n.toInt := by
      have := Int32.not_lt.mp h3
      simpa using Int32.le_iff_toInt_le.mp this
    show n.toInt = ((n.toInt.toNat : Nat) : Int)
    omega
  have z0 : ix (0 : Int32) = 0 := rfl
  obtain ⟨-, k0, hk0, cm0, hkk0⟩ := (hK.1.2 0 _ rfl).1 (S.2.2 a) (fun j => .int (mi a j))
  obtain ⟨-, k1, hk1, cm1, hkk1⟩ := (hK.1.2 0 _ rfl).1 (S.2.2 b) (fun j => .int (mi b j))
  intro T hT X
  obtain ⟨vm', X', step⟩ := X.arraycopy hx hown (hts _ hl) (hts _ hl2.1) (hts _ hl2.2.1) (hts _ hl2.2.2) (src := G.2.2.2.1 + a) (dst := G.2.2.2.1 + b) (srcPos := 0) (destPos := 0) (n := n) (by rw [hT]; exact hc0) (by rw [hT]; exact hc1)
    (fun _ h => by cases h) (fun _ h => by cases h) (fun h => by cases h) (fun h => by cases h) hk0 hk1 hkk0 hkk1 rfl (by decide) (by decide) h3
    (by rw [nn, arrV_size]; show ¬ (0 : Int) + _ > _; omega) (by rw [nn, arrV_size]; show ¬ (0 : Int) + _ > _; omega)
    (fun vm₁ _ i hi => by
      have e : (arrV (G.2.2.1 9) (S.2.2 a) (fun j => Value.int (mi a j))).slots.getD (ix (0 : Int32) + i) .null = .int (mi a (0 + i)) := by
        rw [Array.getD_eq_getD_getElem?, arrV_read _ _ (by rw [z0, Nat.zero_add]; exact Nat.lt_of_lt_of_le hi h4)]
        rfl
      exact ⟨by rw [e]; rfl, by rw [e]; exact trivial⟩)
    (g := F0 m pc ls (.int n :: .int 0 :: .ref (G.2.2.2.1 + b) :: .int 0 :: .ref (G.2.2.2.1 + a) :: rest)) rfl (by rw [hml]; exact hls) (rest := rest) rfl (by rw [hb]; exact hd) hfr (by show 2 * 0 + _ + (nativeFrameWords "java/lang/System" "arraycopy" 5 + 11) ≤ _; rw [show nativeFrameWords "java/lang/System" "arraycopy" 5 = 7 by decide +kernel]; omega)
  have e2 : copied (arrV (G.2.2.1 9) (S.2.2 a) (fun j => Value.int (mi a j))) (arrV (G.2.2.1 9) (S.2.2 b) (fun j => Value.int (mi b j))) 0 0 n = arrV (G.2.2.1 9) (S.2.2 b) (fun j => .int (va_cpy (mi a) (mi b) 0 0 (ix n) j)) := va_copied (fun z => .int z) (G.2.2.1 9) (G.2.2.1 9) (mi a) (mi b) (by show 0 + ix n ≤ _; rw [Nat.zero_add]; exact h4)
  rw [e2] at X' step
  have hl : G.2.2.2.1 + b < H.size := (Array.getElem?_eq_some_iff.mp hc1).1
  have hheap : ((T.setVm vm').setCell (G.2.2.2.1 + b) (arrV (G.2.2.1 9) (S.2.2 b) (fun j => .int (va_cpy (mi a) (mi b) 0 0 (ix n) j)))).heap = H.setIfInBounds (G.2.2.2.1 + b) (arrV (G.2.2.1 9) (S.2.2 b) (fun j => .int (va_cpy (mi a) (mi b) 0 0 (ix n) j))) := by rw [← hT]; rfl
  have oq : ∀ q : Nat, q ≠ G.2.2.2.1 + b → (H.setIfInBounds (G.2.2.2.1 + b) (arrV (G.2.2.1 9) (S.2.2 b) (fun j => .int (va_cpy (mi a) (mi b) 0 0 (ix n) j))))[q]? = H[q]? := fun q hq => by simp [Array.getElem?_setIfInBounds, Ne.symm hq]
  obtain ⟨t, a1, b1⟩ := kk _ _ (hR.upd (mi' := cpM mi a b (ix n)) (by simp) oq (fun k h => ⟨rfl, cpM_ne h⟩) ⟨fun h => absurd h (by rw [hb2.2]; omega), fun _ => by
      rw [hb2.2, cpM_eq]
      simp [Array.getElem?_setIfInBounds, hl, av]⟩ (fun q hq => by
      rcases List.mem_append.mp hq with h | h
      · exact hR.2.2.2 q h
      · obtain ⟨z, -, hz⟩ := List.mem_map.mp h
        rw [← hz]
        exact Nat.le_add_right _ _)) _ hheap X'
  exact ⟨t, step t a1, b1⟩
end XS
end
section
/-! ===== answers, contracts, calls ===== -/
def rmD (d mc ms : Nat) : Room := { frames := d, cells := mc, slots := ms, locals := 35 * d }
def QX (G : GT) (r : Option Value) (S : Shp) (mr : Rfs) (mi : Mem) : Array Value → State → Outcome → State → Prop := fun _ _ oc t => oc = .returned r ∧ RM G S mr mi t.heap []
def PX (G : GT) (av : List Value) (S : Shp) (mr : Rfs) (mi : Mem) : Array Value → State → Prop := va_Pc av (fun U => RM G S mr mi U.heap [] ∧ Kx G U)
def MX (l : Launch) (G : GT) (y : MethodName) (cc : ByteArray) (nL : Nat) (rt : Option FieldType) (d mc ms : Nat) (av : List Value) (S : Shp) (mr : Rfs) (mi : Mem) (r : Option Value) (S' : Shp) (mr' : Rfs) (mi' : Mem) : Prop :=
  Met l y (Cond.code y cc nL rt :: tblG) (rmD d mc ms) (PX G av S mr mi) (QX G r S' mr' mi') mc ms (fun q => G.2.2.2.1 ≤ q)
theorem PX.blind {G : GT} {av : List Value} {S : Shp} {mr : Rfs} {mi : Mem} : FrameBlind (PX G av S mr mi) := fun _ U g mk h => ⟨h.1, h.2.1, Kx.warm (s := U) (U := U.calling g mk _) (State.WarmedH.refl U) h.2.2⟩
/-- a virtual call: the words that it takes -/
def CO (own : String) (idx : Nat) (y : MethodName) (cc : ByteArray) (nL : Nat) (rt : Option FieldType) (k : Nat) : Prop :=
  Cond.code y cc nL rt ∈ tblG ∧ Cond.initialized y.cls ∈ tblG ∧ Cond.instanceMethod y ∈ tblG ∧ Cond.selects y.cls y y ∈ tblG ∧ (y.cls ≠ "java/lang/invoke/MethodHandle" ∧ y.cls ≠ "java/lang/invoke/VarHandle" ∧ (parseMethodDescriptor y.desc).map (fun d => d.parameters.length) = some k) ∧
  (Cond.methodLink own idx y ∈ tblG ∨ Cond.methodLinkNest own idx y "LetterTray" ∈ nestT)
/-- a static call -/
def SO (own : String) (idx : Nat) (y : MethodName) (cc : ByteArray) (nL : Nat) (rt : Option FieldType) (k : Nat) : Prop :=
  Cond.code y cc nL rt ∈ tblG ∧ Cond.initialized y.cls ∈ tblG ∧ Cond.static y ∈ tblG ∧ (y.cls ≠ "java/lang/invoke/MethodHandle" ∧ y.cls ≠ "java/lang/invoke/VarHandle" ∧ (parseMethodDescriptor y.desc).map (fun d => d.parameters.length) = some k) ∧ Cond.methodLink own idx y ∈ tblG
/-- a constructor's call -/
def IO' (own : String) (idx : Nat) (y : MethodName) (cc : ByteArray) (nL : Nat) (k : Nat) : Prop :=
  Cond.code y cc nL none ∈ tblG ∧ Cond.initialized y.cls ∈ tblG ∧ Cond.instanceMethod y ∈ tblG ∧ y.name = "<init>" ∧ (y.cls ≠ "java/lang/invoke/MethodHandle" ∧ y.cls ≠ "java/lang/invoke/VarHandle" ∧ (parseMethodDescriptor y.desc).map (fun d => d.parameters.length) = some k) ∧
  (Cond.methodLink own idx y ∈ tblG ∨ Cond.methodLinkNest own idx y "LetterTray" ∈ nestT)
section XC
variable {p : Program} {l : Launch} {e : Env} {R : Room} {s : State} {m : MethodId} {args : Array Value} {below : List Frame} {meth : Method} {c : Code} {H : Heap} {locs : List Loc} {cells slots : Nat} {Q : State → Prop}
variable {cc : ByteArray} {pc : Nat} {ls : Array Slot} {rest : List Value} {G : GT} {S : Shp} {mr : Rfs} {mi : Mem} {own : String} {nL : Nat}
theorem x_iret (C : Cx G p s m c args own cc nL) (hR : RM G S mr mi H locs) {v : Int32} (hr : meth.sig.returnType = some .int) (hlk : meth.locks = false) (hd : decode cc pc = .ok (.ireturn, 1)) :
    W p l e R s m args below meth c H locs cells slots (MQ below (QX G (some (.int v)) S mr mi) args s cells slots (fun q => G.2.2.2.1 ≤ q)) (F0 m pc ls [.int v]) :=
  W.iret C.1 C.2.1 hr (fun t ht hW => ⟨rfl, by rw [ht]; exact hR.nil⟩) hR.2.2.2 hd
theorem x_zret (C : Cx G p s m c args own cc nL) (hR : RM G S mr mi H locs) {v : Int32} (hv : isB v = true) (hr : meth.sig.returnType = some .boolean) (hlk : meth.locks = false) (hd : decode cc pc = .ok (.ireturn, 1)) :
    W p l e R s m args below meth c H locs cells slots (MQ below (QX G (some (.int v)) S mr mi) args s cells slots (fun q => G.2.2.2.1 ≤ q)) (F0 m pc ls [.int v]) :=
  W.zret C.1 C.2.1 hr (isB_n hv) (fun t ht hW => ⟨rfl, by rw [ht]; exact hR.nil⟩) hR.2.2.2 hd
theorem x_vret (C : Cx G p s m c args own cc nL) (hR : RM G S mr mi H locs) (hr : meth.sig.returnType = none) (hlk : meth.locks = false) (hd : decode cc pc = .ok (.return_, 1)) :
    W p l e R s m args below meth c H locs cells slots (MQ below (QX G none S mr mi) args s cells slots (fun q => G.2.2.2.1 ≤ q)) (F0 m pc ls []) :=
  W.vret C.1 C.2.1 hr (fun t ht hW => ⟨rfl, by rw [ht]; exact hR.nil⟩) hR.2.2.2 hd
theorem x_aret (C : Cx G p s m c args own cc nL) (hR : RM G S mr mi H locs) {b : Nat} {n : String} (hr : meth.sig.returnType = some (.object n)) (hlk : meth.locks = false) (hd : decode cc pc = .ok (.areturn, 1)) :
    W p l e R s m args below meth c H locs cells slots (MQ below (QX G (some (.ref (G.2.2.2.1 + b))) S mr mi) args s cells slots (fun q => G.2.2.2.1 ≤ q)) (F0 m pc ls [.ref (G.2.2.2.1 + b)]) :=
  W.aret C.1 C.2.1 hr (Or.inl ⟨n, rfl⟩) (Or.inr ⟨_, rfl⟩) (fun t ht hW => ⟨rfl, by rw [ht]; exact hR.nil⟩) hR.2.2.2 hd
/-- behind a call -/
theorem x_run {mc ms : Nat} {st0 : List Value} {r : Option Value} {S' : Shp} {mr' : Rfs} {mi' : Mem} {a : Array Value} (hr : va_Run p l e R s m args below meth c H locs cells slots mc ms (F0 m pc ls st0) rest (QX G r S' mr' mi' a) (fun q => G.2.2.2.1 ≤ q)) (hR : RM G S mr mi H locs)
    (kk : ∀ (H1 : Heap) (locs1 : List Loc), RM G S' mr' mi' H1 locs1 → W p l e R s m args below meth c H1 locs1 (cells + mc) (slots + ms) Q (F0 m (pc + 3) ls (r.toList ++ rest))) : W p l e R s m args below meth c H locs cells slots Q (F0 m pc ls st0) := by
  intro T hT X
  obtain ⟨v, st₀, t, T', L, h0, X', hL, e1, e2, ⟨hv, hq⟩, st⟩ := hr T hT X
  have hv : v = r := Outcome.returned.inj hv
  subst hv
  obtain ⟨t2, a1, b1⟩ := kk T'.heap (locs ++ L) (by rw [e1]; exact hq.locs (t_lL hR.2.2.2 hL)) T' rfl X'
  exact ⟨t2, st t2 a1, b1⟩
theorem x_callV {y : MethodName} {ccY : ByteArray} {nY idx d mc ms a k : Nat} {rtY : Option FieldType} {As st0 : List Value} {r : Option Value} {S' : Shp} {mr' : Rfs} {mi' : Mem} (C : Cx G p s m c args own cc nL) (hR : RM G S mr mi H locs) (hO : CO own idx y ccY nY rtY k) (hM : MX l G y ccY nY rtY d mc ms (.ref (G.2.2.2.1 + a) :: As) S mr mi r S' mr' mi')
    (ha : a < S.1 ∧ S.2.1 a < 9 ∧ cN (S.2.1 a) = y.cls) (hk : As.length = k) (hst : st0 = As.reverse ++ .ref (G.2.2.2.1 + a) :: rest) (hrs : (rest.map fun v => v.category).sum ≤ 8) (hls : ls.size = nL) (hfr : d + 1 ≤ R.frames ∧ 8 + (nY + 11) + 35 * d ≤ R.locals) (hf : cells + mc ≤ R.cells ∧ slots + ms ≤ R.slots) (hd : decode cc pc = .ok (.invokevirtual idx, 3))
    (kk : ∀ (H1 : Heap) (locs1 : List Loc), RM G S' mr' mi' H1 locs1 → W p l e R s m args below meth c H1 locs1 (cells + mc) (slots + ms) Q (F0 m (pc + 3) ls (r.toList ++ rest))) : W p l e R s m args below meth c H locs cells slots Q (F0 m pc ls st0) := by
  obtain ⟨hx, hb, hml, hown, hts, hK⟩ := C
  obtain ⟨o1, o2, o3, o4, o5, o6⟩ := hO
  have hp : PreV s H y.cls (G.2.2.2.1 + a) (PX G (.ref (G.2.2.2.1 + a) :: As) S mr mi) As := by
    refine ⟨PX.blind, ?_, fun U hU hW => ⟨rfl, by rw [hU]; exact hR.nil, hK.warm hW⟩⟩
    obtain ⟨cell, q1, q2, q3, -⟩ := (hR.2.2.1 a ha.1).1 ha.2.1
    have hc := (hK.1.1 _ _ (cl_at _ ha.2.1)).2.1
    exact ⟨cell, q1, by rw [q3]; rfl, by rw [q2, ← ha.2.2]; exact hc⟩
  rcases o6 with o6 | o6
  · exact x_run (va_runV ⟨hx, hb, hml, hown, hts⟩ hM ⟨callB_of k hts (goodG _ _ _ _ o1) rfl rfl rfl (hts _ o2) (hts _ o6) o5 hfr, hts _ o3, hts _ o4⟩ hp rfl hk hls hst (lv_room hrs) hd hf) hR kk
  · exact x_run (va_runVN ⟨hx, hb, hml, hown, hts⟩ hM ⟨va_cnB k hts (goodG _ _ _ _ o1) rfl rfl rfl (hK.2 _ o6) (hts _ o2) o5 hfr, hts _ o3, hts _ o4⟩ hp rfl hk hls hst (lv_room hrs) hd hf) hR kk
theorem x_callS {y : MethodName} {ccY : ByteArray} {nY idx d mc ms k : Nat} {rtY : Option FieldType} {As st0 : List Value} {r : Option Value} {S' : Shp} {mr' : Rfs} {mi' : Mem} (C : Cx G p s m c args own cc nL) (hR : RM G S mr mi H locs) (hO : SO own idx y ccY nY rtY k) (hM : MX l G y ccY nY rtY d mc ms As S mr mi r S' mr' mi')
    (hk : As.length = k) (hst : st0 = As.reverse ++ rest) (hrs : (rest.map fun v => v.category).sum ≤ 8) (hls : ls.size = nL) (hfr : d + 1 ≤ R.frames ∧ 8 + (nY + 11) + 35 * d ≤ R.locals) (hf : cells + mc ≤ R.cells ∧ slots + ms ≤ R.slots) (hd : decode cc pc = .ok (.invokestatic idx, 3))
    (kk : ∀ (H1 : Heap) (locs1 : List Loc), RM G S' mr' mi' H1 locs1 → W p l e R s m args below meth c H1 locs1 (cells + mc) (slots + ms) Q (F0 m (pc + 3) ls (r.toList ++ rest))) : W p l e R s m args below meth c H locs cells slots Q (F0 m pc ls st0) := by
  obtain ⟨hx, hb, hml, hown, hts, hK⟩ := C
  obtain ⟨o1, o2, o3, o5, o6⟩ := hO
  have hp : PreS s H (PX G As S mr mi) As := ⟨PX.blind, fun U hU hW => ⟨rfl, by rw [hU]; exact hR.nil, hK.warm hW⟩⟩
  exact x_run (va_runS ⟨hx, hb, hml, hown, hts⟩ hM ⟨callB_of k hts (goodG _ _ _ _ o1) rfl rfl rfl (hts _ o2) (hts _ o6) o5 hfr, hts _ o3⟩ hp rfl hk hls hst (lv_room hrs) hd hf) hR kk
theorem x_callI {y : MethodName} {ccY : ByteArray} {nY idx d mc ms a k : Nat} {As st0 : List Value} {r : Option Value} {S' : Shp} {mr' : Rfs} {mi' : Mem} (C : Cx G p s m c args own cc nL) (hR : RM G S mr mi H locs) (hO : IO' own idx y ccY nY k) (hM : MX l G y ccY nY none d mc ms (.ref (G.2.2.2.1 + a) :: As) S mr mi r S' mr' mi')
    (hk : As.length = k) (hst : st0 = As.reverse ++ .ref (G.2.2.2.1 + a) :: rest) (hrs : (rest.map fun v => v.category).sum ≤ 8) (hls : ls.size = nL) (hfr : d + 1 ≤ R.frames ∧ 8 + (nY + 11) + 35 * d ≤ R.locals) (hf : cells + mc ≤ R.cells ∧ slots + ms ≤ R.slots) (hd : decode cc pc = .ok (.invokespecial idx, 3))
    (kk : ∀ (H1 : Heap) (locs1 : List Loc), RM G S' mr' mi' H1 locs1 → W p l e R s m args below meth c H1 locs1 (cells + mc) (slots + ms) Q (F0 m (pc + 3) ls (r.toList ++ rest))) : W p l e R s m args below meth c H locs cells slots Q (F0 m pc ls st0) := by
  obtain ⟨hx, hb, hml, hown, hts, hK⟩ := C
  obtain ⟨o1, o2, o3, o4, o5, o6⟩ := hO
  have hp : PreS s H (PX G (.ref (G.2.2.2.1 + a) :: As) S mr mi) (.ref (G.2.2.2.1 + a) :: As) := ⟨PX.blind, fun U hU hW => ⟨rfl, by rw [hU]; exact hR.nil, hK.warm hW⟩⟩
  rcases o6 with o6 | o6
  · exact x_run (va_runI ⟨hx, hb, hml, hown, hts⟩ hM ⟨callB_of k hts (goodG _ _ _ _ o1) rfl rfl rfl (hts _ o2) (hts _ o6) o5 hfr, o4, hts _ o3⟩ hp rfl hk hls hst (lv_room hrs) hd hf) hR kk
  · exact x_run (va_runIN ⟨hx, hb, hml, hown, hts⟩ hM ⟨va_cnB k hts (goodG _ _ _ _ o1) rfl rfl rfl (hK.2 _ o6) (hts _ o2) o5 hfr, o4, hts _ o3⟩ hp rfl hk hls hst (lv_room hrs) hd hf) hR kk
end XC
/-- a method's contract out of the walk of its body -/
theorem x_method {l : Launch} {G : GT} {y : MethodName} {cc : ByteArray} {nL : Nat} {rt : Option FieldType} {d mc ms : Nat} {av : List Value} {S : Shp} {mr : Rfs} {mi : Mem} {r : Option Value} {S' : Shp} {mr' : Rfs} {mi' : Mem} {own : String} {lv : List (Nat × Value)} (hy : plainName y.cls = true) (hown : y.cls = own) (hlv : lv_args 0 av = lv) (hn : (lg_sl av).length ≤ nL)
    (body : ∀ (p : Program) (e : Env) (s : State) (m : MethodId) (below : List Frame) (meth : Method) (c : Code), Cx G p s m c av.toArray own cc nL → meth.sig.returnType = rt → meth.locks = false → meth.name = y.name → ∀ ls : Array Slot, lv_has ls nL lv → ls.size = nL → RM G S mr mi s.heap [] →
      W p l e (rmD d mc ms) s m av.toArray below meth c s.heap [] 0 0 (MQ below (QX G r S' mr' mi') av.toArray s mc ms (fun q => G.2.2.2.1 ≤ q)) (F0 m 0 ls [])) : MX l G y cc nL rt d mc ms av S mr mi r S' mr' mi' := by
  refine Met.ofW (cc := cc) (maxL := nL) (ret := rt) hy rfl ?_
  intro p e s m args below meth c s₁ B hml hv
  obtain ⟨rfl, hR, hK⟩ := hv
  have hts := atoms_spec (ws := Cond.code y cc nL rt :: tblG) B.pre
  have ho : s.vm.findClass own = some m.cls := hown ▸ findClass_of_methodNamed B.named
  have hl := lv_entry av hn
  rw [lg_entry_eq]
  generalize (lg_sl av ++ List.replicate (nL - (lg_sl av).length) Slot.unset).toArray = ls at hl ⊢
  rw [hlv] at hl
  exact body p e s m below meth c ⟨B.exec, B.bytes, hml, ho, fun w hw => hts w (List.mem_cons_of_mem _ hw), hK⟩ B.returns B.notSynchronized (name_of_methodNamed B.named B.method).1 ls hl hl.1 hR
/-! ===== the words of plain programs: guard, name, loop ===== -/
def gd {α : Type} (b : Bool) (x : Option α) : Option α := if b = true then x else none
theorem gd_some {α : Type} {b : Bool} {x : Option α} {r : α} (h : gd b x = some r) : b = true ∧ x = some r := by
  cases b
  · cases h
  · exact ⟨rfl, h⟩
theorem gd_t {α : Type} {b : Bool} {x : Option α} (h : b = true) : gd b x = x := by rw [gd, if_pos h]
def nm {α β : Type} (x : α) (k : α → Option β) : Option β := k x
theorem nm_some {α β : Type} {x : α} {k : α → Option β} {r : β} (h : nm x k = some r) : ∃ y, y = x ∧ k y = some r := ⟨x, rfl, h⟩
theorem bd_some {α β : Type} {x : Option α} {k : α → Option β} {r : β} (h : x.bind k = some r) : ∃ y, x = some y ∧ k y = some r := by
  cases x with
  | none => cases h
  | some y => exact ⟨y, rfl, h⟩
def lp {σ ρ : Type} (body : σ → Option (σ ⊕ ρ)) : Nat → σ → Option ρ
  | 0, _ => none
  | n + 1, s => match body s with
    | none => none
    | some (.inl s') => lp body n s'
    | some (.inr r) => some r
theorem lp_some {σ ρ : Type} {body : σ → Option (σ ⊕ ρ)} {n : Nat} {s : σ} {r : ρ} (h : lp body n s = some r) : ∃ m x, n = m + 1 ∧ body s = some x ∧ ((∃ s', x = .inl s' ∧ lp body m s' = some r) ∨ x = .inr r) := by
  cases n with
  | zero => cases h
  | succ m =>
    unfold lp at h
    cases hb : body s with
    | none => rw [hb] at h; cases h
    | some x =>
      rw [hb] at h
      cases x with
      | inl s' => exact ⟨m, .inl s', rfl, rfl, Or.inl ⟨s', rfl, h⟩⟩
      | inr q => cases h; exact ⟨m, .inr r, rfl, rfl, Or.inr rfl⟩
/-- a loop runs to its end: an invariant, a measure -/
theorem lp_run {σ ρ : Type} {body : σ → Option (σ ⊕ ρ)} (I : σ → Prop) (μ : σ → Nat) (P : ρ → Prop) (hs : ∀ s, I s → (∃ s', body s = some (.inl s') ∧ I s' ∧ μ s' < μ s) ∨ (∃ r, body s = some (.inr r) ∧ P r)) : ∀ (n : Nat) (s : σ), I s → μ s < n → ∃ r, lp body n s = some r ∧ P r
  | 0, s, _, h => absurd h (Nat.not_lt_zero _)
  | n + 1, s, hI, h => by
    rcases hs s hI with ⟨s', hb, hI', hm⟩ | ⟨r, hb, hP⟩
    · obtain ⟨r, h1, h2⟩ := lp_run I μ P hs n s' hI' (by omega)
      exact ⟨r, by unfold lp; rw [hb]; exact h1, h2⟩
    · exact ⟨r, by unfold lp; rw [hb], hP⟩
end
section
/-! ===== the cells as the constructors make them: kinds, lengths, fixed references (printed by wip/whole/gen/layout.py) ===== -/
def kdL : List Nat := [7, 3, 10, 0, 9, 9, 9, 9, 1, 12, 0, 9, 9, 9, 9, 0, 9, 9, 9, 9, 0, 9, 9, 9, 9, 0, 9, 9, 9, 9, 0, 9, 9, 9, 9, 0, 9, 9, 9, 9, 0, 9, 9, 9, 9, 0, 9, 9, 9, 9, 0, 9, 9, 9, 9, 0, 9, 9, 9, 9, 0, 9, 9, 9, 9, 0, 9, 9, 9, 9, 0, 9, 9, 9, 9, 0, 9, 9, 9, 9, 0, 9, 9, 9, 9, 0, 9, 9, 9, 9, 0, 9, 9, 9, 9, 0, 9, 9, 9, 9, 0, 9, 9, 9, 9, 0, 9, 9, 9, 9, 0, 9, 9, 9, 9, 0, 9, 9, 9, 9, 0, 9, 9, 9, 9, 0, 9, 9, 9, 9, 0, 9, 9, 9, 9, 0, 9, 9, 9, 9, 0, 9, 9, 9, 9, 0, 9, 9, 9, 9, 0, 9, 9, 9, 9, 0, 9, 9, 9, 9, 13, 2, 0, 9, 9, 9, 9, 2, 0, 9, 9, 9, 9, 5, 9, 9, 9, 9, 9, 6, 9, 9, 9, 9, 9, 9, 9, 9, 9, 9, 6, 9, 9, 9, 9, 9, 9, 9, 9, 9, 9, 4, 9, 9, 9, 9, 8, 9, 9, 9, 9, 9, 9, 9, 9, 9, 9, 9, 9, 9, 9, 9, 9, 9, 9, 9, 11]
def lnL : List Nat := [0, 0, 240, 0, 9, 9, 8, 8, 0, 30, 0, 9, 9, 8, 8, 0, 9, 9, 8, 8, 0, 9, 9, 8, 8, 0, 9, 9, 8, 8, 0, 9, 9, 8, 8, 0, 9, 9, 8, 8, 0, 9, 9, 8, 8, 0, 9, 9, 8, 8, 0, 9, 9, 8, 8, 0, 9, 9, 8, 8, 0, 9, 9, 8, 8, 0, 9, 9, 8, 8, 0, 9, 9, 8, 8, 0, 9, 9, 8, 8, 0, 9, 9, 8, 8, 0, 9, 9, 8, 8, 0, 9, 9, 8, 8, 0, 9, 9, 8, 8, 0, 9, 9, 8, 8, 0, 9, 9, 8, 8, 0, 9, 9, 8, 8, 0, 9, 9, 8, 8, 0, 9, 9, 8, 8, 0, 9, 9, 8, 8, 0, 9, 9, 8, 8, 0, 9, 9, 8, 8, 0, 9, 9, 8, 8, 0, 9, 9, 8, 8, 0, 9, 9, 8, 8, 0, 9, 9, 8, 8, 2, 0, 0, 9, 9, 8, 8, 0, 0, 9, 9, 8, 8, 0, 6, 6, 6, 20, 20, 0, 9, 9, 10, 10, 10, 60, 80, 100, 100, 100, 0, 9, 9, 10, 10, 10, 60, 80, 100, 100, 100, 0, 9, 9, 1728, 1728, 0, 8, 10, 10, 60, 80, 37, 1110, 240, 8, 9, 10, 10, 60, 13, 8, 13, 18, 40, 76, 2]
def mrL : List (List (Option Nat)) := [[some 1, some 3, some 8, some 160, some 201, some 173, some 179, some 190, none, none], [some 2, none, none, none, none], [], [some 4, some 5, some 6, some 7, none, none, none], [], [], [], [], [some 9, none, none], [some 10, some 15, some 20, some 25, some 30, some 35, some 40, some 45, some 50, some 55, some 60, some 65, some 70, some 75, some 80, some 85, some 90, some 95, some 100, some 105, some 110, some 115, some 120, some 125, some 130, some 135, some 140, some 145, some 150, some 155], [some 11, some 12, some 13, some 14, none, none, none], [], [], [], [], [some 16, some 17, some 18, some 19, none, none, none], [], [], [], [], [some 21, some 22, some 23, some 24, none, none, none], [], [], [], [], [some 26, some 27, some 28, some 29, none, none, none], [], [], [], [], [some 31, some 32, some 33, some 34, none, none, none], [], [], [], [], [some 36, some 37, some 38, some 39, none, none, none], [], [], [], [], [some 41, some 42, some 43, some 44, none, none, none], [], [], [], [], [some 46, some 47, some 48, some 49, none, none, none], [], [], [], [], [some 51, some 52, some 53, some 54, none, none, none], [], [], [], [], [some 56, some 57, some 58, some 59, none, none, none], [], [], [], [], [some 61, some 62, some 63, some 64, none, none, none], [], [], [], [], [some 66, some 67, some 68, some 69, none, none, none], [], [], [], [], [some 71, some 72, some 73, some 74, none, none, none], [], [], [], [], [some 76, some 77, some 78, some 79, none, none, none], [], [], [], [], [some 81, some 82, some 83, some 84, none, none, none], [], [], [], [], [some 86, some 87, some 88, some 89, none, none, none], [], [], [], [], [some 91, some 92, some 93, some 94, none, none, none], [], [], [], [], [some 96, some 97, some 98, some 99, none, none, none], [], [], [], [], [some 101, some 102, some 103, some 104, none, none, none], [], [], [], [], [some 106, some 107, some 108, some 109, none, none, none], [], [], [], [], [some 111, some 112, some 113, some 114, none, none, none], [], [], [], [], [some 116, some 117, some 118, some 119, none, none, none], [], [], [], [], [some 121, some 122, some 123, some 124, none, none, none], [], [], [], [], [some 126, some 127, some 128, some 129, none, none, none], [], [], [], [], [some 131, some 132, some 133, some 134, none, none, none], [], [], [], [], [some 136, some 137, some 138, some 139, none, none, none], [], [], [], [], [some 141, some 142, some 143, some 144, none, none, none], [], [], [], [], [some 146, some 147, some 148, some 149, none, none, none], [], [], [], [], [some 151, some 152, some 153, some 154, none, none, none], [], [], [], [], [some 156, some 157, some 158, some 159, none, none, none], [], [], [], [], [some 161, some 167], [some 162, none, none], [some 163, some 164, some 165, some 166, none, none, none], [], [], [], [], [some 168, none, none], [some 169, some 170, some 171, some 172, none, none, none], [], [], [], [], [some 174, some 175, some 176, some 177, some 178, none, none], [], [], [], [], [], [some 180, some 181, some 182, some 183, some 184, some 185, some 186, some 187, some 188, some 189, none, none, none], [], [], [], [], [], [], [], [], [], [], [some 191, some 192, some 193, some 194, some 195, some 196, some 197, some 198, some 199, some 200, none, none, none], [], [], [], [], [], [], [], [], [], [], [some 202, some 203, some 204, some 205, none, none, some 179], [], [], [], [], [some 207, some 208, some 209, some 210, some 211, none, none, some 212, none, some 213, none, some 214, none, none, none, none, none, some 215, some 216, some 217, some 218, some 219, none, none, some 220, none, some 221, none, none, none, none, none, some 222, some 223, none, some 224, none, some 225, some 226], [], [], [], [], [], [], [], [], [], [], [], [], [], [], [], [], [], [], [], []]
def kd0 (a : Nat) : Nat := kdL.getD a 0
def ln0 (a : Nat) : Nat := lnL.getD a 0
def S0 : Shp := (227, kd0, ln0)
def sMr (a k : Nat) : Option Nat := (mrL.getD a []).getD k none
/-- the references: w the words, sp the spare ones, rw those of the rows; all else stays -/
def mr0 (w sp rw : Nat) (a k : Nat) : Option Nat := if a = 0 ∧ k = 6 then some w else if a = 0 ∧ k = 7 then some sp else if a = 201 ∧ k = 6 then some rw else sMr a k
theorem mr0_s {w sp rw a : Nat} (h0 : a ≠ 0) (h1 : a ≠ 201) (k : Nat) : mr0 w sp rw a k = sMr a k := by
  rw [mr0, if_neg (fun h => h0 h.1), if_neg (fun h => h0 h.1), if_neg (fun h => h1 h.1)]
theorem mr0_w (w sp rw x : Nat) : sr (mr0 w sp rw) 0 6 (some x) = mr0 x sp rw := by
  funext a k
  unfold sr mr0
  by_cases h : a = 0
  · subst h
    by_cases h2 : k = 6 <;> simp [h2]
  · simp [h]
theorem mr0_sp (w sp rw x : Nat) : sr (mr0 w sp rw) 0 7 (some x) = mr0 w x rw := by
  funext a k
  unfold sr mr0
  by_cases h : a = 0
  · subst h
    by_cases h2 : k = 7 <;> simp [h2]
  · simp [h]
theorem mr0_rw (w sp rw x : Nat) : sr (mr0 w sp rw) 201 6 (some x) = mr0 w sp x := by
  funext a k
  unfold sr mr0
  by_cases h : a = 201
  · subst h
    by_cases h2 : k = 6 <;> simp [h2]
  · simp [h]
def isW (a : Nat) : Prop := a = 179 ∨ a = 190
def isI (a : Nat) : Prop := a = 161 ∨ a = 167
def dkL : List Nat := [3, 10, 15, 20, 25, 30, 35, 40, 45, 50, 55, 60, 65, 70, 75, 80, 85, 90, 95, 100, 105, 110, 115, 120, 125, 130, 135, 140, 145, 150, 155, 162, 168]
def isD (a : Nat) : Prop := a ∈ dkL
abbrev isA (a : Nat) : Prop := a < S0.1 ∧ S0.2.1 a = 9
def isQ (w sp rw : Nat) : Prop := isW w ∧ isW sp ∧ isW rw
theorem kW {a : Nat} (h : isW a) : a < S0.1 ∧ S0.2.1 a = 6 := by rcases h with rfl | rfl <;> decide
theorem vW {a : Nat} (h : isW a) : a < S0.1 ∧ S0.2.1 a < 9 ∧ cN (S0.2.1 a) = RX6 := by rcases h with rfl | rfl <;> exact ⟨by decide, by decide, rfl⟩
theorem nW {a : Nat} (h : isW a) : a ≠ 0 ∧ a ≠ 201 := by rcases h with rfl | rfl <;> decide
theorem mW0 {w sp rw a : Nat} (h : isW a) : mr0 w sp rw a 0 = some (a + 1) := by rw [mr0_s (nW h).1 (nW h).2]; rcases h with rfl | rfl <;> decide
theorem kW0 {a : Nat} (h : isW a) : a + 1 < S0.1 ∧ S0.2.1 (a + 1) = 9 := by rcases h with rfl | rfl <;> decide
theorem lW0 {a : Nat} (h : isW a) : S0.2.2 (a + 1) = 9 := by rcases h with rfl | rfl <;> decide
theorem mW1 {w sp rw a : Nat} (h : isW a) : mr0 w sp rw a 1 = some (a + 2) := by rw [mr0_s (nW h).1 (nW h).2]; rcases h with rfl | rfl <;> decide
theorem kW1 {a : Nat} (h : isW a) : a + 2 < S0.1 ∧ S0.2.1 (a + 2) = 9 := by rcases h with rfl | rfl <;> decide
theorem lW1 {a : Nat} (h : isW a) : S0.2.2 (a + 2) = 9 := by rcases h with rfl | rfl <;> decide
theorem mW2 {w sp rw a : Nat} (h : isW a) : mr0 w sp rw a 2 = some (a + 3) := by rw [mr0_s (nW h).1 (nW h).2]; rcases h with rfl | rfl <;> decide
theorem kW2 {a : Nat} (h : isW a) : a + 3 < S0.1 ∧ S0.2.1 (a + 3) = 9 := by rcases h with rfl | rfl <;> decide
theorem lW2 {a : Nat} (h : isW a) : S0.2.2 (a + 3) = 10 := by rcases h with rfl | rfl <;> decide
theorem mW3 {w sp rw a : Nat} (h : isW a) : mr0 w sp rw a 3 = some (a + 4) := by rw [mr0_s (nW h).1 (nW h).2]; rcases h with rfl | rfl <;> decide
theorem kW3 {a : Nat} (h : isW a) : a + 4 < S0.1 ∧ S0.2.1 (a + 4) = 9 := by rcases h with rfl | rfl <;> decide
theorem lW3 {a : Nat} (h : isW a) : S0.2.2 (a + 4) = 10 := by rcases h with rfl | rfl <;> decide
theorem mW4 {w sp rw a : Nat} (h : isW a) : mr0 w sp rw a 4 = some (a + 5) := by rw [mr0_s (nW h).1 (nW h).2]; rcases h with rfl | rfl <;> decide
theorem kW4 {a : Nat} (h : isW a) : a + 5 < S0.1 ∧ S0.2.1 (a + 5) = 9 := by rcases h with rfl | rfl <;> decide
theorem lW4 {a : Nat} (h : isW a) : S0.2.2 (a + 5) = 10 := by rcases h with rfl | rfl <;> decide
theorem mW5 {w sp rw a : Nat} (h : isW a) : mr0 w sp rw a 5 = some (a + 6) := by rw [mr0_s (nW h).1 (nW h).2]; rcases h with rfl | rfl <;> decide
theorem kW5 {a : Nat} (h : isW a) : a + 6 < S0.1 ∧ S0.2.1 (a + 6) = 9 := by rcases h with rfl | rfl <;> decide
theorem lW5 {a : Nat} (h : isW a) : S0.2.2 (a + 6) = 60 := by rcases h with rfl | rfl <;> decide
theorem mW6 {w sp rw a : Nat} (h : isW a) : mr0 w sp rw a 6 = some (a + 7) := by rw [mr0_s (nW h).1 (nW h).2]; rcases h with rfl | rfl <;> decide
theorem kW6 {a : Nat} (h : isW a) : a + 7 < S0.1 ∧ S0.2.1 (a + 7) = 9 := by rcases h with rfl | rfl <;> decide
theorem lW6 {a : Nat} (h : isW a) : S0.2.2 (a + 7) = 80 := by rcases h with rfl | rfl <;> decide
theorem mW7 {w sp rw a : Nat} (h : isW a) : mr0 w sp rw a 7 = some (a + 8) := by rw [mr0_s (nW h).1 (nW h).2]; rcases h with rfl | rfl <;> decide
theorem kW7 {a : Nat} (h : isW a) : a + 8 < S0.1 ∧ S0.2.1 (a + 8) = 9 := by rcases h with rfl | rfl <;> decide
theorem lW7 {a : Nat} (h : isW a) : S0.2.2 (a + 8) = 100 := by rcases h with rfl | rfl <;> decide
theorem mW8 {w sp rw a : Nat} (h : isW a) : mr0 w sp rw a 8 = some (a + 9) := by rw [mr0_s (nW h).1 (nW h).2]; rcases h with rfl | rfl <;> decide
theorem kW8 {a : Nat} (h : isW a) : a + 9 < S0.1 ∧ S0.2.1 (a + 9) = 9 := by rcases h with rfl | rfl <;> decide
theorem lW8 {a : Nat} (h : isW a) : S0.2.2 (a + 9) = 100 := by rcases h with rfl | rfl <;> decide
theorem mW9 {w sp rw a : Nat} (h : isW a) : mr0 w sp rw a 9 = some (a + 10) := by rw [mr0_s (nW h).1 (nW h).2]; rcases h with rfl | rfl <;> decide
theorem kW9 {a : Nat} (h : isW a) : a + 10 < S0.1 ∧ S0.2.1 (a + 10) = 9 := by rcases h with rfl | rfl <;> decide
theorem lW9 {a : Nat} (h : isW a) : S0.2.2 (a + 10) = 100 := by rcases h with rfl | rfl <;> decide
set_option maxRecDepth 100000 in
theorem dkA : ∀ a ∈ dkL, (a ≠ 0 ∧ a ≠ 201) ∧ (a < S0.1 ∧ S0.2.1 a = 0) ∧ (sMr a 0 = some (a + 1) ∧ (a + 1 < S0.1 ∧ S0.2.1 (a + 1) = 9) ∧ S0.2.2 (a + 1) = 9) ∧ (sMr a 1 = some (a + 2) ∧ (a + 2 < S0.1 ∧ S0.2.1 (a + 2) = 9) ∧ S0.2.2 (a + 2) = 9) ∧ (sMr a 2 = some (a + 3) ∧ (a + 3 < S0.1 ∧ S0.2.1 (a + 3) = 9) ∧ S0.2.2 (a + 3) = 8) ∧ (sMr a 3 = some (a + 4) ∧ (a + 4 < S0.1 ∧ S0.2.1 (a + 4) = 9) ∧ S0.2.2 (a + 4) = 8) := by decide +kernel
theorem kD {a : Nat} (h : isD a) : a < S0.1 ∧ S0.2.1 a = 0 := (dkA a h).2.1
theorem vD {a : Nat} (h : isD a) : a < S0.1 ∧ S0.2.1 a < 9 ∧ cN (S0.2.1 a) = RX0 := ⟨(kD h).1, by rw [(kD h).2]; decide, by rw [(kD h).2]; rfl⟩
theorem mD0 {w sp rw a : Nat} (h : isD a) : mr0 w sp rw a 0 = some (a + 1) := by rw [mr0_s (dkA a h).1.1 (dkA a h).1.2]; exact (dkA a h).2.2.1.1
theorem kD0 {a : Nat} (h : isD a) : a + 1 < S0.1 ∧ S0.2.1 (a + 1) = 9 := (dkA a h).2.2.1.2.1
theorem lD0 {a : Nat} (h : isD a) : S0.2.2 (a + 1) = 9 := (dkA a h).2.2.1.2.2
theorem mD1 {w sp rw a : Nat} (h : isD a) : mr0 w sp rw a 1 = some (a + 2) := by rw [mr0_s (dkA a h).1.1 (dkA a h).1.2]; exact (dkA a h).2.2.2.1.1
theorem kD1 {a : Nat} (h : isD a) : a + 2 < S0.1 ∧ S0.2.1 (a + 2) = 9 := (dkA a h).2.2.2.1.2.1
theorem lD1 {a : Nat} (h : isD a) : S0.2.2 (a + 2) = 9 := (dkA a h).2.2.2.1.2.2
theorem mD2 {w sp rw a : Nat} (h : isD a) : mr0 w sp rw a 2 = some (a + 3) := by rw [mr0_s (dkA a h).1.1 (dkA a h).1.2]; exact (dkA a h).2.2.2.2.1.1
theorem kD2 {a : Nat} (h : isD a) : a + 3 < S0.1 ∧ S0.2.1 (a + 3) = 9 := (dkA a h).2.2.2.2.1.2.1
theorem lD2 {a : Nat} (h : isD a) : S0.2.2 (a + 3) = 8 := (dkA a h).2.2.2.2.1.2.2
theorem mD3 {w sp rw a : Nat} (h : isD a) : mr0 w sp rw a 3 = some (a + 4) := by rw [mr0_s (dkA a h).1.1 (dkA a h).1.2]; exact (dkA a h).2.2.2.2.2.1
theorem kD3 {a : Nat} (h : isD a) : a + 4 < S0.1 ∧ S0.2.1 (a + 4) = 9 := (dkA a h).2.2.2.2.2.2.1
theorem lD3 {a : Nat} (h : isD a) : S0.2.2 (a + 4) = 8 := (dkA a h).2.2.2.2.2.2.2
theorem hD3 : isD 3 := by unfold isD; decide
set_option maxRecDepth 100000 in
theorem rgA : ∀ k, k < 30 → sMr 9 k = some (10 + 5 * k) ∧ (10 + 5 * k) ∈ dkL := by decide +kernel
theorem rgM {w sp rw : Nat} {i : Int32} (h : inB i 30 = true) : mr0 w sp rw 9 (ix i) = some (10 + 5 * ix i) := by rw [mr0_s (by decide) (by decide)]; exact (rgA _ (inB_lt h)).1
theorem rgD {i : Int32} (h : inB i 30 = true) : isD (10 + 5 * ix i) := (rgA _ (inB_lt h)).2
theorem imA : ∀ k, k < 2 → sMr 160 k = some (161 + 6 * k) ∧ (161 + 6 * k = 161 ∨ 161 + 6 * k = 167) := by decide +kernel
theorem imM {w sp rw : Nat} {i : Int32} (h : inB i 2 = true) : mr0 w sp rw 160 (ix i) = some (161 + 6 * ix i) := by rw [mr0_s (by decide) (by decide)]; exact (imA _ (inB_lt h)).1
theorem imI {i : Int32} (h : inB i 2 = true) : isI (161 + 6 * ix i) := (imA _ (inB_lt h)).2
theorem kI {a : Nat} (h : isI a) : a < S0.1 ∧ S0.2.1 a = 2 := by rcases h with rfl | rfl <;> decide
theorem vI {a : Nat} (h : isI a) : a < S0.1 ∧ S0.2.1 a < 9 ∧ cN (S0.2.1 a) = RX2 := by rcases h with rfl | rfl <;> exact ⟨by decide, by decide, rfl⟩
theorem mI0 {w sp rw a : Nat} (h : isI a) : mr0 w sp rw a 0 = some (a + 1) := by rw [mr0_s (by rcases h with rfl | rfl <;> decide) (by rcases h with rfl | rfl <;> decide)]; rcases h with rfl | rfl <;> decide
theorem dI {a : Nat} (h : isI a) : isD (a + 1) := by rcases h with rfl | rfl <;> (unfold isD; decide)
theorem k_0 : 0 < S0.1 ∧ S0.2.1 0 = 7 := by decide +kernel
theorem v_0 : 0 < S0.1 ∧ S0.2.1 0 < 9 ∧ cN (S0.2.1 0) = RX7 := ⟨by decide +kernel, by decide +kernel, rfl⟩
theorem m_0_0 {w sp rw : Nat} : mr0 w sp rw 0 0 = some 1 := rfl
theorem m_0_1 {w sp rw : Nat} : mr0 w sp rw 0 1 = some 3 := rfl
theorem m_0_2 {w sp rw : Nat} : mr0 w sp rw 0 2 = some 8 := rfl
theorem m_0_3 {w sp rw : Nat} : mr0 w sp rw 0 3 = some 160 := rfl
theorem m_0_4 {w sp rw : Nat} : mr0 w sp rw 0 4 = some 201 := rfl
theorem m_0_5 {w sp rw : Nat} : mr0 w sp rw 0 5 = some 173 := rfl
theorem m_0_6 {w sp rw : Nat} : mr0 w sp rw 0 6 = some w := rfl
theorem m_0_7 {w sp rw : Nat} : mr0 w sp rw 0 7 = some sp := rfl
theorem k_1 : 1 < S0.1 ∧ S0.2.1 1 = 3 := by decide +kernel
theorem v_1 : 1 < S0.1 ∧ S0.2.1 1 < 9 ∧ cN (S0.2.1 1) = RX3 := ⟨by decide +kernel, by decide +kernel, rfl⟩
theorem m_1_0 {w sp rw : Nat} : mr0 w sp rw 1 0 = some 2 := rfl
theorem k_2 : 2 < S0.1 ∧ S0.2.1 2 = 10 := by decide +kernel
theorem l_2 : S0.2.2 2 = 240 := by decide +kernel
theorem k_3 : 3 < S0.1 ∧ S0.2.1 3 = 0 := by decide +kernel
theorem v_3 : 3 < S0.1 ∧ S0.2.1 3 < 9 ∧ cN (S0.2.1 3) = RX0 := ⟨by decide +kernel, by decide +kernel, rfl⟩
theorem m_3_0 {w sp rw : Nat} : mr0 w sp rw 3 0 = some 4 := rfl
theorem m_3_1 {w sp rw : Nat} : mr0 w sp rw 3 1 = some 5 := rfl
theorem m_3_2 {w sp rw : Nat} : mr0 w sp rw 3 2 = some 6 := rfl
theorem m_3_3 {w sp rw : Nat} : mr0 w sp rw 3 3 = some 7 := rfl
theorem k_4 : 4 < S0.1 ∧ S0.2.1 4 = 9 := by decide +kernel
theorem l_4 : S0.2.2 4 = 9 := by decide +kernel
theorem k_5 : 5 < S0.1 ∧ S0.2.1 5 = 9 := by decide +kernel
theorem l_5 : S0.2.2 5 = 9 := by decide +kernel
theorem k_6 : 6 < S0.1 ∧ S0.2.1 6 = 9 := by decide +kernel
theorem l_6 : S0.2.2 6 = 8 := by decide +kernel
theorem k_7 : 7 < S0.1 ∧ S0.2.1 7 = 9 := by decide +kernel
theorem l_7 : S0.2.2 7 = 8 := by decide +kernel
theorem k_8 : 8 < S0.1 ∧ S0.2.1 8 = 1 := by decide +kernel
theorem v_8 : 8 < S0.1 ∧ S0.2.1 8 < 9 ∧ cN (S0.2.1 8) = RX1 := ⟨by decide +kernel, by decide +kernel, rfl⟩
theorem m_8_0 {w sp rw : Nat} : mr0 w sp rw 8 0 = some 9 := rfl
theorem k_9 : 9 < S0.1 ∧ S0.2.1 9 = 12 := by decide +kernel
theorem l_9 : S0.2.2 9 = 30 := by decide +kernel
theorem k_160 : 160 < S0.1 ∧ S0.2.1 160 = 13 := by decide +kernel
theorem l_160 : S0.2.2 160 = 2 := by decide +kernel
theorem k_173 : 173 < S0.1 ∧ S0.2.1 173 = 5 := by decide +kernel
theorem v_173 : 173 < S0.1 ∧ S0.2.1 173 < 9 ∧ cN (S0.2.1 173) = RX5 := ⟨by decide +kernel, by decide +kernel, rfl⟩
theorem m_173_0 {w sp rw : Nat} : mr0 w sp rw 173 0 = some 174 := rfl
theorem m_173_1 {w sp rw : Nat} : mr0 w sp rw 173 1 = some 175 := rfl
theorem m_173_2 {w sp rw : Nat} : mr0 w sp rw 173 2 = some 176 := rfl
theorem m_173_3 {w sp rw : Nat} : mr0 w sp rw 173 3 = some 177 := rfl
theorem m_173_4 {w sp rw : Nat} : mr0 w sp rw 173 4 = some 178 := rfl
theorem k_174 : 174 < S0.1 ∧ S0.2.1 174 = 9 := by decide +kernel
theorem l_174 : S0.2.2 174 = 6 := by decide +kernel
theorem k_175 : 175 < S0.1 ∧ S0.2.1 175 = 9 := by decide +kernel
theorem l_175 : S0.2.2 175 = 6 := by decide +kernel
theorem k_176 : 176 < S0.1 ∧ S0.2.1 176 = 9 := by decide +kernel
theorem l_176 : S0.2.2 176 = 6 := by decide +kernel
theorem k_177 : 177 < S0.1 ∧ S0.2.1 177 = 9 := by decide +kernel
theorem l_177 : S0.2.2 177 = 20 := by decide +kernel
theorem k_178 : 178 < S0.1 ∧ S0.2.1 178 = 9 := by decide +kernel
theorem l_178 : S0.2.2 178 = 20 := by decide +kernel
theorem k_201 : 201 < S0.1 ∧ S0.2.1 201 = 4 := by decide +kernel
theorem v_201 : 201 < S0.1 ∧ S0.2.1 201 < 9 ∧ cN (S0.2.1 201) = RX4 := ⟨by decide +kernel, by decide +kernel, rfl⟩
theorem m_201_0 {w sp rw : Nat} : mr0 w sp rw 201 0 = some 202 := rfl
theorem m_201_1 {w sp rw : Nat} : mr0 w sp rw 201 1 = some 203 := rfl
theorem m_201_2 {w sp rw : Nat} : mr0 w sp rw 201 2 = some 204 := rfl
theorem m_201_3 {w sp rw : Nat} : mr0 w sp rw 201 3 = some 205 := rfl
theorem m_201_6 {w sp rw : Nat} : mr0 w sp rw 201 6 = some rw := rfl
theorem k_202 : 202 < S0.1 ∧ S0.2.1 202 = 9 := by decide +kernel
theorem l_202 : S0.2.2 202 = 9 := by decide +kernel
theorem k_203 : 203 < S0.1 ∧ S0.2.1 203 = 9 := by decide +kernel
theorem l_203 : S0.2.2 203 = 9 := by decide +kernel
theorem k_204 : 204 < S0.1 ∧ S0.2.1 204 = 9 := by decide +kernel
theorem l_204 : S0.2.2 204 = 1728 := by decide +kernel
theorem k_205 : 205 < S0.1 ∧ S0.2.1 205 = 9 := by decide +kernel
theorem l_205 : S0.2.2 205 = 1728 := by decide +kernel
theorem k_206 : 206 < S0.1 ∧ S0.2.1 206 = 8 := by decide +kernel
theorem v_206 : 206 < S0.1 ∧ S0.2.1 206 < 9 ∧ cN (S0.2.1 206) = RX8 := ⟨by decide +kernel, by decide +kernel, rfl⟩
theorem m_206_0 {w sp rw : Nat} : mr0 w sp rw 206 0 = some 207 := rfl
theorem m_206_1 {w sp rw : Nat} : mr0 w sp rw 206 1 = some 208 := rfl
theorem m_206_2 {w sp rw : Nat} : mr0 w sp rw 206 2 = some 209 := rfl
theorem m_206_3 {w sp rw : Nat} : mr0 w sp rw 206 3 = some 210 := rfl
theorem m_206_4 {w sp rw : Nat} : mr0 w sp rw 206 4 = some 211 := rfl
theorem m_206_7 {w sp rw : Nat} : mr0 w sp rw 206 7 = some 212 := rfl
theorem m_206_9 {w sp rw : Nat} : mr0 w sp rw 206 9 = some 213 := rfl
theorem m_206_11 {w sp rw : Nat} : mr0 w sp rw 206 11 = some 214 := rfl
theorem m_206_17 {w sp rw : Nat} : mr0 w sp rw 206 17 = some 215 := rfl
theorem m_206_18 {w sp rw : Nat} : mr0 w sp rw 206 18 = some 216 := rfl
theorem m_206_19 {w sp rw : Nat} : mr0 w sp rw 206 19 = some 217 := rfl
theorem m_206_20 {w sp rw : Nat} : mr0 w sp rw 206 20 = some 218 := rfl
theorem m_206_21 {w sp rw : Nat} : mr0 w sp rw 206 21 = some 219 := rfl
theorem m_206_24 {w sp rw : Nat} : mr0 w sp rw 206 24 = some 220 := rfl
theorem m_206_26 {w sp rw : Nat} : mr0 w sp rw 206 26 = some 221 := rfl
theorem m_206_32 {w sp rw : Nat} : mr0 w sp rw 206 32 = some 222 := rfl
theorem m_206_33 {w sp rw : Nat} : mr0 w sp rw 206 33 = some 223 := rfl
theorem m_206_35 {w sp rw : Nat} : mr0 w sp rw 206 35 = some 224 := rfl
theorem m_206_37 {w sp rw : Nat} : mr0 w sp rw 206 37 = some 225 := rfl
theorem m_206_38 {w sp rw : Nat} : mr0 w sp rw 206 38 = some 226 := rfl
theorem k_207 : 207 < S0.1 ∧ S0.2.1 207 = 9 := by decide +kernel
theorem l_207 : S0.2.2 207 = 8 := by decide +kernel
theorem k_208 : 208 < S0.1 ∧ S0.2.1 208 = 9 := by decide +kernel
theorem l_208 : S0.2.2 208 = 10 := by decide +kernel
theorem k_209 : 209 < S0.1 ∧ S0.2.1 209 = 9 := by decide +kernel
theorem l_209 : S0.2.2 209 = 10 := by decide +kernel
theorem k_210 : 210 < S0.1 ∧ S0.2.1 210 = 9 := by decide +kernel
theorem l_210 : S0.2.2 210 = 60 := by decide +kernel
theorem k_211 : 211 < S0.1 ∧ S0.2.1 211 = 9 := by decide +kernel
theorem l_211 : S0.2.2 211 = 80 := by decide +kernel
theorem k_212 : 212 < S0.1 ∧ S0.2.1 212 = 9 := by decide +kernel
theorem l_212 : S0.2.2 212 = 37 := by decide +kernel
theorem k_213 : 213 < S0.1 ∧ S0.2.1 213 = 9 := by decide +kernel
theorem l_213 : S0.2.2 213 = 1110 := by decide +kernel
theorem k_214 : 214 < S0.1 ∧ S0.2.1 214 = 9 := by decide +kernel
theorem l_214 : S0.2.2 214 = 240 := by decide +kernel
theorem k_215 : 215 < S0.1 ∧ S0.2.1 215 = 9 := by decide +kernel
theorem l_215 : S0.2.2 215 = 8 := by decide +kernel
theorem k_216 : 216 < S0.1 ∧ S0.2.1 216 = 9 := by decide +kernel
theorem l_216 : S0.2.2 216 = 9 := by decide +kernel
theorem k_217 : 217 < S0.1 ∧ S0.2.1 217 = 9 := by decide +kernel
theorem l_217 : S0.2.2 217 = 10 := by decide +kernel
theorem k_218 : 218 < S0.1 ∧ S0.2.1 218 = 9 := by decide +kernel
theorem l_218 : S0.2.2 218 = 10 := by decide +kernel
theorem k_219 : 219 < S0.1 ∧ S0.2.1 219 = 9 := by decide +kernel
theorem l_219 : S0.2.2 219 = 60 := by decide +kernel
theorem k_220 : 220 < S0.1 ∧ S0.2.1 220 = 9 := by decide +kernel
theorem l_220 : S0.2.2 220 = 13 := by decide +kernel
theorem k_221 : 221 < S0.1 ∧ S0.2.1 221 = 9 := by decide +kernel
theorem l_221 : S0.2.2 221 = 8 := by decide +kernel
theorem k_222 : 222 < S0.1 ∧ S0.2.1 222 = 9 := by decide +kernel
theorem l_222 : S0.2.2 222 = 13 := by decide +kernel
theorem k_223 : 223 < S0.1 ∧ S0.2.1 223 = 9 := by decide +kernel
theorem l_223 : S0.2.2 223 = 18 := by decide +kernel
theorem k_224 : 224 < S0.1 ∧ S0.2.1 224 = 9 := by decide +kernel
theorem l_224 : S0.2.2 224 = 40 := by decide +kernel
theorem k_225 : 225 < S0.1 ∧ S0.2.1 225 = 9 := by decide +kernel
theorem l_225 : S0.2.2 225 = 76 := by decide +kernel
theorem k_226 : 226 < S0.1 ∧ S0.2.1 226 = 11 := by decide +kernel
theorem l_226 : S0.2.2 226 = 2 := by decide +kernel
end
section
/-! ===== the words that fields, calls, constants take (printed by wip/whole/gen/facts.py) ===== -/
set_option maxRecDepth 100000 in
theorem in_LetterTray : Cond.initialized "LetterTray" ∈ tblG := tg1 (List.mem_of_getElem? (i := 1) (by decide +kernel)) rfl
set_option maxRecDepth 100000 in
theorem in_LetterTray_Desk : Cond.initialized "LetterTray$Desk" ∈ tblG := tg1 (List.mem_of_getElem? (i := 3) (by decide +kernel)) rfl
set_option maxRecDepth 100000 in
theorem in_LetterTray_History : Cond.initialized "LetterTray$History" ∈ tblG := tg1 (List.mem_of_getElem? (i := 4) (by decide +kernel)) rfl
set_option maxRecDepth 100000 in
theorem in_LetterTray_Image : Cond.initialized "LetterTray$Image" ∈ tblG := tg1 (List.mem_of_getElem? (i := 5) (by decide +kernel)) rfl
set_option maxRecDepth 100000 in
theorem in_LetterTray_Reader : Cond.initialized "LetterTray$Reader" ∈ tblG := tg1 (List.mem_of_getElem? (i := 2) (by decide +kernel)) rfl
set_option maxRecDepth 100000 in
theorem in_LetterTray_Rows : Cond.initialized "LetterTray$Rows" ∈ tblG := tg1 (List.mem_of_getElem? (i := 8) (by decide +kernel)) rfl
set_option maxRecDepth 100000 in
theorem in_LetterTray_Talk : Cond.initialized "LetterTray$Talk" ∈ tblG := tg1 (List.mem_of_getElem? (i := 6) (by decide +kernel)) rfl
set_option maxRecDepth 100000 in
theorem in_LetterTray_Words : Cond.initialized "LetterTray$Words" ∈ tblG := tg1 (List.mem_of_getElem? (i := 7) (by decide +kernel)) rfl
set_option maxRecDepth 100000 in
theorem in_LetterTrayModel : Cond.initialized "LetterTrayModel" ∈ tblG := tg1 (List.mem_of_getElem? (i := 9) (by decide +kernel)) rfl
set_option maxRecDepth 100000 in
theorem in_java_lang_Integer : Cond.initialized "java/lang/Integer" ∈ tblG := tg1 (List.mem_of_getElem? (i := 13) (by decide +kernel)) rfl
set_option maxRecDepth 100000 in
theorem in_java_lang_Math : Cond.initialized "java/lang/Math" ∈ tblG := tg1 (List.mem_of_getElem? (i := 11) (by decide +kernel)) rfl
set_option maxRecDepth 100000 in
theorem in_java_lang_System : Cond.initialized "java/lang/System" ∈ tblG := tg1 (List.mem_of_getElem? (i := 12) (by decide +kernel)) rfl
set_option maxRecDepth 100000 in
theorem in_java_util_Arrays : Cond.initialized "java/util/Arrays" ∈ tblG := tg1 (List.mem_of_getElem? (i := 10) (by decide +kernel)) rfl
set_option maxRecDepth 100000 in
theorem cd_X7_init : Cond.code yX7_init cX7_init 2 none ∈ tblG := tg1 (List.mem_of_getElem? (i := 18) (by decide +kernel)) rfl
set_option maxRecDepth 100000 in
theorem ds_X7_init : yX7_init.cls ≠ "java/lang/invoke/MethodHandle" ∧ yX7_init.cls ≠ "java/lang/invoke/VarHandle" ∧ (parseMethodDescriptor yX7_init.desc).map (fun d => d.parameters.length) = some 0 := by decide +kernel
set_option maxRecDepth 100000 in
theorem im_X7_init : Cond.instanceMethod yX7_init ∈ tblG := tg1 (List.mem_of_getElem? (i := 17) (by decide +kernel)) rfl
set_option maxRecDepth 100000 in
theorem cd_X7_ask : Cond.code yX7_ask cX7_ask 1 (some .int) ∈ tblG := tg1 (List.mem_of_getElem? (i := 777) (by decide +kernel)) rfl
set_option maxRecDepth 100000 in
theorem ds_X7_ask : yX7_ask.cls ≠ "java/lang/invoke/MethodHandle" ∧ yX7_ask.cls ≠ "java/lang/invoke/VarHandle" ∧ (parseMethodDescriptor yX7_ask.desc).map (fun d => d.parameters.length) = some 0 := by decide +kernel
set_option maxRecDepth 100000 in
theorem im_X7_ask : Cond.instanceMethod yX7_ask ∈ tblG := tg1 (List.mem_of_getElem? (i := 775) (by decide +kernel)) rfl
set_option maxRecDepth 100000 in
theorem se_X7_ask : Cond.selects yX7_ask.cls yX7_ask yX7_ask ∈ tblG := tg1 (List.mem_of_getElem? (i := 776) (by decide +kernel)) rfl
set_option maxRecDepth 100000 in
theorem cd_X7_begin : Cond.code yX7_begin cX7_begin 2 none ∈ tblG := tg1 (List.mem_of_getElem? (i := 417) (by decide +kernel)) rfl
set_option maxRecDepth 100000 in
theorem ds_X7_begin : yX7_begin.cls ≠ "java/lang/invoke/MethodHandle" ∧ yX7_begin.cls ≠ "java/lang/invoke/VarHandle" ∧ (parseMethodDescriptor yX7_begin.desc).map (fun d => d.parameters.length) = some 0 := by decide +kernel
set_option maxRecDepth 100000 in
theorem im_X7_begin : Cond.instanceMethod yX7_begin ∈ tblG := tg1 (List.mem_of_getElem? (i := 416) (by decide +kernel)) rfl
set_option maxRecDepth 100000 in
theorem se_X7_begin : Cond.selects yX7_begin.cls yX7_begin yX7_begin ∈ tblG := tg (List.mem_append_left _ (List.mem_of_getElem? (i := 30) (by decide +kernel))) rfl
set_option maxRecDepth 100000 in
theorem cd_X7_bestWord : Cond.code yX7_bestWord cX7_bestWord 4 (some .int) ∈ tblG := tg1 (List.mem_of_getElem? (i := 468) (by decide +kernel)) rfl
set_option maxRecDepth 100000 in
theorem ds_X7_bestWord : yX7_bestWord.cls ≠ "java/lang/invoke/MethodHandle" ∧ yX7_bestWord.cls ≠ "java/lang/invoke/VarHandle" ∧ (parseMethodDescriptor yX7_bestWord.desc).map (fun d => d.parameters.length) = some 0 := by decide +kernel
set_option maxRecDepth 100000 in
theorem im_X7_bestWord : Cond.instanceMethod yX7_bestWord ∈ tblG := tg1 (List.mem_of_getElem? (i := 467) (by decide +kernel)) rfl
set_option maxRecDepth 100000 in
theorem se_X7_bestWord : Cond.selects yX7_bestWord.cls yX7_bestWord yX7_bestWord ∈ tblG := tg (List.mem_append_left _ (List.mem_of_getElem? (i := 38) (by decide +kernel))) rfl
set_option maxRecDepth 100000 in
theorem cd_X7_can : Cond.code yX7_can cX7_can 2 (some .boolean) ∈ tblG := tg1 (List.mem_of_getElem? (i := 456) (by decide +kernel)) rfl
set_option maxRecDepth 100000 in
theorem ds_X7_can : yX7_can.cls ≠ "java/lang/invoke/MethodHandle" ∧ yX7_can.cls ≠ "java/lang/invoke/VarHandle" ∧ (parseMethodDescriptor yX7_can.desc).map (fun d => d.parameters.length) = some 1 := by decide +kernel
set_option maxRecDepth 100000 in
theorem im_X7_can : Cond.instanceMethod yX7_can ∈ tblG := tg1 (List.mem_of_getElem? (i := 455) (by decide +kernel)) rfl
set_option maxRecDepth 100000 in
theorem se_X7_can : Cond.selects yX7_can.cls yX7_can yX7_can ∈ tblG := tg (List.mem_append_left _ (List.mem_of_getElem? (i := 36) (by decide +kernel))) rfl
set_option maxRecDepth 100000 in
theorem cd_X7_canSet : Cond.code yX7_canSet cX7_canSet 3 (some .int) ∈ tblG := tg1 (List.mem_of_getElem? (i := 452) (by decide +kernel)) rfl
set_option maxRecDepth 100000 in
theorem ds_X7_canSet : yX7_canSet.cls ≠ "java/lang/invoke/MethodHandle" ∧ yX7_canSet.cls ≠ "java/lang/invoke/VarHandle" ∧ (parseMethodDescriptor yX7_canSet.desc).map (fun d => d.parameters.length) = some 0 := by decide +kernel
set_option maxRecDepth 100000 in
theorem im_X7_canSet : Cond.instanceMethod yX7_canSet ∈ tblG := tg1 (List.mem_of_getElem? (i := 451) (by decide +kernel)) rfl
set_option maxRecDepth 100000 in
theorem se_X7_canSet : Cond.selects yX7_canSet.cls yX7_canSet yX7_canSet ∈ tblG := tg (List.mem_append_left _ (List.mem_of_getElem? (i := 35) (by decide +kernel))) rfl
set_option maxRecDepth 100000 in
theorem cd_X7_change : Cond.code yX7_change cX7_change 3 (some .int) ∈ tblG := tg1 (List.mem_of_getElem? (i := 632) (by decide +kernel)) rfl
set_option maxRecDepth 100000 in
theorem ds_X7_change : yX7_change.cls ≠ "java/lang/invoke/MethodHandle" ∧ yX7_change.cls ≠ "java/lang/invoke/VarHandle" ∧ (parseMethodDescriptor yX7_change.desc).map (fun d => d.parameters.length) = some 1 := by decide +kernel
set_option maxRecDepth 100000 in
theorem im_X7_change : Cond.instanceMethod yX7_change ∈ tblG := tg1 (List.mem_of_getElem? (i := 630) (by decide +kernel)) rfl
set_option maxRecDepth 100000 in
theorem se_X7_change : Cond.selects yX7_change.cls yX7_change yX7_change ∈ tblG := tg1 (List.mem_of_getElem? (i := 631) (by decide +kernel)) rfl
set_option maxRecDepth 100000 in
theorem cd_X7_couldBe : Cond.code yX7_couldBe cX7_couldBe 1 (some .int) ∈ tblG := tg1 (List.mem_of_getElem? (i := 763) (by decide +kernel)) rfl
set_option maxRecDepth 100000 in
theorem ds_X7_couldBe : yX7_couldBe.cls ≠ "java/lang/invoke/MethodHandle" ∧ yX7_couldBe.cls ≠ "java/lang/invoke/VarHandle" ∧ (parseMethodDescriptor yX7_couldBe.desc).map (fun d => d.parameters.length) = some 0 := by decide +kernel
set_option maxRecDepth 100000 in
theorem im_X7_couldBe : Cond.instanceMethod yX7_couldBe ∈ tblG := tg1 (List.mem_of_getElem? (i := 761) (by decide +kernel)) rfl
set_option maxRecDepth 100000 in
theorem se_X7_couldBe : Cond.selects yX7_couldBe.cls yX7_couldBe yX7_couldBe ∈ tblG := tg1 (List.mem_of_getElem? (i := 762) (by decide +kernel)) rfl
set_option maxRecDepth 100000 in
theorem cd_X7_draw : Cond.code yX7_draw cX7_draw 2 (some .int) ∈ tblG := tg1 (List.mem_of_getElem? (i := 578) (by decide +kernel)) rfl
set_option maxRecDepth 100000 in
theorem ds_X7_draw : yX7_draw.cls ≠ "java/lang/invoke/MethodHandle" ∧ yX7_draw.cls ≠ "java/lang/invoke/VarHandle" ∧ (parseMethodDescriptor yX7_draw.desc).map (fun d => d.parameters.length) = some 0 := by decide +kernel
set_option maxRecDepth 100000 in
theorem im_X7_draw : Cond.instanceMethod yX7_draw ∈ tblG := tg1 (List.mem_of_getElem? (i := 576) (by decide +kernel)) rfl
set_option maxRecDepth 100000 in
theorem se_X7_draw : Cond.selects yX7_draw.cls yX7_draw yX7_draw ∈ tblG := tg1 (List.mem_of_getElem? (i := 577) (by decide +kernel)) rfl
set_option maxRecDepth 100000 in
theorem cd_X7_drawOf : Cond.code yX7_drawOf cX7_drawOf 4 (some .int) ∈ tblG := tg1 (List.mem_of_getElem? (i := 601) (by decide +kernel)) rfl
set_option maxRecDepth 100000 in
theorem ds_X7_drawOf : yX7_drawOf.cls ≠ "java/lang/invoke/MethodHandle" ∧ yX7_drawOf.cls ≠ "java/lang/invoke/VarHandle" ∧ (parseMethodDescriptor yX7_drawOf.desc).map (fun d => d.parameters.length) = some 1 := by decide +kernel
set_option maxRecDepth 100000 in
theorem im_X7_drawOf : Cond.instanceMethod yX7_drawOf ∈ tblG := tg1 (List.mem_of_getElem? (i := 600) (by decide +kernel)) rfl
set_option maxRecDepth 100000 in
theorem se_X7_drawOf : Cond.selects yX7_drawOf.cls yX7_drawOf yX7_drawOf ∈ tblG := tg (List.mem_append_left _ (List.mem_of_getElem? (i := 63) (by decide +kernel))) rfl
set_option maxRecDepth 100000 in
theorem cd_X7_drawOne : Cond.code yX7_drawOne cX7_drawOne 2 (some .int) ∈ tblG := tg1 (List.mem_of_getElem? (i := 597) (by decide +kernel)) rfl
set_option maxRecDepth 100000 in
theorem ds_X7_drawOne : yX7_drawOne.cls ≠ "java/lang/invoke/MethodHandle" ∧ yX7_drawOne.cls ≠ "java/lang/invoke/VarHandle" ∧ (parseMethodDescriptor yX7_drawOne.desc).map (fun d => d.parameters.length) = some 0 := by decide +kernel
set_option maxRecDepth 100000 in
theorem im_X7_drawOne : Cond.instanceMethod yX7_drawOne ∈ tblG := tg1 (List.mem_of_getElem? (i := 596) (by decide +kernel)) rfl
set_option maxRecDepth 100000 in
theorem se_X7_drawOne : Cond.selects yX7_drawOne.cls yX7_drawOne yX7_drawOne ∈ tblG := tg (List.mem_append_left _ (List.mem_of_getElem? (i := 62) (by decide +kernel))) rfl
set_option maxRecDepth 100000 in
theorem cd_X7_drawRefusal : Cond.code yX7_drawRefusal cX7_drawRefusal 1 (some .int) ∈ tblG := tg1 (List.mem_of_getElem? (i := 582) (by decide +kernel)) rfl
set_option maxRecDepth 100000 in
theorem ds_X7_drawRefusal : yX7_drawRefusal.cls ≠ "java/lang/invoke/MethodHandle" ∧ yX7_drawRefusal.cls ≠ "java/lang/invoke/VarHandle" ∧ (parseMethodDescriptor yX7_drawRefusal.desc).map (fun d => d.parameters.length) = some 0 := by decide +kernel
set_option maxRecDepth 100000 in
theorem im_X7_drawRefusal : Cond.instanceMethod yX7_drawRefusal ∈ tblG := tg1 (List.mem_of_getElem? (i := 581) (by decide +kernel)) rfl
set_option maxRecDepth 100000 in
theorem se_X7_drawRefusal : Cond.selects yX7_drawRefusal.cls yX7_drawRefusal yX7_drawRefusal ∈ tblG := tg (List.mem_append_left _ (List.mem_of_getElem? (i := 59) (by decide +kernel))) rfl
set_option maxRecDepth 100000 in
theorem cd_X7_drift : Cond.code yX7_drift cX7_drift 3 (some .int) ∈ tblG := tg1 (List.mem_of_getElem? (i := 676) (by decide +kernel)) rfl
set_option maxRecDepth 100000 in
theorem ds_X7_drift : yX7_drift.cls ≠ "java/lang/invoke/MethodHandle" ∧ yX7_drift.cls ≠ "java/lang/invoke/VarHandle" ∧ (parseMethodDescriptor yX7_drift.desc).map (fun d => d.parameters.length) = some 1 := by decide +kernel
set_option maxRecDepth 100000 in
theorem im_X7_drift : Cond.instanceMethod yX7_drift ∈ tblG := tg1 (List.mem_of_getElem? (i := 674) (by decide +kernel)) rfl
set_option maxRecDepth 100000 in
theorem se_X7_drift : Cond.selects yX7_drift.cls yX7_drift yX7_drift ∈ tblG := tg1 (List.mem_of_getElem? (i := 675) (by decide +kernel)) rfl
set_option maxRecDepth 100000 in
theorem cd_X7_driftGive : Cond.code yX7_driftGive cX7_driftGive 3 none ∈ tblG := tg1 (List.mem_of_getElem? (i := 684) (by decide +kernel)) rfl
set_option maxRecDepth 100000 in
theorem ds_X7_driftGive : yX7_driftGive.cls ≠ "java/lang/invoke/MethodHandle" ∧ yX7_driftGive.cls ≠ "java/lang/invoke/VarHandle" ∧ (parseMethodDescriptor yX7_driftGive.desc).map (fun d => d.parameters.length) = some 0 := by decide +kernel
set_option maxRecDepth 100000 in
theorem im_X7_driftGive : Cond.instanceMethod yX7_driftGive ∈ tblG := tg1 (List.mem_of_getElem? (i := 683) (by decide +kernel)) rfl
set_option maxRecDepth 100000 in
theorem se_X7_driftGive : Cond.selects yX7_driftGive.cls yX7_driftGive yX7_driftGive ∈ tblG := tg (List.mem_append_left _ (List.mem_of_getElem? (i := 76) (by decide +kernel))) rfl
set_option maxRecDepth 100000 in
theorem cd_X7_driftLay : Cond.code yX7_driftLay cX7_driftLay 2 none ∈ tblG := tg1 (List.mem_of_getElem? (i := 688) (by decide +kernel)) rfl
set_option maxRecDepth 100000 in
theorem ds_X7_driftLay : yX7_driftLay.cls ≠ "java/lang/invoke/MethodHandle" ∧ yX7_driftLay.cls ≠ "java/lang/invoke/VarHandle" ∧ (parseMethodDescriptor yX7_driftLay.desc).map (fun d => d.parameters.length) = some 0 := by decide +kernel
set_option maxRecDepth 100000 in
theorem im_X7_driftLay : Cond.instanceMethod yX7_driftLay ∈ tblG := tg1 (List.mem_of_getElem? (i := 687) (by decide +kernel)) rfl
set_option maxRecDepth 100000 in
theorem se_X7_driftLay : Cond.selects yX7_driftLay.cls yX7_driftLay yX7_driftLay ∈ tblG := tg (List.mem_append_left _ (List.mem_of_getElem? (i := 77) (by decide +kernel))) rfl
set_option maxRecDepth 100000 in
theorem cd_X7_driftOnce : Cond.code yX7_driftOnce cX7_driftOnce 2 none ∈ tblG := tg1 (List.mem_of_getElem? (i := 680) (by decide +kernel)) rfl
set_option maxRecDepth 100000 in
theorem ds_X7_driftOnce : yX7_driftOnce.cls ≠ "java/lang/invoke/MethodHandle" ∧ yX7_driftOnce.cls ≠ "java/lang/invoke/VarHandle" ∧ (parseMethodDescriptor yX7_driftOnce.desc).map (fun d => d.parameters.length) = some 1 := by decide +kernel
set_option maxRecDepth 100000 in
theorem im_X7_driftOnce : Cond.instanceMethod yX7_driftOnce ∈ tblG := tg1 (List.mem_of_getElem? (i := 679) (by decide +kernel)) rfl
set_option maxRecDepth 100000 in
theorem se_X7_driftOnce : Cond.selects yX7_driftOnce.cls yX7_driftOnce yX7_driftOnce ∈ tblG := tg (List.mem_append_left _ (List.mem_of_getElem? (i := 75) (by decide +kernel))) rfl
set_option maxRecDepth 100000 in
theorem cd_X7_driftTake : Cond.code yX7_driftTake cX7_driftTake 2 none ∈ tblG := tg1 (List.mem_of_getElem? (i := 692) (by decide +kernel)) rfl
set_option maxRecDepth 100000 in
theorem ds_X7_driftTake : yX7_driftTake.cls ≠ "java/lang/invoke/MethodHandle" ∧ yX7_driftTake.cls ≠ "java/lang/invoke/VarHandle" ∧ (parseMethodDescriptor yX7_driftTake.desc).map (fun d => d.parameters.length) = some 0 := by decide +kernel
set_option maxRecDepth 100000 in
theorem im_X7_driftTake : Cond.instanceMethod yX7_driftTake ∈ tblG := tg1 (List.mem_of_getElem? (i := 691) (by decide +kernel)) rfl
set_option maxRecDepth 100000 in
theorem se_X7_driftTake : Cond.selects yX7_driftTake.cls yX7_driftTake yX7_driftTake ∈ tblG := tg (List.mem_append_left _ (List.mem_of_getElem? (i := 78) (by decide +kernel))) rfl
set_option maxRecDepth 100000 in
theorem cd_X7_far : Cond.code yX7_far cX7_far 3 (some .int) ∈ tblG := tg1 (List.mem_of_getElem? (i := 729) (by decide +kernel)) rfl
set_option maxRecDepth 100000 in
theorem ds_X7_far : yX7_far.cls ≠ "java/lang/invoke/MethodHandle" ∧ yX7_far.cls ≠ "java/lang/invoke/VarHandle" ∧ (parseMethodDescriptor yX7_far.desc).map (fun d => d.parameters.length) = some 2 := by decide +kernel
set_option maxRecDepth 100000 in
theorem im_X7_far : Cond.instanceMethod yX7_far ∈ tblG := tg1 (List.mem_of_getElem? (i := 727) (by decide +kernel)) rfl
set_option maxRecDepth 100000 in
theorem se_X7_far : Cond.selects yX7_far.cls yX7_far yX7_far ∈ tblG := tg1 (List.mem_of_getElem? (i := 728) (by decide +kernel)) rfl
set_option maxRecDepth 100000 in
theorem cd_X7_fault : Cond.code yX7_fault cX7_fault 1 (some .int) ∈ tblG := tg1 (List.mem_of_getElem? (i := 441) (by decide +kernel)) rfl
set_option maxRecDepth 100000 in
theorem ds_X7_fault : yX7_fault.cls ≠ "java/lang/invoke/MethodHandle" ∧ yX7_fault.cls ≠ "java/lang/invoke/VarHandle" ∧ (parseMethodDescriptor yX7_fault.desc).map (fun d => d.parameters.length) = some 0 := by decide +kernel
set_option maxRecDepth 100000 in
theorem im_X7_fault : Cond.instanceMethod yX7_fault ∈ tblG := tg1 (List.mem_of_getElem? (i := 439) (by decide +kernel)) rfl
set_option maxRecDepth 100000 in
theorem se_X7_fault : Cond.selects yX7_fault.cls yX7_fault yX7_fault ∈ tblG := tg1 (List.mem_of_getElem? (i := 440) (by decide +kernel)) rfl
set_option maxRecDepth 100000 in
theorem cd_X7_feed : Cond.code yX7_feed cX7_feed 2 (some .int) ∈ tblG := tg1 (List.mem_of_getElem? (i := 280) (by decide +kernel)) rfl
set_option maxRecDepth 100000 in
theorem ds_X7_feed : yX7_feed.cls ≠ "java/lang/invoke/MethodHandle" ∧ yX7_feed.cls ≠ "java/lang/invoke/VarHandle" ∧ (parseMethodDescriptor yX7_feed.desc).map (fun d => d.parameters.length) = some 1 := by decide +kernel
set_option maxRecDepth 100000 in
theorem im_X7_feed : Cond.instanceMethod yX7_feed ∈ tblG := tg1 (List.mem_of_getElem? (i := 278) (by decide +kernel)) rfl
set_option maxRecDepth 100000 in
theorem se_X7_feed : Cond.selects yX7_feed.cls yX7_feed yX7_feed ∈ tblG := tg1 (List.mem_of_getElem? (i := 279) (by decide +kernel)) rfl
set_option maxRecDepth 100000 in
theorem cd_X7_first : Cond.code yX7_first cX7_first 2 (some .int) ∈ tblG := tg1 (List.mem_of_getElem? (i := 708) (by decide +kernel)) rfl
set_option maxRecDepth 100000 in
theorem ds_X7_first : yX7_first.cls ≠ "java/lang/invoke/MethodHandle" ∧ yX7_first.cls ≠ "java/lang/invoke/VarHandle" ∧ (parseMethodDescriptor yX7_first.desc).map (fun d => d.parameters.length) = some 1 := by decide +kernel
set_option maxRecDepth 100000 in
theorem im_X7_first : Cond.instanceMethod yX7_first ∈ tblG := tg1 (List.mem_of_getElem? (i := 706) (by decide +kernel)) rfl
set_option maxRecDepth 100000 in
theorem se_X7_first : Cond.selects yX7_first.cls yX7_first yX7_first ∈ tblG := tg1 (List.mem_of_getElem? (i := 707) (by decide +kernel)) rfl
set_option maxRecDepth 100000 in
theorem cd_X7_game : Cond.code yX7_game cX7_game 3 (some .int) ∈ tblG := tg1 (List.mem_of_getElem? (i := 290) (by decide +kernel)) rfl
set_option maxRecDepth 100000 in
theorem ds_X7_game : yX7_game.cls ≠ "java/lang/invoke/MethodHandle" ∧ yX7_game.cls ≠ "java/lang/invoke/VarHandle" ∧ (parseMethodDescriptor yX7_game.desc).map (fun d => d.parameters.length) = some 0 := by decide +kernel
set_option maxRecDepth 100000 in
theorem im_X7_game : Cond.instanceMethod yX7_game ∈ tblG := tg1 (List.mem_of_getElem? (i := 288) (by decide +kernel)) rfl
set_option maxRecDepth 100000 in
theorem se_X7_game : Cond.selects yX7_game.cls yX7_game yX7_game ∈ tblG := tg1 (List.mem_of_getElem? (i := 289) (by decide +kernel)) rfl
set_option maxRecDepth 100000 in
theorem cd_X7_give : Cond.code yX7_give cX7_give 3 (some .int) ∈ tblG := tg1 (List.mem_of_getElem? (i := 616) (by decide +kernel)) rfl
set_option maxRecDepth 100000 in
theorem ds_X7_give : yX7_give.cls ≠ "java/lang/invoke/MethodHandle" ∧ yX7_give.cls ≠ "java/lang/invoke/VarHandle" ∧ (parseMethodDescriptor yX7_give.desc).map (fun d => d.parameters.length) = some 1 := by decide +kernel
set_option maxRecDepth 100000 in
theorem im_X7_give : Cond.instanceMethod yX7_give ∈ tblG := tg1 (List.mem_of_getElem? (i := 614) (by decide +kernel)) rfl
set_option maxRecDepth 100000 in
theorem se_X7_give : Cond.selects yX7_give.cls yX7_give yX7_give ∈ tblG := tg1 (List.mem_of_getElem? (i := 615) (by decide +kernel)) rfl
set_option maxRecDepth 100000 in
theorem cd_X7_giveOne : Cond.code yX7_giveOne cX7_giveOne 2 none ∈ tblG := tg1 (List.mem_of_getElem? (i := 624) (by decide +kernel)) rfl
set_option maxRecDepth 100000 in
theorem ds_X7_giveOne : yX7_giveOne.cls ≠ "java/lang/invoke/MethodHandle" ∧ yX7_giveOne.cls ≠ "java/lang/invoke/VarHandle" ∧ (parseMethodDescriptor yX7_giveOne.desc).map (fun d => d.parameters.length) = some 1 := by decide +kernel
set_option maxRecDepth 100000 in
theorem im_X7_giveOne : Cond.instanceMethod yX7_giveOne ∈ tblG := tg1 (List.mem_of_getElem? (i := 623) (by decide +kernel)) rfl
set_option maxRecDepth 100000 in
theorem se_X7_giveOne : Cond.selects yX7_giveOne.cls yX7_giveOne yX7_giveOne ∈ tblG := tg (List.mem_append_left _ (List.mem_of_getElem? (i := 66) (by decide +kernel))) rfl
set_option maxRecDepth 100000 in
theorem cd_X7_giveRefusal : Cond.code yX7_giveRefusal cX7_giveRefusal 2 (some .int) ∈ tblG := tg1 (List.mem_of_getElem? (i := 620) (by decide +kernel)) rfl
set_option maxRecDepth 100000 in
theorem ds_X7_giveRefusal : yX7_giveRefusal.cls ≠ "java/lang/invoke/MethodHandle" ∧ yX7_giveRefusal.cls ≠ "java/lang/invoke/VarHandle" ∧ (parseMethodDescriptor yX7_giveRefusal.desc).map (fun d => d.parameters.length) = some 1 := by decide +kernel
set_option maxRecDepth 100000 in
theorem im_X7_giveRefusal : Cond.instanceMethod yX7_giveRefusal ∈ tblG := tg1 (List.mem_of_getElem? (i := 619) (by decide +kernel)) rfl
set_option maxRecDepth 100000 in
theorem se_X7_giveRefusal : Cond.selects yX7_giveRefusal.cls yX7_giveRefusal yX7_giveRefusal ∈ tblG := tg (List.mem_append_left _ (List.mem_of_getElem? (i := 65) (by decide +kernel))) rfl
set_option maxRecDepth 100000 in
theorem cd_X7_goBack : Cond.code yX7_goBack cX7_goBack 3 (some .int) ∈ tblG := tg1 (List.mem_of_getElem? (i := 831) (by decide +kernel)) rfl
set_option maxRecDepth 100000 in
theorem ds_X7_goBack : yX7_goBack.cls ≠ "java/lang/invoke/MethodHandle" ∧ yX7_goBack.cls ≠ "java/lang/invoke/VarHandle" ∧ (parseMethodDescriptor yX7_goBack.desc).map (fun d => d.parameters.length) = some 1 := by decide +kernel
set_option maxRecDepth 100000 in
theorem im_X7_goBack : Cond.instanceMethod yX7_goBack ∈ tblG := tg1 (List.mem_of_getElem? (i := 829) (by decide +kernel)) rfl
set_option maxRecDepth 100000 in
theorem se_X7_goBack : Cond.selects yX7_goBack.cls yX7_goBack yX7_goBack ∈ tblG := tg1 (List.mem_of_getElem? (i := 830) (by decide +kernel)) rfl
set_option maxRecDepth 100000 in
theorem cd_X7_judge : Cond.code yX7_judge cX7_judge 1 (some .int) ∈ tblG := tg1 (List.mem_of_getElem? (i := 809) (by decide +kernel)) rfl
set_option maxRecDepth 100000 in
theorem ds_X7_judge : yX7_judge.cls ≠ "java/lang/invoke/MethodHandle" ∧ yX7_judge.cls ≠ "java/lang/invoke/VarHandle" ∧ (parseMethodDescriptor yX7_judge.desc).map (fun d => d.parameters.length) = some 0 := by decide +kernel
set_option maxRecDepth 100000 in
theorem im_X7_judge : Cond.instanceMethod yX7_judge ∈ tblG := tg1 (List.mem_of_getElem? (i := 807) (by decide +kernel)) rfl
set_option maxRecDepth 100000 in
theorem se_X7_judge : Cond.selects yX7_judge.cls yX7_judge yX7_judge ∈ tblG := tg1 (List.mem_of_getElem? (i := 808) (by decide +kernel)) rfl
set_option maxRecDepth 100000 in
theorem cd_X7_keep : Cond.code yX7_keep cX7_keep 3 (some .int) ∈ tblG := tg1 (List.mem_of_getElem? (i := 826) (by decide +kernel)) rfl
set_option maxRecDepth 100000 in
theorem ds_X7_keep : yX7_keep.cls ≠ "java/lang/invoke/MethodHandle" ∧ yX7_keep.cls ≠ "java/lang/invoke/VarHandle" ∧ (parseMethodDescriptor yX7_keep.desc).map (fun d => d.parameters.length) = some 1 := by decide +kernel
set_option maxRecDepth 100000 in
theorem im_X7_keep : Cond.instanceMethod yX7_keep ∈ tblG := tg1 (List.mem_of_getElem? (i := 824) (by decide +kernel)) rfl
set_option maxRecDepth 100000 in
theorem se_X7_keep : Cond.selects yX7_keep.cls yX7_keep yX7_keep ∈ tblG := tg1 (List.mem_of_getElem? (i := 825) (by decide +kernel)) rfl
set_option maxRecDepth 100000 in
theorem cd_X7_ladder : Cond.code yX7_ladder cX7_ladder 4 (some .int) ∈ tblG := tg1 (List.mem_of_getElem? (i := 720) (by decide +kernel)) rfl
set_option maxRecDepth 100000 in
theorem ds_X7_ladder : yX7_ladder.cls ≠ "java/lang/invoke/MethodHandle" ∧ yX7_ladder.cls ≠ "java/lang/invoke/VarHandle" ∧ (parseMethodDescriptor yX7_ladder.desc).map (fun d => d.parameters.length) = some 3 := by decide +kernel
set_option maxRecDepth 100000 in
theorem im_X7_ladder : Cond.instanceMethod yX7_ladder ∈ tblG := tg1 (List.mem_of_getElem? (i := 718) (by decide +kernel)) rfl
set_option maxRecDepth 100000 in
theorem se_X7_ladder : Cond.selects yX7_ladder.cls yX7_ladder yX7_ladder ∈ tblG := tg1 (List.mem_of_getElem? (i := 719) (by decide +kernel)) rfl
set_option maxRecDepth 100000 in
theorem cd_X7_laid : Cond.code yX7_laid cX7_laid 3 (some .int) ∈ tblG := tg1 (List.mem_of_getElem? (i := 570) (by decide +kernel)) rfl
set_option maxRecDepth 100000 in
theorem ds_X7_laid : yX7_laid.cls ≠ "java/lang/invoke/MethodHandle" ∧ yX7_laid.cls ≠ "java/lang/invoke/VarHandle" ∧ (parseMethodDescriptor yX7_laid.desc).map (fun d => d.parameters.length) = some 2 := by decide +kernel
set_option maxRecDepth 100000 in
theorem im_X7_laid : Cond.instanceMethod yX7_laid ∈ tblG := tg1 (List.mem_of_getElem? (i := 568) (by decide +kernel)) rfl
set_option maxRecDepth 100000 in
theorem se_X7_laid : Cond.selects yX7_laid.cls yX7_laid yX7_laid ∈ tblG := tg1 (List.mem_of_getElem? (i := 569) (by decide +kernel)) rfl
set_option maxRecDepth 100000 in
theorem cd_X7_lay : Cond.code yX7_lay cX7_lay 3 (some .int) ∈ tblG := tg1 (List.mem_of_getElem? (i := 636) (by decide +kernel)) rfl
set_option maxRecDepth 100000 in
theorem ds_X7_lay : yX7_lay.cls ≠ "java/lang/invoke/MethodHandle" ∧ yX7_lay.cls ≠ "java/lang/invoke/VarHandle" ∧ (parseMethodDescriptor yX7_lay.desc).map (fun d => d.parameters.length) = some 1 := by decide +kernel
set_option maxRecDepth 100000 in
theorem im_X7_lay : Cond.instanceMethod yX7_lay ∈ tblG := tg1 (List.mem_of_getElem? (i := 634) (by decide +kernel)) rfl
set_option maxRecDepth 100000 in
theorem se_X7_lay : Cond.selects yX7_lay.cls yX7_lay yX7_lay ∈ tblG := tg1 (List.mem_of_getElem? (i := 635) (by decide +kernel)) rfl
set_option maxRecDepth 100000 in
theorem cd_X7_layOne : Cond.code yX7_layOne cX7_layOne 2 none ∈ tblG := tg1 (List.mem_of_getElem? (i := 644) (by decide +kernel)) rfl
set_option maxRecDepth 100000 in
theorem ds_X7_layOne : yX7_layOne.cls ≠ "java/lang/invoke/MethodHandle" ∧ yX7_layOne.cls ≠ "java/lang/invoke/VarHandle" ∧ (parseMethodDescriptor yX7_layOne.desc).map (fun d => d.parameters.length) = some 1 := by decide +kernel
set_option maxRecDepth 100000 in
theorem im_X7_layOne : Cond.instanceMethod yX7_layOne ∈ tblG := tg1 (List.mem_of_getElem? (i := 643) (by decide +kernel)) rfl
set_option maxRecDepth 100000 in
theorem se_X7_layOne : Cond.selects yX7_layOne.cls yX7_layOne yX7_layOne ∈ tblG := tg (List.mem_append_left _ (List.mem_of_getElem? (i := 69) (by decide +kernel))) rfl
set_option maxRecDepth 100000 in
theorem cd_X7_layRefusal : Cond.code yX7_layRefusal cX7_layRefusal 2 (some .int) ∈ tblG := tg1 (List.mem_of_getElem? (i := 640) (by decide +kernel)) rfl
set_option maxRecDepth 100000 in
theorem ds_X7_layRefusal : yX7_layRefusal.cls ≠ "java/lang/invoke/MethodHandle" ∧ yX7_layRefusal.cls ≠ "java/lang/invoke/VarHandle" ∧ (parseMethodDescriptor yX7_layRefusal.desc).map (fun d => d.parameters.length) = some 1 := by decide +kernel
set_option maxRecDepth 100000 in
theorem im_X7_layRefusal : Cond.instanceMethod yX7_layRefusal ∈ tblG := tg1 (List.mem_of_getElem? (i := 639) (by decide +kernel)) rfl
set_option maxRecDepth 100000 in
theorem se_X7_layRefusal : Cond.selects yX7_layRefusal.cls yX7_layRefusal yX7_layRefusal ∈ tblG := tg (List.mem_append_left _ (List.mem_of_getElem? (i := 68) (by decide +kernel))) rfl
set_option maxRecDepth 100000 in
theorem cd_X7_letters : Cond.code yX7_letters cX7_letters 3 (some .int) ∈ tblG := tg1 (List.mem_of_getElem? (i := 543) (by decide +kernel)) rfl
set_option maxRecDepth 100000 in
theorem ds_X7_letters : yX7_letters.cls ≠ "java/lang/invoke/MethodHandle" ∧ yX7_letters.cls ≠ "java/lang/invoke/VarHandle" ∧ (parseMethodDescriptor yX7_letters.desc).map (fun d => d.parameters.length) = some 2 := by decide +kernel
set_option maxRecDepth 100000 in
theorem im_X7_letters : Cond.instanceMethod yX7_letters ∈ tblG := tg1 (List.mem_of_getElem? (i := 541) (by decide +kernel)) rfl
set_option maxRecDepth 100000 in
theorem se_X7_letters : Cond.selects yX7_letters.cls yX7_letters yX7_letters ∈ tblG := tg1 (List.mem_of_getElem? (i := 542) (by decide +kernel)) rfl
set_option maxRecDepth 100000 in
theorem cd_X7_luck : Cond.code yX7_luck cX7_luck 6 (some .int) ∈ tblG := tg1 (List.mem_of_getElem? (i := 749) (by decide +kernel)) rfl
set_option maxRecDepth 100000 in
theorem ds_X7_luck : yX7_luck.cls ≠ "java/lang/invoke/MethodHandle" ∧ yX7_luck.cls ≠ "java/lang/invoke/VarHandle" ∧ (parseMethodDescriptor yX7_luck.desc).map (fun d => d.parameters.length) = some 2 := by decide +kernel
set_option maxRecDepth 100000 in
theorem im_X7_luck : Cond.instanceMethod yX7_luck ∈ tblG := tg1 (List.mem_of_getElem? (i := 747) (by decide +kernel)) rfl
set_option maxRecDepth 100000 in
theorem se_X7_luck : Cond.selects yX7_luck.cls yX7_luck yX7_luck ∈ tblG := tg1 (List.mem_of_getElem? (i := 748) (by decide +kernel)) rfl
set_option maxRecDepth 100000 in
theorem cd_X7_missing : Cond.code yX7_missing cX7_missing 4 (some .int) ∈ tblG := tg1 (List.mem_of_getElem? (i := 460) (by decide +kernel)) rfl
set_option maxRecDepth 100000 in
theorem ds_X7_missing : yX7_missing.cls ≠ "java/lang/invoke/MethodHandle" ∧ yX7_missing.cls ≠ "java/lang/invoke/VarHandle" ∧ (parseMethodDescriptor yX7_missing.desc).map (fun d => d.parameters.length) = some 1 := by decide +kernel
set_option maxRecDepth 100000 in
theorem im_X7_missing : Cond.instanceMethod yX7_missing ∈ tblG := tg1 (List.mem_of_getElem? (i := 459) (by decide +kernel)) rfl
set_option maxRecDepth 100000 in
theorem se_X7_missing : Cond.selects yX7_missing.cls yX7_missing yX7_missing ∈ tblG := tg (List.mem_append_left _ (List.mem_of_getElem? (i := 37) (by decide +kernel))) rfl
set_option maxRecDepth 100000 in
theorem cd_X7_needs : Cond.code yX7_needs cX7_needs 3 (some .int) ∈ tblG := tg1 (List.mem_of_getElem? (i := 704) (by decide +kernel)) rfl
set_option maxRecDepth 100000 in
theorem ds_X7_needs : yX7_needs.cls ≠ "java/lang/invoke/MethodHandle" ∧ yX7_needs.cls ≠ "java/lang/invoke/VarHandle" ∧ (parseMethodDescriptor yX7_needs.desc).map (fun d => d.parameters.length) = some 2 := by decide +kernel
set_option maxRecDepth 100000 in
theorem im_X7_needs : Cond.instanceMethod yX7_needs ∈ tblG := tg1 (List.mem_of_getElem? (i := 702) (by decide +kernel)) rfl
set_option maxRecDepth 100000 in
theorem se_X7_needs : Cond.selects yX7_needs.cls yX7_needs yX7_needs ∈ tblG := tg1 (List.mem_of_getElem? (i := 703) (by decide +kernel)) rfl
set_option maxRecDepth 100000 in
theorem cd_X7_nthSort : Cond.code yX7_nthSort cX7_nthSort 4 (some .int) ∈ tblG := tg1 (List.mem_of_getElem? (i := 608) (by decide +kernel)) rfl
set_option maxRecDepth 100000 in
theorem ds_X7_nthSort : yX7_nthSort.cls ≠ "java/lang/invoke/MethodHandle" ∧ yX7_nthSort.cls ≠ "java/lang/invoke/VarHandle" ∧ (parseMethodDescriptor yX7_nthSort.desc).map (fun d => d.parameters.length) = some 2 := by decide +kernel
set_option maxRecDepth 100000 in
theorem st_X7_nthSort : Cond.static yX7_nthSort ∈ tblG := tg1 (List.mem_of_getElem? (i := 607) (by decide +kernel)) rfl
set_option maxRecDepth 100000 in
theorem cd_X7_odds : Cond.code yX7_odds cX7_odds 5 (some .int) ∈ tblG := tg1 (List.mem_of_getElem? (i := 561) (by decide +kernel)) rfl
set_option maxRecDepth 100000 in
theorem ds_X7_odds : yX7_odds.cls ≠ "java/lang/invoke/MethodHandle" ∧ yX7_odds.cls ≠ "java/lang/invoke/VarHandle" ∧ (parseMethodDescriptor yX7_odds.desc).map (fun d => d.parameters.length) = some 1 := by decide +kernel
set_option maxRecDepth 100000 in
theorem im_X7_odds : Cond.instanceMethod yX7_odds ∈ tblG := tg1 (List.mem_of_getElem? (i := 560) (by decide +kernel)) rfl
set_option maxRecDepth 100000 in
theorem se_X7_odds : Cond.selects yX7_odds.cls yX7_odds yX7_odds ∈ tblG := tg (List.mem_append_left _ (List.mem_of_getElem? (i := 57) (by decide +kernel))) rfl
set_option maxRecDepth 100000 in
theorem cd_X7_right : Cond.code yX7_right cX7_right 4 (some .int) ∈ tblG := tg1 (List.mem_of_getElem? (i := 737) (by decide +kernel)) rfl
set_option maxRecDepth 100000 in
theorem ds_X7_right : yX7_right.cls ≠ "java/lang/invoke/MethodHandle" ∧ yX7_right.cls ≠ "java/lang/invoke/VarHandle" ∧ (parseMethodDescriptor yX7_right.desc).map (fun d => d.parameters.length) = some 3 := by decide +kernel
set_option maxRecDepth 100000 in
theorem im_X7_right : Cond.instanceMethod yX7_right ∈ tblG := tg1 (List.mem_of_getElem? (i := 735) (by decide +kernel)) rfl
set_option maxRecDepth 100000 in
theorem se_X7_right : Cond.selects yX7_right.cls yX7_right yX7_right ∈ tblG := tg1 (List.mem_of_getElem? (i := 736) (by decide +kernel)) rfl
set_option maxRecDepth 100000 in
theorem cd_X7_say : Cond.code yX7_say cX7_say 4 (some .int) ∈ tblG := tg1 (List.mem_of_getElem? (i := 755) (by decide +kernel)) rfl
set_option maxRecDepth 100000 in
theorem ds_X7_say : yX7_say.cls ≠ "java/lang/invoke/MethodHandle" ∧ yX7_say.cls ≠ "java/lang/invoke/VarHandle" ∧ (parseMethodDescriptor yX7_say.desc).map (fun d => d.parameters.length) = some 3 := by decide +kernel
set_option maxRecDepth 100000 in
theorem im_X7_say : Cond.instanceMethod yX7_say ∈ tblG := tg1 (List.mem_of_getElem? (i := 753) (by decide +kernel)) rfl
set_option maxRecDepth 100000 in
theorem se_X7_say : Cond.selects yX7_say.cls yX7_say yX7_say ∈ tblG := tg1 (List.mem_of_getElem? (i := 754) (by decide +kernel)) rfl
set_option maxRecDepth 100000 in
theorem cd_X7_seed : Cond.code yX7_seed cX7_seed 3 (some .int) ∈ tblG := tg1 (List.mem_of_getElem? (i := 822) (by decide +kernel)) rfl
set_option maxRecDepth 100000 in
theorem ds_X7_seed : yX7_seed.cls ≠ "java/lang/invoke/MethodHandle" ∧ yX7_seed.cls ≠ "java/lang/invoke/VarHandle" ∧ (parseMethodDescriptor yX7_seed.desc).map (fun d => d.parameters.length) = some 1 := by decide +kernel
set_option maxRecDepth 100000 in
theorem im_X7_seed : Cond.instanceMethod yX7_seed ∈ tblG := tg1 (List.mem_of_getElem? (i := 820) (by decide +kernel)) rfl
set_option maxRecDepth 100000 in
theorem se_X7_seed : Cond.selects yX7_seed.cls yX7_seed yX7_seed ∈ tblG := tg1 (List.mem_of_getElem? (i := 821) (by decide +kernel)) rfl
set_option maxRecDepth 100000 in
theorem cd_X7_spelt : Cond.code yX7_spelt cX7_spelt 3 (some .int) ∈ tblG := tg1 (List.mem_of_getElem? (i := 565) (by decide +kernel)) rfl
set_option maxRecDepth 100000 in
theorem ds_X7_spelt : yX7_spelt.cls ≠ "java/lang/invoke/MethodHandle" ∧ yX7_spelt.cls ≠ "java/lang/invoke/VarHandle" ∧ (parseMethodDescriptor yX7_spelt.desc).map (fun d => d.parameters.length) = some 2 := by decide +kernel
set_option maxRecDepth 100000 in
theorem im_X7_spelt : Cond.instanceMethod yX7_spelt ∈ tblG := tg1 (List.mem_of_getElem? (i := 563) (by decide +kernel)) rfl
set_option maxRecDepth 100000 in
theorem se_X7_spelt : Cond.selects yX7_spelt.cls yX7_spelt yX7_spelt ∈ tblG := tg1 (List.mem_of_getElem? (i := 564) (by decide +kernel)) rfl
set_option maxRecDepth 100000 in
theorem cd_X7_sum : Cond.code yX7_sum cX7_sum 6 (some .int) ∈ tblG := tg1 (List.mem_of_getElem? (i := 448) (by decide +kernel)) rfl
set_option maxRecDepth 100000 in
theorem ds_X7_sum : yX7_sum.cls ≠ "java/lang/invoke/MethodHandle" ∧ yX7_sum.cls ≠ "java/lang/invoke/VarHandle" ∧ (parseMethodDescriptor yX7_sum.desc).map (fun d => d.parameters.length) = some 1 := by decide +kernel
set_option maxRecDepth 100000 in
theorem st_X7_sum : Cond.static yX7_sum ∈ tblG := tg1 (List.mem_of_getElem? (i := 447) (by decide +kernel)) rfl
set_option maxRecDepth 100000 in
theorem cd_X7_take : Cond.code yX7_take cX7_take 3 (some .int) ∈ tblG := tg1 (List.mem_of_getElem? (i := 658) (by decide +kernel)) rfl
set_option maxRecDepth 100000 in
theorem ds_X7_take : yX7_take.cls ≠ "java/lang/invoke/MethodHandle" ∧ yX7_take.cls ≠ "java/lang/invoke/VarHandle" ∧ (parseMethodDescriptor yX7_take.desc).map (fun d => d.parameters.length) = some 1 := by decide +kernel
set_option maxRecDepth 100000 in
theorem im_X7_take : Cond.instanceMethod yX7_take ∈ tblG := tg1 (List.mem_of_getElem? (i := 656) (by decide +kernel)) rfl
set_option maxRecDepth 100000 in
theorem se_X7_take : Cond.selects yX7_take.cls yX7_take yX7_take ∈ tblG := tg1 (List.mem_of_getElem? (i := 657) (by decide +kernel)) rfl
set_option maxRecDepth 100000 in
theorem cd_X7_takeOne : Cond.code yX7_takeOne cX7_takeOne 2 none ∈ tblG := tg1 (List.mem_of_getElem? (i := 667) (by decide +kernel)) rfl
set_option maxRecDepth 100000 in
theorem ds_X7_takeOne : yX7_takeOne.cls ≠ "java/lang/invoke/MethodHandle" ∧ yX7_takeOne.cls ≠ "java/lang/invoke/VarHandle" ∧ (parseMethodDescriptor yX7_takeOne.desc).map (fun d => d.parameters.length) = some 1 := by decide +kernel
set_option maxRecDepth 100000 in
theorem im_X7_takeOne : Cond.instanceMethod yX7_takeOne ∈ tblG := tg1 (List.mem_of_getElem? (i := 666) (by decide +kernel)) rfl
set_option maxRecDepth 100000 in
theorem se_X7_takeOne : Cond.selects yX7_takeOne.cls yX7_takeOne yX7_takeOne ∈ tblG := tg (List.mem_append_left _ (List.mem_of_getElem? (i := 73) (by decide +kernel))) rfl
set_option maxRecDepth 100000 in
theorem cd_X7_takeRefusal : Cond.code yX7_takeRefusal cX7_takeRefusal 3 (some .int) ∈ tblG := tg1 (List.mem_of_getElem? (i := 662) (by decide +kernel)) rfl
set_option maxRecDepth 100000 in
theorem ds_X7_takeRefusal : yX7_takeRefusal.cls ≠ "java/lang/invoke/MethodHandle" ∧ yX7_takeRefusal.cls ≠ "java/lang/invoke/VarHandle" ∧ (parseMethodDescriptor yX7_takeRefusal.desc).map (fun d => d.parameters.length) = some 1 := by decide +kernel
set_option maxRecDepth 100000 in
theorem im_X7_takeRefusal : Cond.instanceMethod yX7_takeRefusal ∈ tblG := tg1 (List.mem_of_getElem? (i := 661) (by decide +kernel)) rfl
set_option maxRecDepth 100000 in
theorem se_X7_takeRefusal : Cond.selects yX7_takeRefusal.cls yX7_takeRefusal yX7_takeRefusal ∈ tblG := tg (List.mem_append_left _ (List.mem_of_getElem? (i := 72) (by decide +kernel))) rfl
set_option maxRecDepth 100000 in
theorem cd_X7_tear : Cond.code yX7_tear cX7_tear 2 (some .int) ∈ tblG := tg1 (List.mem_of_getElem? (i := 818) (by decide +kernel)) rfl
set_option maxRecDepth 100000 in
theorem ds_X7_tear : yX7_tear.cls ≠ "java/lang/invoke/MethodHandle" ∧ yX7_tear.cls ≠ "java/lang/invoke/VarHandle" ∧ (parseMethodDescriptor yX7_tear.desc).map (fun d => d.parameters.length) = some 0 := by decide +kernel
set_option maxRecDepth 100000 in
theorem im_X7_tear : Cond.instanceMethod yX7_tear ∈ tblG := tg1 (List.mem_of_getElem? (i := 816) (by decide +kernel)) rfl
set_option maxRecDepth 100000 in
theorem se_X7_tear : Cond.selects yX7_tear.cls yX7_tear yX7_tear ∈ tblG := tg1 (List.mem_of_getElem? (i := 817) (by decide +kernel)) rfl
set_option maxRecDepth 100000 in
theorem cd_X7_told : Cond.code yX7_told cX7_told 2 (some .int) ∈ tblG := tg1 (List.mem_of_getElem? (i := 445) (by decide +kernel)) rfl
set_option maxRecDepth 100000 in
theorem ds_X7_told : yX7_told.cls ≠ "java/lang/invoke/MethodHandle" ∧ yX7_told.cls ≠ "java/lang/invoke/VarHandle" ∧ (parseMethodDescriptor yX7_told.desc).map (fun d => d.parameters.length) = some 1 := by decide +kernel
set_option maxRecDepth 100000 in
theorem im_X7_told : Cond.instanceMethod yX7_told ∈ tblG := tg1 (List.mem_of_getElem? (i := 443) (by decide +kernel)) rfl
set_option maxRecDepth 100000 in
theorem se_X7_told : Cond.selects yX7_told.cls yX7_told yX7_told ∈ tblG := tg1 (List.mem_of_getElem? (i := 444) (by decide +kernel)) rfl
set_option maxRecDepth 100000 in
theorem cd_X7_tried : Cond.code yX7_tried cX7_tried 1 (some (.object "LetterTray$Rows")) ∈ tblG := tg1 (List.mem_of_getElem? (i := 472) (by decide +kernel)) rfl
set_option maxRecDepth 100000 in
theorem ds_X7_tried : yX7_tried.cls ≠ "java/lang/invoke/MethodHandle" ∧ yX7_tried.cls ≠ "java/lang/invoke/VarHandle" ∧ (parseMethodDescriptor yX7_tried.desc).map (fun d => d.parameters.length) = some 0 := by decide +kernel
set_option maxRecDepth 100000 in
theorem im_X7_tried : Cond.instanceMethod yX7_tried ∈ tblG := tg1 (List.mem_of_getElem? (i := 471) (by decide +kernel)) rfl
set_option maxRecDepth 100000 in
theorem se_X7_tried : Cond.selects yX7_tried.cls yX7_tried yX7_tried ∈ tblG := tg (List.mem_append_left _ (List.mem_of_getElem? (i := 39) (by decide +kernel))) rfl
set_option maxRecDepth 100000 in
theorem cd_X7_undo : Cond.code yX7_undo cX7_undo 2 (some .int) ∈ tblG := tg1 (List.mem_of_getElem? (i := 696) (by decide +kernel)) rfl
set_option maxRecDepth 100000 in
theorem ds_X7_undo : yX7_undo.cls ≠ "java/lang/invoke/MethodHandle" ∧ yX7_undo.cls ≠ "java/lang/invoke/VarHandle" ∧ (parseMethodDescriptor yX7_undo.desc).map (fun d => d.parameters.length) = some 1 := by decide +kernel
set_option maxRecDepth 100000 in
theorem im_X7_undo : Cond.instanceMethod yX7_undo ∈ tblG := tg1 (List.mem_of_getElem? (i := 694) (by decide +kernel)) rfl
set_option maxRecDepth 100000 in
theorem se_X7_undo : Cond.selects yX7_undo.cls yX7_undo yX7_undo ∈ tblG := tg1 (List.mem_of_getElem? (i := 695) (by decide +kernel)) rfl
set_option maxRecDepth 100000 in
theorem cd_X7_word : Cond.code yX7_word cX7_word 3 (some .int) ∈ tblG := tg1 (List.mem_of_getElem? (i := 547) (by decide +kernel)) rfl
set_option maxRecDepth 100000 in
theorem ds_X7_word : yX7_word.cls ≠ "java/lang/invoke/MethodHandle" ∧ yX7_word.cls ≠ "java/lang/invoke/VarHandle" ∧ (parseMethodDescriptor yX7_word.desc).map (fun d => d.parameters.length) = some 2 := by decide +kernel
set_option maxRecDepth 100000 in
theorem im_X7_word : Cond.instanceMethod yX7_word ∈ tblG := tg1 (List.mem_of_getElem? (i := 545) (by decide +kernel)) rfl
set_option maxRecDepth 100000 in
theorem se_X7_word : Cond.selects yX7_word.cls yX7_word yX7_word ∈ tblG := tg1 (List.mem_of_getElem? (i := 546) (by decide +kernel)) rfl
set_option maxRecDepth 100000 in
theorem cd_X7_write : Cond.code yX7_write cX7_write 3 (some .int) ∈ tblG := tg1 (List.mem_of_getElem? (i := 801) (by decide +kernel)) rfl
set_option maxRecDepth 100000 in
theorem ds_X7_write : yX7_write.cls ≠ "java/lang/invoke/MethodHandle" ∧ yX7_write.cls ≠ "java/lang/invoke/VarHandle" ∧ (parseMethodDescriptor yX7_write.desc).map (fun d => d.parameters.length) = some 2 := by decide +kernel
set_option maxRecDepth 100000 in
theorem im_X7_write : Cond.instanceMethod yX7_write ∈ tblG := tg1 (List.mem_of_getElem? (i := 799) (by decide +kernel)) rfl
set_option maxRecDepth 100000 in
theorem se_X7_write : Cond.selects yX7_write.cls yX7_write yX7_write ∈ tblG := tg1 (List.mem_of_getElem? (i := 800) (by decide +kernel)) rfl
set_option maxRecDepth 100000 in
theorem cd_X0_init : Cond.code yX0_init cX0_init 1 none ∈ tblG := tg1 (List.mem_of_getElem? (i := 51) (by decide +kernel)) rfl
set_option maxRecDepth 100000 in
theorem ds_X0_init : yX0_init.cls ≠ "java/lang/invoke/MethodHandle" ∧ yX0_init.cls ≠ "java/lang/invoke/VarHandle" ∧ (parseMethodDescriptor yX0_init.desc).map (fun d => d.parameters.length) = some 0 := by decide +kernel
set_option maxRecDepth 100000 in
theorem im_X0_init : Cond.instanceMethod yX0_init ∈ tblG := tg1 (List.mem_of_getElem? (i := 50) (by decide +kernel)) rfl
set_option maxRecDepth 100000 in
theorem cd_X0_become : Cond.code yX0_become cX0_become 2 none ∈ tblG := tg1 (List.mem_of_getElem? (i := 592) (by decide +kernel)) rfl
set_option maxRecDepth 100000 in
theorem ds_X0_become : yX0_become.cls ≠ "java/lang/invoke/MethodHandle" ∧ yX0_become.cls ≠ "java/lang/invoke/VarHandle" ∧ (parseMethodDescriptor yX0_become.desc).map (fun d => d.parameters.length) = some 1 := by decide +kernel
set_option maxRecDepth 100000 in
theorem im_X0_become : Cond.instanceMethod yX0_become ∈ tblG := tg1 (List.mem_of_getElem? (i := 591) (by decide +kernel)) rfl
set_option maxRecDepth 100000 in
theorem se_X0_become : Cond.selects yX0_become.cls yX0_become yX0_become ∈ tblG := tg (List.mem_append_left _ (List.mem_of_getElem? (i := 61) (by decide +kernel))) rfl
set_option maxRecDepth 100000 in
theorem cd_X0_clear : Cond.code yX0_clear cX0_clear 2 none ∈ tblG := tg1 (List.mem_of_getElem? (i := 421) (by decide +kernel)) rfl
set_option maxRecDepth 100000 in
theorem ds_X0_clear : yX0_clear.cls ≠ "java/lang/invoke/MethodHandle" ∧ yX0_clear.cls ≠ "java/lang/invoke/VarHandle" ∧ (parseMethodDescriptor yX0_clear.desc).map (fun d => d.parameters.length) = some 1 := by decide +kernel
set_option maxRecDepth 100000 in
theorem im_X0_clear : Cond.instanceMethod yX0_clear ∈ tblG := tg1 (List.mem_of_getElem? (i := 420) (by decide +kernel)) rfl
set_option maxRecDepth 100000 in
theorem se_X0_clear : Cond.selects yX0_clear.cls yX0_clear yX0_clear ∈ tblG := tg (List.mem_append_left _ (List.mem_of_getElem? (i := 31) (by decide +kernel))) rfl
set_option maxRecDepth 100000 in
theorem cd_X0_hasLaid : Cond.code yX0_hasLaid cX0_hasLaid 2 (some .boolean) ∈ tblG := tg1 (List.mem_of_getElem? (i := 574) (by decide +kernel)) rfl
set_option maxRecDepth 100000 in
theorem ds_X0_hasLaid : yX0_hasLaid.cls ≠ "java/lang/invoke/MethodHandle" ∧ yX0_hasLaid.cls ≠ "java/lang/invoke/VarHandle" ∧ (parseMethodDescriptor yX0_hasLaid.desc).map (fun d => d.parameters.length) = some 1 := by decide +kernel
set_option maxRecDepth 100000 in
theorem im_X0_hasLaid : Cond.instanceMethod yX0_hasLaid ∈ tblG := tg1 (List.mem_of_getElem? (i := 573) (by decide +kernel)) rfl
set_option maxRecDepth 100000 in
theorem se_X0_hasLaid : Cond.selects yX0_hasLaid.cls yX0_hasLaid yX0_hasLaid ∈ tblG := tg (List.mem_append_left _ (List.mem_of_getElem? (i := 58) (by decide +kernel))) rfl
set_option maxRecDepth 100000 in
theorem cd_X0_layDown : Cond.code yX0_layDown cX0_layDown 6 none ∈ tblG := tg1 (List.mem_of_getElem? (i := 648) (by decide +kernel)) rfl
set_option maxRecDepth 100000 in
theorem ds_X0_layDown : yX0_layDown.cls ≠ "java/lang/invoke/MethodHandle" ∧ yX0_layDown.cls ≠ "java/lang/invoke/VarHandle" ∧ (parseMethodDescriptor yX0_layDown.desc).map (fun d => d.parameters.length) = some 2 := by decide +kernel
set_option maxRecDepth 100000 in
theorem im_X0_layDown : Cond.instanceMethod yX0_layDown ∈ tblG := tg1 (List.mem_of_getElem? (i := 647) (by decide +kernel)) rfl
set_option maxRecDepth 100000 in
theorem se_X0_layDown : Cond.selects yX0_layDown.cls yX0_layDown yX0_layDown ∈ tblG := tg (List.mem_append_left _ (List.mem_of_getElem? (i := 70) (by decide +kernel))) rfl
set_option maxRecDepth 100000 in
theorem cd_X0_takeUp : Cond.code yX0_takeUp cX0_takeUp 7 none ∈ tblG := tg1 (List.mem_of_getElem? (i := 671) (by decide +kernel)) rfl
set_option maxRecDepth 100000 in
theorem ds_X0_takeUp : yX0_takeUp.cls ≠ "java/lang/invoke/MethodHandle" ∧ yX0_takeUp.cls ≠ "java/lang/invoke/VarHandle" ∧ (parseMethodDescriptor yX0_takeUp.desc).map (fun d => d.parameters.length) = some 2 := by decide +kernel
set_option maxRecDepth 100000 in
theorem im_X0_takeUp : Cond.instanceMethod yX0_takeUp ∈ tblG := tg1 (List.mem_of_getElem? (i := 670) (by decide +kernel)) rfl
set_option maxRecDepth 100000 in
theorem se_X0_takeUp : Cond.selects yX0_takeUp.cls yX0_takeUp yX0_takeUp ∈ tblG := tg (List.mem_append_left _ (List.mem_of_getElem? (i := 74) (by decide +kernel))) rfl
set_option maxRecDepth 100000 in
theorem cd_X0_toBag : Cond.code yX0_toBag cX0_toBag 2 none ∈ tblG := tg1 (List.mem_of_getElem? (i := 628) (by decide +kernel)) rfl
set_option maxRecDepth 100000 in
theorem ds_X0_toBag : yX0_toBag.cls ≠ "java/lang/invoke/MethodHandle" ∧ yX0_toBag.cls ≠ "java/lang/invoke/VarHandle" ∧ (parseMethodDescriptor yX0_toBag.desc).map (fun d => d.parameters.length) = some 1 := by decide +kernel
set_option maxRecDepth 100000 in
theorem im_X0_toBag : Cond.instanceMethod yX0_toBag ∈ tblG := tg1 (List.mem_of_getElem? (i := 627) (by decide +kernel)) rfl
set_option maxRecDepth 100000 in
theorem se_X0_toBag : Cond.selects yX0_toBag.cls yX0_toBag yX0_toBag ∈ tblG := tg (List.mem_append_left _ (List.mem_of_getElem? (i := 67) (by decide +kernel))) rfl
set_option maxRecDepth 100000 in
theorem cd_X0_toTray : Cond.code yX0_toTray cX0_toTray 2 none ∈ tblG := tg1 (List.mem_of_getElem? (i := 612) (by decide +kernel)) rfl
set_option maxRecDepth 100000 in
theorem ds_X0_toTray : yX0_toTray.cls ≠ "java/lang/invoke/MethodHandle" ∧ yX0_toTray.cls ≠ "java/lang/invoke/VarHandle" ∧ (parseMethodDescriptor yX0_toTray.desc).map (fun d => d.parameters.length) = some 1 := by decide +kernel
set_option maxRecDepth 100000 in
theorem im_X0_toTray : Cond.instanceMethod yX0_toTray ∈ tblG := tg1 (List.mem_of_getElem? (i := 611) (by decide +kernel)) rfl
set_option maxRecDepth 100000 in
theorem se_X0_toTray : Cond.selects yX0_toTray.cls yX0_toTray yX0_toTray ∈ tblG := tg (List.mem_append_left _ (List.mem_of_getElem? (i := 64) (by decide +kernel))) rfl
set_option maxRecDepth 100000 in
theorem cd_X1_init : Cond.code yX1_init cX1_init 2 none ∈ tblG := tg1 (List.mem_of_getElem? (i := 88) (by decide +kernel)) rfl
set_option maxRecDepth 100000 in
theorem ds_X1_init : yX1_init.cls ≠ "java/lang/invoke/MethodHandle" ∧ yX1_init.cls ≠ "java/lang/invoke/VarHandle" ∧ (parseMethodDescriptor yX1_init.desc).map (fun d => d.parameters.length) = some 0 := by decide +kernel
set_option maxRecDepth 100000 in
theorem im_X1_init : Cond.instanceMethod yX1_init ∈ tblG := tg1 (List.mem_of_getElem? (i := 87) (by decide +kernel)) rfl
set_option maxRecDepth 100000 in
theorem cd_X1_clear : Cond.code yX1_clear cX1_clear 1 none ∈ tblG := tg1 (List.mem_of_getElem? (i := 429) (by decide +kernel)) rfl
set_option maxRecDepth 100000 in
theorem ds_X1_clear : yX1_clear.cls ≠ "java/lang/invoke/MethodHandle" ∧ yX1_clear.cls ≠ "java/lang/invoke/VarHandle" ∧ (parseMethodDescriptor yX1_clear.desc).map (fun d => d.parameters.length) = some 0 := by decide +kernel
set_option maxRecDepth 100000 in
theorem im_X1_clear : Cond.instanceMethod yX1_clear ∈ tblG := tg1 (List.mem_of_getElem? (i := 428) (by decide +kernel)) rfl
set_option maxRecDepth 100000 in
theorem se_X1_clear : Cond.selects yX1_clear.cls yX1_clear yX1_clear ∈ tblG := tg (List.mem_append_left _ (List.mem_of_getElem? (i := 32) (by decide +kernel))) rfl
set_option maxRecDepth 100000 in
theorem cd_X1_pop : Cond.code yX1_pop cX1_pop 3 none ∈ tblG := tg1 (List.mem_of_getElem? (i := 700) (by decide +kernel)) rfl
set_option maxRecDepth 100000 in
theorem ds_X1_pop : yX1_pop.cls ≠ "java/lang/invoke/MethodHandle" ∧ yX1_pop.cls ≠ "java/lang/invoke/VarHandle" ∧ (parseMethodDescriptor yX1_pop.desc).map (fun d => d.parameters.length) = some 2 := by decide +kernel
set_option maxRecDepth 100000 in
theorem im_X1_pop : Cond.instanceMethod yX1_pop ∈ tblG := tg1 (List.mem_of_getElem? (i := 699) (by decide +kernel)) rfl
set_option maxRecDepth 100000 in
theorem se_X1_pop : Cond.selects yX1_pop.cls yX1_pop yX1_pop ∈ tblG := tg (List.mem_append_left _ (List.mem_of_getElem? (i := 79) (by decide +kernel))) rfl
set_option maxRecDepth 100000 in
theorem cd_X1_push : Cond.code yX1_push cX1_push 2 none ∈ tblG := tg1 (List.mem_of_getElem? (i := 588) (by decide +kernel)) rfl
set_option maxRecDepth 100000 in
theorem ds_X1_push : yX1_push.cls ≠ "java/lang/invoke/MethodHandle" ∧ yX1_push.cls ≠ "java/lang/invoke/VarHandle" ∧ (parseMethodDescriptor yX1_push.desc).map (fun d => d.parameters.length) = some 1 := by decide +kernel
set_option maxRecDepth 100000 in
theorem im_X1_push : Cond.instanceMethod yX1_push ∈ tblG := tg1 (List.mem_of_getElem? (i := 587) (by decide +kernel)) rfl
set_option maxRecDepth 100000 in
theorem se_X1_push : Cond.selects yX1_push.cls yX1_push yX1_push ∈ tblG := tg (List.mem_append_left _ (List.mem_of_getElem? (i := 60) (by decide +kernel))) rfl
set_option maxRecDepth 100000 in
theorem cd_X2_init : Cond.code yX2_init cX2_init 1 none ∈ tblG := tg1 (List.mem_of_getElem? (i := 109) (by decide +kernel)) rfl
set_option maxRecDepth 100000 in
theorem ds_X2_init : yX2_init.cls ≠ "java/lang/invoke/MethodHandle" ∧ yX2_init.cls ≠ "java/lang/invoke/VarHandle" ∧ (parseMethodDescriptor yX2_init.desc).map (fun d => d.parameters.length) = some 0 := by decide +kernel
set_option maxRecDepth 100000 in
theorem im_X2_init : Cond.instanceMethod yX2_init ∈ tblG := tg1 (List.mem_of_getElem? (i := 108) (by decide +kernel)) rfl
set_option maxRecDepth 100000 in
theorem cd_X3_init : Cond.code yX3_init cX3_init 1 none ∈ tblG := tg1 (List.mem_of_getElem? (i := 26) (by decide +kernel)) rfl
set_option maxRecDepth 100000 in
theorem ds_X3_init : yX3_init.cls ≠ "java/lang/invoke/MethodHandle" ∧ yX3_init.cls ≠ "java/lang/invoke/VarHandle" ∧ (parseMethodDescriptor yX3_init.desc).map (fun d => d.parameters.length) = some 0 := by decide +kernel
set_option maxRecDepth 100000 in
theorem im_X3_init : Cond.instanceMethod yX3_init ∈ tblG := tg1 (List.mem_of_getElem? (i := 25) (by decide +kernel)) rfl
set_option maxRecDepth 100000 in
theorem cd_X3_append : Cond.code yX3_append cX3_append 2 (some .boolean) ∈ tblG := tg1 (List.mem_of_getElem? (i := 285) (by decide +kernel)) rfl
set_option maxRecDepth 100000 in
theorem ds_X3_append : yX3_append.cls ≠ "java/lang/invoke/MethodHandle" ∧ yX3_append.cls ≠ "java/lang/invoke/VarHandle" ∧ (parseMethodDescriptor yX3_append.desc).map (fun d => d.parameters.length) = some 1 := by decide +kernel
set_option maxRecDepth 100000 in
theorem im_X3_append : Cond.instanceMethod yX3_append ∈ tblG := tg1 (List.mem_of_getElem? (i := 284) (by decide +kernel)) rfl
set_option maxRecDepth 100000 in
theorem se_X3_append : Cond.selects yX3_append.cls yX3_append yX3_append ∈ tblG := tg (List.mem_append_left _ (List.mem_of_getElem? (i := 0) (by decide +kernel))) rfl
set_option maxRecDepth 100000 in
theorem cd_X3_endLetters : Cond.code yX3_endLetters cX3_endLetters 2 none ∈ tblG := tg1 (List.mem_of_getElem? (i := 348) (by decide +kernel)) rfl
set_option maxRecDepth 100000 in
theorem ds_X3_endLetters : yX3_endLetters.cls ≠ "java/lang/invoke/MethodHandle" ∧ yX3_endLetters.cls ≠ "java/lang/invoke/VarHandle" ∧ (parseMethodDescriptor yX3_endLetters.desc).map (fun d => d.parameters.length) = some 1 := by decide +kernel
set_option maxRecDepth 100000 in
theorem im_X3_endLetters : Cond.instanceMethod yX3_endLetters ∈ tblG := tg1 (List.mem_of_getElem? (i := 347) (by decide +kernel)) rfl
set_option maxRecDepth 100000 in
theorem se_X3_endLetters : Cond.selects yX3_endLetters.cls yX3_endLetters yX3_endLetters ∈ tblG := tg (List.mem_append_left _ (List.mem_of_getElem? (i := 13) (by decide +kernel))) rfl
set_option maxRecDepth 100000 in
theorem cd_X3_endWord : Cond.code yX3_endWord cX3_endWord 5 none ∈ tblG := tg1 (List.mem_of_getElem? (i := 356) (by decide +kernel)) rfl
set_option maxRecDepth 100000 in
theorem ds_X3_endWord : yX3_endWord.cls ≠ "java/lang/invoke/MethodHandle" ∧ yX3_endWord.cls ≠ "java/lang/invoke/VarHandle" ∧ (parseMethodDescriptor yX3_endWord.desc).map (fun d => d.parameters.length) = some 3 := by decide +kernel
set_option maxRecDepth 100000 in
theorem im_X3_endWord : Cond.instanceMethod yX3_endWord ∈ tblG := tg1 (List.mem_of_getElem? (i := 355) (by decide +kernel)) rfl
set_option maxRecDepth 100000 in
theorem se_X3_endWord : Cond.selects yX3_endWord.cls yX3_endWord yX3_endWord ∈ tblG := tg (List.mem_append_left _ (List.mem_of_getElem? (i := 15) (by decide +kernel))) rfl
set_option maxRecDepth 100000 in
theorem cd_X3_fail : Cond.code yX3_fail cX3_fail 3 none ∈ tblG := tg1 (List.mem_of_getElem? (i := 321) (by decide +kernel)) rfl
set_option maxRecDepth 100000 in
theorem ds_X3_fail : yX3_fail.cls ≠ "java/lang/invoke/MethodHandle" ∧ yX3_fail.cls ≠ "java/lang/invoke/VarHandle" ∧ (parseMethodDescriptor yX3_fail.desc).map (fun d => d.parameters.length) = some 2 := by decide +kernel
set_option maxRecDepth 100000 in
theorem im_X3_fail : Cond.instanceMethod yX3_fail ∈ tblG := tg1 (List.mem_of_getElem? (i := 320) (by decide +kernel)) rfl
set_option maxRecDepth 100000 in
theorem se_X3_fail : Cond.selects yX3_fail.cls yX3_fail yX3_fail ∈ tblG := tg (List.mem_append_left _ (List.mem_of_getElem? (i := 7) (by decide +kernel))) rfl
set_option maxRecDepth 100000 in
theorem cd_X3_pass : Cond.code yX3_pass cX3_pass 2 none ∈ tblG := tg1 (List.mem_of_getElem? (i := 336) (by decide +kernel)) rfl
set_option maxRecDepth 100000 in
theorem ds_X3_pass : yX3_pass.cls ≠ "java/lang/invoke/MethodHandle" ∧ yX3_pass.cls ≠ "java/lang/invoke/VarHandle" ∧ (parseMethodDescriptor yX3_pass.desc).map (fun d => d.parameters.length) = some 1 := by decide +kernel
set_option maxRecDepth 100000 in
theorem im_X3_pass : Cond.instanceMethod yX3_pass ∈ tblG := tg1 (List.mem_of_getElem? (i := 335) (by decide +kernel)) rfl
set_option maxRecDepth 100000 in
theorem se_X3_pass : Cond.selects yX3_pass.cls yX3_pass yX3_pass ∈ tblG := tg (List.mem_append_left _ (List.mem_of_getElem? (i := 10) (by decide +kernel))) rfl
set_option maxRecDepth 100000 in
theorem cd_X3_read : Cond.code yX3_read cX3_read 3 (some .int) ∈ tblG := tg1 (List.mem_of_getElem? (i := 294) (by decide +kernel)) rfl
set_option maxRecDepth 100000 in
theorem ds_X3_read : yX3_read.cls ≠ "java/lang/invoke/MethodHandle" ∧ yX3_read.cls ≠ "java/lang/invoke/VarHandle" ∧ (parseMethodDescriptor yX3_read.desc).map (fun d => d.parameters.length) = some 1 := by decide +kernel
set_option maxRecDepth 100000 in
theorem im_X3_read : Cond.instanceMethod yX3_read ∈ tblG := tg1 (List.mem_of_getElem? (i := 293) (by decide +kernel)) rfl
set_option maxRecDepth 100000 in
theorem se_X3_read : Cond.selects yX3_read.cls yX3_read yX3_read ∈ tblG := tg (List.mem_append_left _ (List.mem_of_getElem? (i := 1) (by decide +kernel))) rfl
set_option maxRecDepth 100000 in
theorem cd_X3_readBag : Cond.code yX3_readBag cX3_readBag 4 none ∈ tblG := tg1 (List.mem_of_getElem? (i := 340) (by decide +kernel)) rfl
set_option maxRecDepth 100000 in
theorem ds_X3_readBag : yX3_readBag.cls ≠ "java/lang/invoke/MethodHandle" ∧ yX3_readBag.cls ≠ "java/lang/invoke/VarHandle" ∧ (parseMethodDescriptor yX3_readBag.desc).map (fun d => d.parameters.length) = some 1 := by decide +kernel
set_option maxRecDepth 100000 in
theorem im_X3_readBag : Cond.instanceMethod yX3_readBag ∈ tblG := tg1 (List.mem_of_getElem? (i := 339) (by decide +kernel)) rfl
set_option maxRecDepth 100000 in
theorem se_X3_readBag : Cond.selects yX3_readBag.cls yX3_readBag yX3_readBag ∈ tblG := tg (List.mem_append_left _ (List.mem_of_getElem? (i := 11) (by decide +kernel))) rfl
set_option maxRecDepth 100000 in
theorem cd_X3_readClause : Cond.code yX3_readClause cX3_readClause 2 none ∈ tblG := tg1 (List.mem_of_getElem? (i := 309) (by decide +kernel)) rfl
set_option maxRecDepth 100000 in
theorem ds_X3_readClause : yX3_readClause.cls ≠ "java/lang/invoke/MethodHandle" ∧ yX3_readClause.cls ≠ "java/lang/invoke/VarHandle" ∧ (parseMethodDescriptor yX3_readClause.desc).map (fun d => d.parameters.length) = some 1 := by decide +kernel
set_option maxRecDepth 100000 in
theorem im_X3_readClause : Cond.instanceMethod yX3_readClause ∈ tblG := tg1 (List.mem_of_getElem? (i := 308) (by decide +kernel)) rfl
set_option maxRecDepth 100000 in
theorem se_X3_readClause : Cond.selects yX3_readClause.cls yX3_readClause yX3_readClause ∈ tblG := tg (List.mem_append_left _ (List.mem_of_getElem? (i := 4) (by decide +kernel))) rfl
set_option maxRecDepth 100000 in
theorem cd_X3_readNumber : Cond.code yX3_readNumber cX3_readNumber 5 (some .int) ∈ tblG := tg1 (List.mem_of_getElem? (i := 329) (by decide +kernel)) rfl
set_option maxRecDepth 100000 in
theorem ds_X3_readNumber : yX3_readNumber.cls ≠ "java/lang/invoke/MethodHandle" ∧ yX3_readNumber.cls ≠ "java/lang/invoke/VarHandle" ∧ (parseMethodDescriptor yX3_readNumber.desc).map (fun d => d.parameters.length) = some 2 := by decide +kernel
set_option maxRecDepth 100000 in
theorem im_X3_readNumber : Cond.instanceMethod yX3_readNumber ∈ tblG := tg1 (List.mem_of_getElem? (i := 328) (by decide +kernel)) rfl
set_option maxRecDepth 100000 in
theorem se_X3_readNumber : Cond.selects yX3_readNumber.cls yX3_readNumber yX3_readNumber ∈ tblG := tg (List.mem_append_left _ (List.mem_of_getElem? (i := 9) (by decide +kernel))) rfl
set_option maxRecDepth 100000 in
theorem cd_X3_readValues : Cond.code yX3_readValues cX3_readValues 3 none ∈ tblG := tg1 (List.mem_of_getElem? (i := 325) (by decide +kernel)) rfl
set_option maxRecDepth 100000 in
theorem ds_X3_readValues : yX3_readValues.cls ≠ "java/lang/invoke/MethodHandle" ∧ yX3_readValues.cls ≠ "java/lang/invoke/VarHandle" ∧ (parseMethodDescriptor yX3_readValues.desc).map (fun d => d.parameters.length) = some 1 := by decide +kernel
set_option maxRecDepth 100000 in
theorem im_X3_readValues : Cond.instanceMethod yX3_readValues ∈ tblG := tg1 (List.mem_of_getElem? (i := 324) (by decide +kernel)) rfl
set_option maxRecDepth 100000 in
theorem se_X3_readValues : Cond.selects yX3_readValues.cls yX3_readValues yX3_readValues ∈ tblG := tg (List.mem_append_left _ (List.mem_of_getElem? (i := 8) (by decide +kernel))) rfl
set_option maxRecDepth 100000 in
theorem cd_X3_readWord : Cond.code yX3_readWord cX3_readWord 5 none ∈ tblG := tg1 (List.mem_of_getElem? (i := 352) (by decide +kernel)) rfl
set_option maxRecDepth 100000 in
theorem ds_X3_readWord : yX3_readWord.cls ≠ "java/lang/invoke/MethodHandle" ∧ yX3_readWord.cls ≠ "java/lang/invoke/VarHandle" ∧ (parseMethodDescriptor yX3_readWord.desc).map (fun d => d.parameters.length) = some 1 := by decide +kernel
set_option maxRecDepth 100000 in
theorem im_X3_readWord : Cond.instanceMethod yX3_readWord ∈ tblG := tg1 (List.mem_of_getElem? (i := 351) (by decide +kernel)) rfl
set_option maxRecDepth 100000 in
theorem se_X3_readWord : Cond.selects yX3_readWord.cls yX3_readWord yX3_readWord ∈ tblG := tg (List.mem_append_left _ (List.mem_of_getElem? (i := 14) (by decide +kernel))) rfl
set_option maxRecDepth 100000 in
theorem cd_X3_skipSpaces : Cond.code yX3_skipSpaces cX3_skipSpaces 1 none ∈ tblG := tg1 (List.mem_of_getElem? (i := 305) (by decide +kernel)) rfl
set_option maxRecDepth 100000 in
theorem ds_X3_skipSpaces : yX3_skipSpaces.cls ≠ "java/lang/invoke/MethodHandle" ∧ yX3_skipSpaces.cls ≠ "java/lang/invoke/VarHandle" ∧ (parseMethodDescriptor yX3_skipSpaces.desc).map (fun d => d.parameters.length) = some 0 := by decide +kernel
set_option maxRecDepth 100000 in
theorem im_X3_skipSpaces : Cond.instanceMethod yX3_skipSpaces ∈ tblG := tg1 (List.mem_of_getElem? (i := 304) (by decide +kernel)) rfl
set_option maxRecDepth 100000 in
theorem se_X3_skipSpaces : Cond.selects yX3_skipSpaces.cls yX3_skipSpaces yX3_skipSpaces ∈ tblG := tg (List.mem_append_left _ (List.mem_of_getElem? (i := 3) (by decide +kernel))) rfl
set_option maxRecDepth 100000 in
theorem cd_X3_sortHere : Cond.code yX3_sortHere cX3_sortHere 2 (some .int) ∈ tblG := tg1 (List.mem_of_getElem? (i := 344) (by decide +kernel)) rfl
set_option maxRecDepth 100000 in
theorem ds_X3_sortHere : yX3_sortHere.cls ≠ "java/lang/invoke/MethodHandle" ∧ yX3_sortHere.cls ≠ "java/lang/invoke/VarHandle" ∧ (parseMethodDescriptor yX3_sortHere.desc).map (fun d => d.parameters.length) = some 0 := by decide +kernel
set_option maxRecDepth 100000 in
theorem im_X3_sortHere : Cond.instanceMethod yX3_sortHere ∈ tblG := tg1 (List.mem_of_getElem? (i := 343) (by decide +kernel)) rfl
set_option maxRecDepth 100000 in
theorem se_X3_sortHere : Cond.selects yX3_sortHere.cls yX3_sortHere yX3_sortHere ∈ tblG := tg (List.mem_append_left _ (List.mem_of_getElem? (i := 12) (by decide +kernel))) rfl
set_option maxRecDepth 100000 in
theorem cd_X3_stands : Cond.code yX3_stands cX3_stands 2 (some .boolean) ∈ tblG := tg1 (List.mem_of_getElem? (i := 313) (by decide +kernel)) rfl
set_option maxRecDepth 100000 in
theorem ds_X3_stands : yX3_stands.cls ≠ "java/lang/invoke/MethodHandle" ∧ yX3_stands.cls ≠ "java/lang/invoke/VarHandle" ∧ (parseMethodDescriptor yX3_stands.desc).map (fun d => d.parameters.length) = some 1 := by decide +kernel
set_option maxRecDepth 100000 in
theorem im_X3_stands : Cond.instanceMethod yX3_stands ∈ tblG := tg1 (List.mem_of_getElem? (i := 312) (by decide +kernel)) rfl
set_option maxRecDepth 100000 in
theorem se_X3_stands : Cond.selects yX3_stands.cls yX3_stands yX3_stands ∈ tblG := tg (List.mem_append_left _ (List.mem_of_getElem? (i := 5) (by decide +kernel))) rfl
set_option maxRecDepth 100000 in
theorem cd_X3_startClause : Cond.code yX3_startClause cX3_startClause 2 none ∈ tblG := tg1 (List.mem_of_getElem? (i := 317) (by decide +kernel)) rfl
set_option maxRecDepth 100000 in
theorem ds_X3_startClause : yX3_startClause.cls ≠ "java/lang/invoke/MethodHandle" ∧ yX3_startClause.cls ≠ "java/lang/invoke/VarHandle" ∧ (parseMethodDescriptor yX3_startClause.desc).map (fun d => d.parameters.length) = some 1 := by decide +kernel
set_option maxRecDepth 100000 in
theorem im_X3_startClause : Cond.instanceMethod yX3_startClause ∈ tblG := tg1 (List.mem_of_getElem? (i := 316) (by decide +kernel)) rfl
set_option maxRecDepth 100000 in
theorem se_X3_startClause : Cond.selects yX3_startClause.cls yX3_startClause yX3_startClause ∈ tblG := tg (List.mem_append_left _ (List.mem_of_getElem? (i := 6) (by decide +kernel))) rfl
set_option maxRecDepth 100000 in
theorem cd_X4_init : Cond.code yX4_init cX4_init 2 none ∈ tblG := tg1 (List.mem_of_getElem? (i := 222) (by decide +kernel)) rfl
set_option maxRecDepth 100000 in
theorem ds_X4_init : yX4_init.cls ≠ "java/lang/invoke/MethodHandle" ∧ yX4_init.cls ≠ "java/lang/invoke/VarHandle" ∧ (parseMethodDescriptor yX4_init.desc).map (fun d => d.parameters.length) = some 1 := by decide +kernel
set_option maxRecDepth 100000 in
theorem im_X4_init : Cond.instanceMethod yX4_init ∈ tblG := tg1 (List.mem_of_getElem? (i := 221) (by decide +kernel)) rfl
set_option maxRecDepth 100000 in
theorem cd_X4_after : Cond.code yX4_after cX4_after 8 (some .int) ∈ tblG := tg1 (List.mem_of_getElem? (i := 495) (by decide +kernel)) rfl
set_option maxRecDepth 100000 in
theorem ds_X4_after : yX4_after.cls ≠ "java/lang/invoke/MethodHandle" ∧ yX4_after.cls ≠ "java/lang/invoke/VarHandle" ∧ (parseMethodDescriptor yX4_after.desc).map (fun d => d.parameters.length) = some 2 := by decide +kernel
set_option maxRecDepth 100000 in
theorem im_X4_after : Cond.instanceMethod yX4_after ∈ tblG := tg1 (List.mem_of_getElem? (i := 494) (by decide +kernel)) rfl
set_option maxRecDepth 100000 in
theorem se_X4_after : Cond.selects yX4_after.cls yX4_after yX4_after ∈ tblG := tg (List.mem_append_left _ (List.mem_of_getElem? (i := 44) (by decide +kernel))) rfl
set_option maxRecDepth 100000 in
theorem cd_X4_all : Cond.code yX4_all cX4_all 1 (some .int) ∈ tblG := tg1 (List.mem_of_getElem? (i := 513) (by decide +kernel)) rfl
set_option maxRecDepth 100000 in
theorem ds_X4_all : yX4_all.cls ≠ "java/lang/invoke/MethodHandle" ∧ yX4_all.cls ≠ "java/lang/invoke/VarHandle" ∧ (parseMethodDescriptor yX4_all.desc).map (fun d => d.parameters.length) = some 0 := by decide +kernel
set_option maxRecDepth 100000 in
theorem im_X4_all : Cond.instanceMethod yX4_all ∈ tblG := tg1 (List.mem_of_getElem? (i := 512) (by decide +kernel)) rfl
set_option maxRecDepth 100000 in
theorem se_X4_all : Cond.selects yX4_all.cls yX4_all yX4_all ∈ tblG := tg (List.mem_append_left _ (List.mem_of_getElem? (i := 48) (by decide +kernel))) rfl
set_option maxRecDepth 100000 in
theorem cd_X4_countIn : Cond.code yX4_countIn cX4_countIn 4 (some .int) ∈ tblG := tg1 (List.mem_of_getElem? (i := 499) (by decide +kernel)) rfl
set_option maxRecDepth 100000 in
theorem ds_X4_countIn : yX4_countIn.cls ≠ "java/lang/invoke/MethodHandle" ∧ yX4_countIn.cls ≠ "java/lang/invoke/VarHandle" ∧ (parseMethodDescriptor yX4_countIn.desc).map (fun d => d.parameters.length) = some 2 := by decide +kernel
set_option maxRecDepth 100000 in
theorem im_X4_countIn : Cond.instanceMethod yX4_countIn ∈ tblG := tg1 (List.mem_of_getElem? (i := 498) (by decide +kernel)) rfl
set_option maxRecDepth 100000 in
theorem se_X4_countIn : Cond.selects yX4_countIn.cls yX4_countIn yX4_countIn ∈ tblG := tg (List.mem_append_left _ (List.mem_of_getElem? (i := 45) (by decide +kernel))) rfl
set_option maxRecDepth 100000 in
theorem cd_X4_countRests : Cond.code yX4_countRests cX4_countRests 2 none ∈ tblG := tg1 (List.mem_of_getElem? (i := 485) (by decide +kernel)) rfl
set_option maxRecDepth 100000 in
theorem ds_X4_countRests : yX4_countRests.cls ≠ "java/lang/invoke/MethodHandle" ∧ yX4_countRests.cls ≠ "java/lang/invoke/VarHandle" ∧ (parseMethodDescriptor yX4_countRests.desc).map (fun d => d.parameters.length) = some 0 := by decide +kernel
set_option maxRecDepth 100000 in
theorem im_X4_countRests : Cond.instanceMethod yX4_countRests ∈ tblG := tg1 (List.mem_of_getElem? (i := 484) (by decide +kernel)) rfl
set_option maxRecDepth 100000 in
theorem se_X4_countRests : Cond.selects yX4_countRests.cls yX4_countRests yX4_countRests ∈ tblG := tg (List.mem_append_left _ (List.mem_of_getElem? (i := 42) (by decide +kernel))) rfl
set_option maxRecDepth 100000 in
theorem cd_X4_countWays : Cond.code yX4_countWays cX4_countWays 4 none ∈ tblG := tg1 (List.mem_of_getElem? (i := 490) (by decide +kernel)) rfl
set_option maxRecDepth 100000 in
theorem ds_X4_countWays : yX4_countWays.cls ≠ "java/lang/invoke/MethodHandle" ∧ yX4_countWays.cls ≠ "java/lang/invoke/VarHandle" ∧ (parseMethodDescriptor yX4_countWays.desc).map (fun d => d.parameters.length) = some 0 := by decide +kernel
set_option maxRecDepth 100000 in
theorem im_X4_countWays : Cond.instanceMethod yX4_countWays ∈ tblG := tg1 (List.mem_of_getElem? (i := 489) (by decide +kernel)) rfl
set_option maxRecDepth 100000 in
theorem se_X4_countWays : Cond.selects yX4_countWays.cls yX4_countWays yX4_countWays ∈ tblG := tg (List.mem_append_left _ (List.mem_of_getElem? (i := 43) (by decide +kernel))) rfl
set_option maxRecDepth 100000 in
theorem cd_X4_forget : Cond.code yX4_forget cX4_forget 1 none ∈ tblG := tg1 (List.mem_of_getElem? (i := 433) (by decide +kernel)) rfl
set_option maxRecDepth 100000 in
theorem ds_X4_forget : yX4_forget.cls ≠ "java/lang/invoke/MethodHandle" ∧ yX4_forget.cls ≠ "java/lang/invoke/VarHandle" ∧ (parseMethodDescriptor yX4_forget.desc).map (fun d => d.parameters.length) = some 0 := by decide +kernel
set_option maxRecDepth 100000 in
theorem im_X4_forget : Cond.instanceMethod yX4_forget ∈ tblG := tg1 (List.mem_of_getElem? (i := 432) (by decide +kernel)) rfl
set_option maxRecDepth 100000 in
theorem se_X4_forget : Cond.selects yX4_forget.cls yX4_forget yX4_forget ∈ tblG := tg (List.mem_append_left _ (List.mem_of_getElem? (i := 33) (by decide +kernel))) rfl
set_option maxRecDepth 100000 in
theorem cd_X4_isTray : Cond.code yX4_isTray cX4_isTray 3 (some .boolean) ∈ tblG := tg1 (List.mem_of_getElem? (i := 480) (by decide +kernel)) rfl
set_option maxRecDepth 100000 in
theorem ds_X4_isTray : yX4_isTray.cls ≠ "java/lang/invoke/MethodHandle" ∧ yX4_isTray.cls ≠ "java/lang/invoke/VarHandle" ∧ (parseMethodDescriptor yX4_isTray.desc).map (fun d => d.parameters.length) = some 1 := by decide +kernel
set_option maxRecDepth 100000 in
theorem im_X4_isTray : Cond.instanceMethod yX4_isTray ∈ tblG := tg1 (List.mem_of_getElem? (i := 479) (by decide +kernel)) rfl
set_option maxRecDepth 100000 in
theorem se_X4_isTray : Cond.selects yX4_isTray.cls yX4_isTray yX4_isTray ∈ tblG := tg (List.mem_append_left _ (List.mem_of_getElem? (i := 41) (by decide +kernel))) rfl
set_option maxRecDepth 100000 in
theorem cd_X4_kth : Cond.code yX4_kth cX4_kth 5 (some .int) ∈ tblG := tg1 (List.mem_of_getElem? (i := 712) (by decide +kernel)) rfl
set_option maxRecDepth 100000 in
theorem ds_X4_kth : yX4_kth.cls ≠ "java/lang/invoke/MethodHandle" ∧ yX4_kth.cls ≠ "java/lang/invoke/VarHandle" ∧ (parseMethodDescriptor yX4_kth.desc).map (fun d => d.parameters.length) = some 1 := by decide +kernel
set_option maxRecDepth 100000 in
theorem im_X4_kth : Cond.instanceMethod yX4_kth ∈ tblG := tg1 (List.mem_of_getElem? (i := 711) (by decide +kernel)) rfl
set_option maxRecDepth 100000 in
theorem se_X4_kth : Cond.selects yX4_kth.cls yX4_kth yX4_kth ∈ tblG := tg (List.mem_append_left _ (List.mem_of_getElem? (i := 80) (by decide +kernel))) rfl
set_option maxRecDepth 100000 in
theorem cd_X4_leastOfBest : Cond.code yX4_leastOfBest cX4_leastOfBest 3 (some .int) ∈ tblG := tg1 (List.mem_of_getElem? (i := 716) (by decide +kernel)) rfl
set_option maxRecDepth 100000 in
theorem ds_X4_leastOfBest : yX4_leastOfBest.cls ≠ "java/lang/invoke/MethodHandle" ∧ yX4_leastOfBest.cls ≠ "java/lang/invoke/VarHandle" ∧ (parseMethodDescriptor yX4_leastOfBest.desc).map (fun d => d.parameters.length) = some 1 := by decide +kernel
set_option maxRecDepth 100000 in
theorem im_X4_leastOfBest : Cond.instanceMethod yX4_leastOfBest ∈ tblG := tg1 (List.mem_of_getElem? (i := 715) (by decide +kernel)) rfl
set_option maxRecDepth 100000 in
theorem se_X4_leastOfBest : Cond.selects yX4_leastOfBest.cls yX4_leastOfBest yX4_leastOfBest ∈ tblG := tg (List.mem_append_left _ (List.mem_of_getElem? (i := 81) (by decide +kernel))) rfl
set_option maxRecDepth 100000 in
theorem cd_X4_many : Cond.code yX4_many cX4_many 1 (some .int) ∈ tblG := tg1 (List.mem_of_getElem? (i := 521) (by decide +kernel)) rfl
set_option maxRecDepth 100000 in
theorem ds_X4_many : yX4_many.cls ≠ "java/lang/invoke/MethodHandle" ∧ yX4_many.cls ≠ "java/lang/invoke/VarHandle" ∧ (parseMethodDescriptor yX4_many.desc).map (fun d => d.parameters.length) = some 0 := by decide +kernel
set_option maxRecDepth 100000 in
theorem im_X4_many : Cond.instanceMethod yX4_many ∈ tblG := tg1 (List.mem_of_getElem? (i := 520) (by decide +kernel)) rfl
set_option maxRecDepth 100000 in
theorem se_X4_many : Cond.selects yX4_many.cls yX4_many yX4_many ∈ tblG := tg (List.mem_append_left _ (List.mem_of_getElem? (i := 50) (by decide +kernel))) rfl
set_option maxRecDepth 100000 in
theorem cd_X4_most : Cond.code yX4_most cX4_most 1 (some .int) ∈ tblG := tg1 (List.mem_of_getElem? (i := 517) (by decide +kernel)) rfl
set_option maxRecDepth 100000 in
theorem ds_X4_most : yX4_most.cls ≠ "java/lang/invoke/MethodHandle" ∧ yX4_most.cls ≠ "java/lang/invoke/VarHandle" ∧ (parseMethodDescriptor yX4_most.desc).map (fun d => d.parameters.length) = some 0 := by decide +kernel
set_option maxRecDepth 100000 in
theorem im_X4_most : Cond.instanceMethod yX4_most ∈ tblG := tg1 (List.mem_of_getElem? (i := 516) (by decide +kernel)) rfl
set_option maxRecDepth 100000 in
theorem se_X4_most : Cond.selects yX4_most.cls yX4_most yX4_most ∈ tblG := tg (List.mem_append_left _ (List.mem_of_getElem? (i := 49) (by decide +kernel))) rfl
set_option maxRecDepth 100000 in
theorem cd_X4_rankRests : Cond.code yX4_rankRests cX4_rankRests 3 none ∈ tblG := tg1 (List.mem_of_getElem? (i := 504) (by decide +kernel)) rfl
set_option maxRecDepth 100000 in
theorem ds_X4_rankRests : yX4_rankRests.cls ≠ "java/lang/invoke/MethodHandle" ∧ yX4_rankRests.cls ≠ "java/lang/invoke/VarHandle" ∧ (parseMethodDescriptor yX4_rankRests.desc).map (fun d => d.parameters.length) = some 0 := by decide +kernel
set_option maxRecDepth 100000 in
theorem im_X4_rankRests : Cond.instanceMethod yX4_rankRests ∈ tblG := tg1 (List.mem_of_getElem? (i := 503) (by decide +kernel)) rfl
set_option maxRecDepth 100000 in
theorem se_X4_rankRests : Cond.selects yX4_rankRests.cls yX4_rankRests yX4_rankRests ∈ tblG := tg (List.mem_append_left _ (List.mem_of_getElem? (i := 46) (by decide +kernel))) rfl
set_option maxRecDepth 100000 in
theorem cd_X4_rankWith : Cond.code yX4_rankWith cX4_rankWith 4 (some .int) ∈ tblG := tg1 (List.mem_of_getElem? (i := 508) (by decide +kernel)) rfl
set_option maxRecDepth 100000 in
theorem ds_X4_rankWith : yX4_rankWith.cls ≠ "java/lang/invoke/MethodHandle" ∧ yX4_rankWith.cls ≠ "java/lang/invoke/VarHandle" ∧ (parseMethodDescriptor yX4_rankWith.desc).map (fun d => d.parameters.length) = some 2 := by decide +kernel
set_option maxRecDepth 100000 in
theorem im_X4_rankWith : Cond.instanceMethod yX4_rankWith ∈ tblG := tg1 (List.mem_of_getElem? (i := 507) (by decide +kernel)) rfl
set_option maxRecDepth 100000 in
theorem se_X4_rankWith : Cond.selects yX4_rankWith.cls yX4_rankWith yX4_rankWith ∈ tblG := tg (List.mem_append_left _ (List.mem_of_getElem? (i := 47) (by decide +kernel))) rfl
set_option maxRecDepth 100000 in
theorem cd_X4_tryOut : Cond.code yX4_tryOut cX4_tryOut 3 none ∈ tblG := tg1 (List.mem_of_getElem? (i := 476) (by decide +kernel)) rfl
set_option maxRecDepth 100000 in
theorem ds_X4_tryOut : yX4_tryOut.cls ≠ "java/lang/invoke/MethodHandle" ∧ yX4_tryOut.cls ≠ "java/lang/invoke/VarHandle" ∧ (parseMethodDescriptor yX4_tryOut.desc).map (fun d => d.parameters.length) = some 2 := by decide +kernel
set_option maxRecDepth 100000 in
theorem im_X4_tryOut : Cond.instanceMethod yX4_tryOut ∈ tblG := tg1 (List.mem_of_getElem? (i := 475) (by decide +kernel)) rfl
set_option maxRecDepth 100000 in
theorem se_X4_tryOut : Cond.selects yX4_tryOut.cls yX4_tryOut yX4_tryOut ∈ tblG := tg (List.mem_append_left _ (List.mem_of_getElem? (i := 40) (by decide +kernel))) rfl
set_option maxRecDepth 100000 in
theorem cd_X5_init : Cond.code yX5_init cX5_init 1 none ∈ tblG := tg1 (List.mem_of_getElem? (i := 130) (by decide +kernel)) rfl
set_option maxRecDepth 100000 in
theorem ds_X5_init : yX5_init.cls ≠ "java/lang/invoke/MethodHandle" ∧ yX5_init.cls ≠ "java/lang/invoke/VarHandle" ∧ (parseMethodDescriptor yX5_init.desc).map (fun d => d.parameters.length) = some 0 := by decide +kernel
set_option maxRecDepth 100000 in
theorem im_X5_init : Cond.instanceMethod yX5_init ∈ tblG := tg1 (List.mem_of_getElem? (i := 129) (by decide +kernel)) rfl
set_option maxRecDepth 100000 in
theorem cd_X5_addEntry : Cond.code yX5_addEntry cX5_addEntry 3 (some .boolean) ∈ tblG := tg1 (List.mem_of_getElem? (i := 805) (by decide +kernel)) rfl
set_option maxRecDepth 100000 in
theorem ds_X5_addEntry : yX5_addEntry.cls ≠ "java/lang/invoke/MethodHandle" ∧ yX5_addEntry.cls ≠ "java/lang/invoke/VarHandle" ∧ (parseMethodDescriptor yX5_addEntry.desc).map (fun d => d.parameters.length) = some 2 := by decide +kernel
set_option maxRecDepth 100000 in
theorem im_X5_addEntry : Cond.instanceMethod yX5_addEntry ∈ tblG := tg1 (List.mem_of_getElem? (i := 804) (by decide +kernel)) rfl
set_option maxRecDepth 100000 in
theorem se_X5_addEntry : Cond.selects yX5_addEntry.cls yX5_addEntry yX5_addEntry ∈ tblG := tg (List.mem_append_left _ (List.mem_of_getElem? (i := 92) (by decide +kernel))) rfl
set_option maxRecDepth 100000 in
theorem cd_X5_addSaid : Cond.code yX5_addSaid cX5_addSaid 4 (some .boolean) ∈ tblG := tg1 (List.mem_of_getElem? (i := 759) (by decide +kernel)) rfl
set_option maxRecDepth 100000 in
theorem ds_X5_addSaid : yX5_addSaid.cls ≠ "java/lang/invoke/MethodHandle" ∧ yX5_addSaid.cls ≠ "java/lang/invoke/VarHandle" ∧ (parseMethodDescriptor yX5_addSaid.desc).map (fun d => d.parameters.length) = some 3 := by decide +kernel
set_option maxRecDepth 100000 in
theorem im_X5_addSaid : Cond.instanceMethod yX5_addSaid ∈ tblG := tg1 (List.mem_of_getElem? (i := 758) (by decide +kernel)) rfl
set_option maxRecDepth 100000 in
theorem se_X5_addSaid : Cond.selects yX5_addSaid.cls yX5_addSaid yX5_addSaid ∈ tblG := tg (List.mem_append_left _ (List.mem_of_getElem? (i := 86) (by decide +kernel))) rfl
set_option maxRecDepth 100000 in
theorem cd_X5_bestToAsk : Cond.code yX5_bestToAsk cX5_bestToAsk 7 (some .int) ∈ tblG := tg1 (List.mem_of_getElem? (i := 781) (by decide +kernel)) rfl
set_option maxRecDepth 100000 in
theorem ds_X5_bestToAsk : yX5_bestToAsk.cls ≠ "java/lang/invoke/MethodHandle" ∧ yX5_bestToAsk.cls ≠ "java/lang/invoke/VarHandle" ∧ (parseMethodDescriptor yX5_bestToAsk.desc).map (fun d => d.parameters.length) = some 1 := by decide +kernel
set_option maxRecDepth 100000 in
theorem im_X5_bestToAsk : Cond.instanceMethod yX5_bestToAsk ∈ tblG := tg1 (List.mem_of_getElem? (i := 780) (by decide +kernel)) rfl
set_option maxRecDepth 100000 in
theorem se_X5_bestToAsk : Cond.selects yX5_bestToAsk.cls yX5_bestToAsk yX5_bestToAsk ∈ tblG := tg (List.mem_append_left _ (List.mem_of_getElem? (i := 89) (by decide +kernel))) rfl
set_option maxRecDepth 100000 in
theorem cd_X5_clear : Cond.code yX5_clear cX5_clear 1 none ∈ tblG := tg1 (List.mem_of_getElem? (i := 437) (by decide +kernel)) rfl
set_option maxRecDepth 100000 in
theorem ds_X5_clear : yX5_clear.cls ≠ "java/lang/invoke/MethodHandle" ∧ yX5_clear.cls ≠ "java/lang/invoke/VarHandle" ∧ (parseMethodDescriptor yX5_clear.desc).map (fun d => d.parameters.length) = some 0 := by decide +kernel
set_option maxRecDepth 100000 in
theorem im_X5_clear : Cond.instanceMethod yX5_clear ∈ tblG := tg1 (List.mem_of_getElem? (i := 436) (by decide +kernel)) rfl
set_option maxRecDepth 100000 in
theorem se_X5_clear : Cond.selects yX5_clear.cls yX5_clear yX5_clear ∈ tblG := tg (List.mem_append_left _ (List.mem_of_getElem? (i := 34) (by decide +kernel))) rfl
set_option maxRecDepth 100000 in
theorem cd_X5_firstWrong : Cond.code yX5_firstWrong cX5_firstWrong 4 (some .int) ∈ tblG := tg1 (List.mem_of_getElem? (i := 813) (by decide +kernel)) rfl
set_option maxRecDepth 100000 in
theorem ds_X5_firstWrong : yX5_firstWrong.cls ≠ "java/lang/invoke/MethodHandle" ∧ yX5_firstWrong.cls ≠ "java/lang/invoke/VarHandle" ∧ (parseMethodDescriptor yX5_firstWrong.desc).map (fun d => d.parameters.length) = some 1 := by decide +kernel
set_option maxRecDepth 100000 in
theorem im_X5_firstWrong : Cond.instanceMethod yX5_firstWrong ∈ tblG := tg1 (List.mem_of_getElem? (i := 812) (by decide +kernel)) rfl
set_option maxRecDepth 100000 in
theorem se_X5_firstWrong : Cond.selects yX5_firstWrong.cls yX5_firstWrong yX5_firstWrong ∈ tblG := tg (List.mem_append_left _ (List.mem_of_getElem? (i := 93) (by decide +kernel))) rfl
set_option maxRecDepth 100000 in
theorem cd_X5_fits : Cond.code yX5_fits cX5_fits 4 (some .boolean) ∈ tblG := tg1 (List.mem_of_getElem? (i := 771) (by decide +kernel)) rfl
set_option maxRecDepth 100000 in
theorem ds_X5_fits : yX5_fits.cls ≠ "java/lang/invoke/MethodHandle" ∧ yX5_fits.cls ≠ "java/lang/invoke/VarHandle" ∧ (parseMethodDescriptor yX5_fits.desc).map (fun d => d.parameters.length) = some 2 := by decide +kernel
set_option maxRecDepth 100000 in
theorem im_X5_fits : Cond.instanceMethod yX5_fits ∈ tblG := tg1 (List.mem_of_getElem? (i := 770) (by decide +kernel)) rfl
set_option maxRecDepth 100000 in
theorem se_X5_fits : Cond.selects yX5_fits.cls yX5_fits yX5_fits ∈ tblG := tg (List.mem_append_left _ (List.mem_of_getElem? (i := 88) (by decide +kernel))) rfl
set_option maxRecDepth 100000 in
theorem cd_X5_fitting : Cond.code yX5_fitting cX5_fitting 4 (some .int) ∈ tblG := tg1 (List.mem_of_getElem? (i := 767) (by decide +kernel)) rfl
set_option maxRecDepth 100000 in
theorem ds_X5_fitting : yX5_fitting.cls ≠ "java/lang/invoke/MethodHandle" ∧ yX5_fitting.cls ≠ "java/lang/invoke/VarHandle" ∧ (parseMethodDescriptor yX5_fitting.desc).map (fun d => d.parameters.length) = some 1 := by decide +kernel
set_option maxRecDepth 100000 in
theorem im_X5_fitting : Cond.instanceMethod yX5_fitting ∈ tblG := tg1 (List.mem_of_getElem? (i := 766) (by decide +kernel)) rfl
set_option maxRecDepth 100000 in
theorem se_X5_fitting : Cond.selects yX5_fitting.cls yX5_fitting yX5_fitting ∈ tblG := tg (List.mem_append_left _ (List.mem_of_getElem? (i := 87) (by decide +kernel))) rfl
set_option maxRecDepth 100000 in
theorem cd_X5_greatestPart : Cond.code yX5_greatestPart cX5_greatestPart 6 (some .int) ∈ tblG := tg1 (List.mem_of_getElem? (i := 792) (by decide +kernel)) rfl
set_option maxRecDepth 100000 in
theorem ds_X5_greatestPart : yX5_greatestPart.cls ≠ "java/lang/invoke/MethodHandle" ∧ yX5_greatestPart.cls ≠ "java/lang/invoke/VarHandle" ∧ (parseMethodDescriptor yX5_greatestPart.desc).map (fun d => d.parameters.length) = some 3 := by decide +kernel
set_option maxRecDepth 100000 in
theorem im_X5_greatestPart : Cond.instanceMethod yX5_greatestPart ∈ tblG := tg1 (List.mem_of_getElem? (i := 791) (by decide +kernel)) rfl
set_option maxRecDepth 100000 in
theorem se_X5_greatestPart : Cond.selects yX5_greatestPart.cls yX5_greatestPart yX5_greatestPart ∈ tblG := tg (List.mem_append_left _ (List.mem_of_getElem? (i := 90) (by decide +kernel))) rfl
set_option maxRecDepth 100000 in
theorem cd_X5_partWith : Cond.code yX5_partWith cX5_partWith 7 (some .int) ∈ tblG := tg1 (List.mem_of_getElem? (i := 796) (by decide +kernel)) rfl
set_option maxRecDepth 100000 in
theorem ds_X5_partWith : yX5_partWith.cls ≠ "java/lang/invoke/MethodHandle" ∧ yX5_partWith.cls ≠ "java/lang/invoke/VarHandle" ∧ (parseMethodDescriptor yX5_partWith.desc).map (fun d => d.parameters.length) = some 4 := by decide +kernel
set_option maxRecDepth 100000 in
theorem im_X5_partWith : Cond.instanceMethod yX5_partWith ∈ tblG := tg1 (List.mem_of_getElem? (i := 795) (by decide +kernel)) rfl
set_option maxRecDepth 100000 in
theorem se_X5_partWith : Cond.selects yX5_partWith.cls yX5_partWith yX5_partWith ∈ tblG := tg (List.mem_append_left _ (List.mem_of_getElem? (i := 91) (by decide +kernel))) rfl
set_option maxRecDepth 100000 in
theorem cd_X6_init : Cond.code yX6_init cX6_init 1 none ∈ tblG := tg1 (List.mem_of_getElem? (i := 160) (by decide +kernel)) rfl
set_option maxRecDepth 100000 in
theorem ds_X6_init : yX6_init.cls ≠ "java/lang/invoke/MethodHandle" ∧ yX6_init.cls ≠ "java/lang/invoke/VarHandle" ∧ (parseMethodDescriptor yX6_init.desc).map (fun d => d.parameters.length) = some 0 := by decide +kernel
set_option maxRecDepth 100000 in
theorem im_X6_init : Cond.instanceMethod yX6_init ∈ tblG := tg1 (List.mem_of_getElem? (i := 159) (by decide +kernel)) rfl
set_option maxRecDepth 100000 in
theorem cd_X6_add : Cond.code yX6_add cX6_add 4 (some .boolean) ∈ tblG := tg1 (List.mem_of_getElem? (i := 360) (by decide +kernel)) rfl
set_option maxRecDepth 100000 in
theorem ds_X6_add : yX6_add.cls ≠ "java/lang/invoke/MethodHandle" ∧ yX6_add.cls ≠ "java/lang/invoke/VarHandle" ∧ (parseMethodDescriptor yX6_add.desc).map (fun d => d.parameters.length) = some 2 := by decide +kernel
set_option maxRecDepth 100000 in
theorem im_X6_add : Cond.instanceMethod yX6_add ∈ tblG := tg1 (List.mem_of_getElem? (i := 359) (by decide +kernel)) rfl
set_option maxRecDepth 100000 in
theorem se_X6_add : Cond.selects yX6_add.cls yX6_add yX6_add ∈ tblG := tg (List.mem_append_left _ (List.mem_of_getElem? (i := 16) (by decide +kernel))) rfl
set_option maxRecDepth 100000 in
theorem cd_X6_areKin : Cond.code yX6_areKin cX6_areKin 3 (some .boolean) ∈ tblG := tg1 (List.mem_of_getElem? (i := 405) (by decide +kernel)) rfl
set_option maxRecDepth 100000 in
theorem ds_X6_areKin : yX6_areKin.cls ≠ "java/lang/invoke/MethodHandle" ∧ yX6_areKin.cls ≠ "java/lang/invoke/VarHandle" ∧ (parseMethodDescriptor yX6_areKin.desc).map (fun d => d.parameters.length) = some 2 := by decide +kernel
set_option maxRecDepth 100000 in
theorem im_X6_areKin : Cond.instanceMethod yX6_areKin ∈ tblG := tg1 (List.mem_of_getElem? (i := 404) (by decide +kernel)) rfl
set_option maxRecDepth 100000 in
theorem se_X6_areKin : Cond.selects yX6_areKin.cls yX6_areKin yX6_areKin ∈ tblG := tg (List.mem_append_left _ (List.mem_of_getElem? (i := 27) (by decide +kernel))) rfl
set_option maxRecDepth 100000 in
theorem cd_X6_clear : Cond.code yX6_clear cX6_clear 1 none ∈ tblG := tg1 (List.mem_of_getElem? (i := 298) (by decide +kernel)) rfl
set_option maxRecDepth 100000 in
theorem ds_X6_clear : yX6_clear.cls ≠ "java/lang/invoke/MethodHandle" ∧ yX6_clear.cls ≠ "java/lang/invoke/VarHandle" ∧ (parseMethodDescriptor yX6_clear.desc).map (fun d => d.parameters.length) = some 0 := by decide +kernel
set_option maxRecDepth 100000 in
theorem im_X6_clear : Cond.instanceMethod yX6_clear ∈ tblG := tg1 (List.mem_of_getElem? (i := 297) (by decide +kernel)) rfl
set_option maxRecDepth 100000 in
theorem se_X6_clear : Cond.selects yX6_clear.cls yX6_clear yX6_clear ∈ tblG := tg (List.mem_append_left _ (List.mem_of_getElem? (i := 2) (by decide +kernel))) rfl
set_option maxRecDepth 100000 in
theorem cd_X6_countNeeds : Cond.code yX6_countNeeds cX6_countNeeds 5 none ∈ tblG := tg1 (List.mem_of_getElem? (i := 376) (by decide +kernel)) rfl
set_option maxRecDepth 100000 in
theorem ds_X6_countNeeds : yX6_countNeeds.cls ≠ "java/lang/invoke/MethodHandle" ∧ yX6_countNeeds.cls ≠ "java/lang/invoke/VarHandle" ∧ (parseMethodDescriptor yX6_countNeeds.desc).map (fun d => d.parameters.length) = some 1 := by decide +kernel
set_option maxRecDepth 100000 in
theorem im_X6_countNeeds : Cond.instanceMethod yX6_countNeeds ∈ tblG := tg1 (List.mem_of_getElem? (i := 375) (by decide +kernel)) rfl
set_option maxRecDepth 100000 in
theorem se_X6_countNeeds : Cond.selects yX6_countNeeds.cls yX6_countNeeds yX6_countNeeds ∈ tblG := tg (List.mem_append_left _ (List.mem_of_getElem? (i := 20) (by decide +kernel))) rfl
set_option maxRecDepth 100000 in
theorem cd_X6_farSet : Cond.code yX6_farSet cX6_farSet 6 (some .int) ∈ tblG := tg1 (List.mem_of_getElem? (i := 733) (by decide +kernel)) rfl
set_option maxRecDepth 100000 in
theorem ds_X6_farSet : yX6_farSet.cls ≠ "java/lang/invoke/MethodHandle" ∧ yX6_farSet.cls ≠ "java/lang/invoke/VarHandle" ∧ (parseMethodDescriptor yX6_farSet.desc).map (fun d => d.parameters.length) = some 2 := by decide +kernel
set_option maxRecDepth 100000 in
theorem im_X6_farSet : Cond.instanceMethod yX6_farSet ∈ tblG := tg1 (List.mem_of_getElem? (i := 732) (by decide +kernel)) rfl
set_option maxRecDepth 100000 in
theorem se_X6_farSet : Cond.selects yX6_farSet.cls yX6_farSet yX6_farSet ∈ tblG := tg (List.mem_append_left _ (List.mem_of_getElem? (i := 83) (by decide +kernel))) rfl
set_option maxRecDepth 100000 in
theorem cd_X6_farthest : Cond.code yX6_farthest cX6_farthest 4 (some .int) ∈ tblG := tg1 (List.mem_of_getElem? (i := 530) (by decide +kernel)) rfl
set_option maxRecDepth 100000 in
theorem ds_X6_farthest : yX6_farthest.cls ≠ "java/lang/invoke/MethodHandle" ∧ yX6_farthest.cls ≠ "java/lang/invoke/VarHandle" ∧ (parseMethodDescriptor yX6_farthest.desc).map (fun d => d.parameters.length) = some 0 := by decide +kernel
set_option maxRecDepth 100000 in
theorem im_X6_farthest : Cond.instanceMethod yX6_farthest ∈ tblG := tg1 (List.mem_of_getElem? (i := 529) (by decide +kernel)) rfl
set_option maxRecDepth 100000 in
theorem se_X6_farthest : Cond.selects yX6_farthest.cls yX6_farthest yX6_farthest ∈ tblG := tg (List.mem_append_left _ (List.mem_of_getElem? (i := 52) (by decide +kernel))) rfl
set_option maxRecDepth 100000 in
theorem cd_X6_has : Cond.code yX6_has cX6_has 2 (some .boolean) ∈ tblG := tg1 (List.mem_of_getElem? (i := 538) (by decide +kernel)) rfl
set_option maxRecDepth 100000 in
theorem ds_X6_has : yX6_has.cls ≠ "java/lang/invoke/MethodHandle" ∧ yX6_has.cls ≠ "java/lang/invoke/VarHandle" ∧ (parseMethodDescriptor yX6_has.desc).map (fun d => d.parameters.length) = some 1 := by decide +kernel
set_option maxRecDepth 100000 in
theorem im_X6_has : Cond.instanceMethod yX6_has ∈ tblG := tg1 (List.mem_of_getElem? (i := 537) (by decide +kernel)) rfl
set_option maxRecDepth 100000 in
theorem se_X6_has : Cond.selects yX6_has.cls yX6_has yX6_has ∈ tblG := tg (List.mem_append_left _ (List.mem_of_getElem? (i := 54) (by decide +kernel))) rfl
set_option maxRecDepth 100000 in
theorem cd_X6_inBoth : Cond.code yX6_inBoth cX6_inBoth 5 (some .int) ∈ tblG := tg1 (List.mem_of_getElem? (i := 396) (by decide +kernel)) rfl
set_option maxRecDepth 100000 in
theorem ds_X6_inBoth : yX6_inBoth.cls ≠ "java/lang/invoke/MethodHandle" ∧ yX6_inBoth.cls ≠ "java/lang/invoke/VarHandle" ∧ (parseMethodDescriptor yX6_inBoth.desc).map (fun d => d.parameters.length) = some 2 := by decide +kernel
set_option maxRecDepth 100000 in
theorem im_X6_inBoth : Cond.instanceMethod yX6_inBoth ∈ tblG := tg1 (List.mem_of_getElem? (i := 395) (by decide +kernel)) rfl
set_option maxRecDepth 100000 in
theorem se_X6_inBoth : Cond.selects yX6_inBoth.cls yX6_inBoth yX6_inBoth ∈ tblG := tg (List.mem_append_left _ (List.mem_of_getElem? (i := 25) (by decide +kernel))) rfl
set_option maxRecDepth 100000 in
theorem cd_X6_insideOf : Cond.code yX6_insideOf cX6_insideOf 4 (some .int) ∈ tblG := tg1 (List.mem_of_getElem? (i := 557) (by decide +kernel)) rfl
set_option maxRecDepth 100000 in
theorem ds_X6_insideOf : yX6_insideOf.cls ≠ "java/lang/invoke/MethodHandle" ∧ yX6_insideOf.cls ≠ "java/lang/invoke/VarHandle" ∧ (parseMethodDescriptor yX6_insideOf.desc).map (fun d => d.parameters.length) = some 1 := by decide +kernel
set_option maxRecDepth 100000 in
theorem im_X6_insideOf : Cond.instanceMethod yX6_insideOf ∈ tblG := tg1 (List.mem_of_getElem? (i := 556) (by decide +kernel)) rfl
set_option maxRecDepth 100000 in
theorem se_X6_insideOf : Cond.selects yX6_insideOf.cls yX6_insideOf yX6_insideOf ∈ tblG := tg (List.mem_append_left _ (List.mem_of_getElem? (i := 56) (by decide +kernel))) rfl
set_option maxRecDepth 100000 in
theorem cd_X6_isLonger : Cond.code yX6_isLonger cX6_isLonger 5 (some .boolean) ∈ tblG := tg1 (List.mem_of_getElem? (i := 409) (by decide +kernel)) rfl
set_option maxRecDepth 100000 in
theorem ds_X6_isLonger : yX6_isLonger.cls ≠ "java/lang/invoke/MethodHandle" ∧ yX6_isLonger.cls ≠ "java/lang/invoke/VarHandle" ∧ (parseMethodDescriptor yX6_isLonger.desc).map (fun d => d.parameters.length) = some 2 := by decide +kernel
set_option maxRecDepth 100000 in
theorem im_X6_isLonger : Cond.instanceMethod yX6_isLonger ∈ tblG := tg1 (List.mem_of_getElem? (i := 408) (by decide +kernel)) rfl
set_option maxRecDepth 100000 in
theorem se_X6_isLonger : Cond.selects yX6_isLonger.cls yX6_isLonger yX6_isLonger ∈ tblG := tg (List.mem_append_left _ (List.mem_of_getElem? (i := 28) (by decide +kernel))) rfl
set_option maxRecDepth 100000 in
theorem cd_X6_isMirror : Cond.code yX6_isMirror cX6_isMirror 4 (some .boolean) ∈ tblG := tg1 (List.mem_of_getElem? (i := 392) (by decide +kernel)) rfl
set_option maxRecDepth 100000 in
theorem ds_X6_isMirror : yX6_isMirror.cls ≠ "java/lang/invoke/MethodHandle" ∧ yX6_isMirror.cls ≠ "java/lang/invoke/VarHandle" ∧ (parseMethodDescriptor yX6_isMirror.desc).map (fun d => d.parameters.length) = some 1 := by decide +kernel
set_option maxRecDepth 100000 in
theorem im_X6_isMirror : Cond.instanceMethod yX6_isMirror ∈ tblG := tg1 (List.mem_of_getElem? (i := 391) (by decide +kernel)) rfl
set_option maxRecDepth 100000 in
theorem se_X6_isMirror : Cond.selects yX6_isMirror.cls yX6_isMirror yX6_isMirror ∈ tblG := tg (List.mem_append_left _ (List.mem_of_getElem? (i := 24) (by decide +kernel))) rfl
set_option maxRecDepth 100000 in
theorem cd_X6_isStep : Cond.code yX6_isStep cX6_isStep 3 (some .boolean) ∈ tblG := tg1 (List.mem_of_getElem? (i := 401) (by decide +kernel)) rfl
set_option maxRecDepth 100000 in
theorem ds_X6_isStep : yX6_isStep.cls ≠ "java/lang/invoke/MethodHandle" ∧ yX6_isStep.cls ≠ "java/lang/invoke/VarHandle" ∧ (parseMethodDescriptor yX6_isStep.desc).map (fun d => d.parameters.length) = some 2 := by decide +kernel
set_option maxRecDepth 100000 in
theorem im_X6_isStep : Cond.instanceMethod yX6_isStep ∈ tblG := tg1 (List.mem_of_getElem? (i := 400) (by decide +kernel)) rfl
set_option maxRecDepth 100000 in
theorem se_X6_isStep : Cond.selects yX6_isStep.cls yX6_isStep yX6_isStep ∈ tblG := tg (List.mem_append_left _ (List.mem_of_getElem? (i := 26) (by decide +kernel))) rfl
set_option maxRecDepth 100000 in
theorem cd_X6_joinSteps : Cond.code yX6_joinSteps cX6_joinSteps 6 none ∈ tblG := tg1 (List.mem_of_getElem? (i := 413) (by decide +kernel)) rfl
set_option maxRecDepth 100000 in
theorem ds_X6_joinSteps : yX6_joinSteps.cls ≠ "java/lang/invoke/MethodHandle" ∧ yX6_joinSteps.cls ≠ "java/lang/invoke/VarHandle" ∧ (parseMethodDescriptor yX6_joinSteps.desc).map (fun d => d.parameters.length) = some 0 := by decide +kernel
set_option maxRecDepth 100000 in
theorem im_X6_joinSteps : Cond.instanceMethod yX6_joinSteps ∈ tblG := tg1 (List.mem_of_getElem? (i := 412) (by decide +kernel)) rfl
set_option maxRecDepth 100000 in
theorem se_X6_joinSteps : Cond.selects yX6_joinSteps.cls yX6_joinSteps yX6_joinSteps ∈ tblG := tg (List.mem_append_left _ (List.mem_of_getElem? (i := 29) (by decide +kernel))) rfl
set_option maxRecDepth 100000 in
theorem cd_X6_kinOf : Cond.code yX6_kinOf cX6_kinOf 4 (some .int) ∈ tblG := tg1 (List.mem_of_getElem? (i := 553) (by decide +kernel)) rfl
set_option maxRecDepth 100000 in
theorem ds_X6_kinOf : yX6_kinOf.cls ≠ "java/lang/invoke/MethodHandle" ∧ yX6_kinOf.cls ≠ "java/lang/invoke/VarHandle" ∧ (parseMethodDescriptor yX6_kinOf.desc).map (fun d => d.parameters.length) = some 1 := by decide +kernel
set_option maxRecDepth 100000 in
theorem im_X6_kinOf : Cond.instanceMethod yX6_kinOf ∈ tblG := tg1 (List.mem_of_getElem? (i := 552) (by decide +kernel)) rfl
set_option maxRecDepth 100000 in
theorem se_X6_kinOf : Cond.selects yX6_kinOf.cls yX6_kinOf yX6_kinOf ∈ tblG := tg (List.mem_append_left _ (List.mem_of_getElem? (i := 55) (by decide +kernel))) rfl
set_option maxRecDepth 100000 in
theorem cd_X6_lengthOf : Cond.code yX6_lengthOf cX6_lengthOf 2 (some .int) ∈ tblG := tg1 (List.mem_of_getElem? (i := 653) (by decide +kernel)) rfl
set_option maxRecDepth 100000 in
theorem ds_X6_lengthOf : yX6_lengthOf.cls ≠ "java/lang/invoke/MethodHandle" ∧ yX6_lengthOf.cls ≠ "java/lang/invoke/VarHandle" ∧ (parseMethodDescriptor yX6_lengthOf.desc).map (fun d => d.parameters.length) = some 1 := by decide +kernel
set_option maxRecDepth 100000 in
theorem im_X6_lengthOf : Cond.instanceMethod yX6_lengthOf ∈ tblG := tg1 (List.mem_of_getElem? (i := 652) (by decide +kernel)) rfl
set_option maxRecDepth 100000 in
theorem se_X6_lengthOf : Cond.selects yX6_lengthOf.cls yX6_lengthOf yX6_lengthOf ∈ tblG := tg (List.mem_append_left _ (List.mem_of_getElem? (i := 71) (by decide +kernel))) rfl
set_option maxRecDepth 100000 in
theorem cd_X6_letterAt : Cond.code yX6_letterAt cX6_letterAt 3 (some .int) ∈ tblG := tg1 (List.mem_of_getElem? (i := 380) (by decide +kernel)) rfl
set_option maxRecDepth 100000 in
theorem ds_X6_letterAt : yX6_letterAt.cls ≠ "java/lang/invoke/MethodHandle" ∧ yX6_letterAt.cls ≠ "java/lang/invoke/VarHandle" ∧ (parseMethodDescriptor yX6_letterAt.desc).map (fun d => d.parameters.length) = some 2 := by decide +kernel
set_option maxRecDepth 100000 in
theorem im_X6_letterAt : Cond.instanceMethod yX6_letterAt ∈ tblG := tg1 (List.mem_of_getElem? (i := 379) (by decide +kernel)) rfl
set_option maxRecDepth 100000 in
theorem se_X6_letterAt : Cond.selects yX6_letterAt.cls yX6_letterAt yX6_letterAt ∈ tblG := tg (List.mem_append_left _ (List.mem_of_getElem? (i := 21) (by decide +kernel))) rfl
set_option maxRecDepth 100000 in
theorem cd_X6_moreOf : Cond.code yX6_moreOf cX6_moreOf 3 (some .int) ∈ tblG := tg1 (List.mem_of_getElem? (i := 745) (by decide +kernel)) rfl
set_option maxRecDepth 100000 in
theorem ds_X6_moreOf : yX6_moreOf.cls ≠ "java/lang/invoke/MethodHandle" ∧ yX6_moreOf.cls ≠ "java/lang/invoke/VarHandle" ∧ (parseMethodDescriptor yX6_moreOf.desc).map (fun d => d.parameters.length) = some 2 := by decide +kernel
set_option maxRecDepth 100000 in
theorem im_X6_moreOf : Cond.instanceMethod yX6_moreOf ∈ tblG := tg1 (List.mem_of_getElem? (i := 744) (by decide +kernel)) rfl
set_option maxRecDepth 100000 in
theorem se_X6_moreOf : Cond.selects yX6_moreOf.cls yX6_moreOf yX6_moreOf ∈ tblG := tg (List.mem_append_left _ (List.mem_of_getElem? (i := 85) (by decide +kernel))) rfl
set_option maxRecDepth 100000 in
theorem cd_X6_needOf : Cond.code yX6_needOf cX6_needOf 3 (some .int) ∈ tblG := tg1 (List.mem_of_getElem? (i := 388) (by decide +kernel)) rfl
set_option maxRecDepth 100000 in
theorem ds_X6_needOf : yX6_needOf.cls ≠ "java/lang/invoke/MethodHandle" ∧ yX6_needOf.cls ≠ "java/lang/invoke/VarHandle" ∧ (parseMethodDescriptor yX6_needOf.desc).map (fun d => d.parameters.length) = some 2 := by decide +kernel
set_option maxRecDepth 100000 in
theorem im_X6_needOf : Cond.instanceMethod yX6_needOf ∈ tblG := tg1 (List.mem_of_getElem? (i := 387) (by decide +kernel)) rfl
set_option maxRecDepth 100000 in
theorem se_X6_needOf : Cond.selects yX6_needOf.cls yX6_needOf yX6_needOf ∈ tblG := tg (List.mem_append_left _ (List.mem_of_getElem? (i := 23) (by decide +kernel))) rfl
set_option maxRecDepth 100000 in
theorem cd_X6_nextTo : Cond.code yX6_nextTo cX6_nextTo 5 (some .int) ∈ tblG := tg1 (List.mem_of_getElem? (i := 725) (by decide +kernel)) rfl
set_option maxRecDepth 100000 in
theorem ds_X6_nextTo : yX6_nextTo.cls ≠ "java/lang/invoke/MethodHandle" ∧ yX6_nextTo.cls ≠ "java/lang/invoke/VarHandle" ∧ (parseMethodDescriptor yX6_nextTo.desc).map (fun d => d.parameters.length) = some 2 := by decide +kernel
set_option maxRecDepth 100000 in
theorem im_X6_nextTo : Cond.instanceMethod yX6_nextTo ∈ tblG := tg1 (List.mem_of_getElem? (i := 724) (by decide +kernel)) rfl
set_option maxRecDepth 100000 in
theorem se_X6_nextTo : Cond.selects yX6_nextTo.cls yX6_nextTo yX6_nextTo ∈ tblG := tg (List.mem_append_left _ (List.mem_of_getElem? (i := 82) (by decide +kernel))) rfl
set_option maxRecDepth 100000 in
theorem cd_X6_prepare : Cond.code yX6_prepare cX6_prepare 4 none ∈ tblG := tg1 (List.mem_of_getElem? (i := 372) (by decide +kernel)) rfl
set_option maxRecDepth 100000 in
theorem ds_X6_prepare : yX6_prepare.cls ≠ "java/lang/invoke/MethodHandle" ∧ yX6_prepare.cls ≠ "java/lang/invoke/VarHandle" ∧ (parseMethodDescriptor yX6_prepare.desc).map (fun d => d.parameters.length) = some 0 := by decide +kernel
set_option maxRecDepth 100000 in
theorem im_X6_prepare : Cond.instanceMethod yX6_prepare ∈ tblG := tg1 (List.mem_of_getElem? (i := 371) (by decide +kernel)) rfl
set_option maxRecDepth 100000 in
theorem se_X6_prepare : Cond.selects yX6_prepare.cls yX6_prepare yX6_prepare ∈ tblG := tg (List.mem_append_left _ (List.mem_of_getElem? (i := 19) (by decide +kernel))) rfl
set_option maxRecDepth 100000 in
theorem cd_X6_rightOf : Cond.code yX6_rightOf cX6_rightOf 3 (some .int) ∈ tblG := tg1 (List.mem_of_getElem? (i := 741) (by decide +kernel)) rfl
set_option maxRecDepth 100000 in
theorem ds_X6_rightOf : yX6_rightOf.cls ≠ "java/lang/invoke/MethodHandle" ∧ yX6_rightOf.cls ≠ "java/lang/invoke/VarHandle" ∧ (parseMethodDescriptor yX6_rightOf.desc).map (fun d => d.parameters.length) = some 2 := by decide +kernel
set_option maxRecDepth 100000 in
theorem im_X6_rightOf : Cond.instanceMethod yX6_rightOf ∈ tblG := tg1 (List.mem_of_getElem? (i := 740) (by decide +kernel)) rfl
set_option maxRecDepth 100000 in
theorem se_X6_rightOf : Cond.selects yX6_rightOf.cls yX6_rightOf yX6_rightOf ∈ tblG := tg (List.mem_append_left _ (List.mem_of_getElem? (i := 84) (by decide +kernel))) rfl
set_option maxRecDepth 100000 in
theorem cd_X6_samePlaces : Cond.code yX6_samePlaces cX6_samePlaces 5 (some .int) ∈ tblG := tg1 (List.mem_of_getElem? (i := 364) (by decide +kernel)) rfl
set_option maxRecDepth 100000 in
theorem ds_X6_samePlaces : yX6_samePlaces.cls ≠ "java/lang/invoke/MethodHandle" ∧ yX6_samePlaces.cls ≠ "java/lang/invoke/VarHandle" ∧ (parseMethodDescriptor yX6_samePlaces.desc).map (fun d => d.parameters.length) = some 2 := by decide +kernel
set_option maxRecDepth 100000 in
theorem im_X6_samePlaces : Cond.instanceMethod yX6_samePlaces ∈ tblG := tg1 (List.mem_of_getElem? (i := 363) (by decide +kernel)) rfl
set_option maxRecDepth 100000 in
theorem se_X6_samePlaces : Cond.selects yX6_samePlaces.cls yX6_samePlaces yX6_samePlaces ∈ tblG := tg (List.mem_append_left _ (List.mem_of_getElem? (i := 17) (by decide +kernel))) rfl
set_option maxRecDepth 100000 in
theorem cd_X6_spell : Cond.code yX6_spell cX6_spell 3 none ∈ tblG := tg1 (List.mem_of_getElem? (i := 368) (by decide +kernel)) rfl
set_option maxRecDepth 100000 in
theorem ds_X6_spell : yX6_spell.cls ≠ "java/lang/invoke/MethodHandle" ∧ yX6_spell.cls ≠ "java/lang/invoke/VarHandle" ∧ (parseMethodDescriptor yX6_spell.desc).map (fun d => d.parameters.length) = some 2 := by decide +kernel
set_option maxRecDepth 100000 in
theorem im_X6_spell : Cond.instanceMethod yX6_spell ∈ tblG := tg1 (List.mem_of_getElem? (i := 367) (by decide +kernel)) rfl
set_option maxRecDepth 100000 in
theorem se_X6_spell : Cond.selects yX6_spell.cls yX6_spell yX6_spell ∈ tblG := tg (List.mem_append_left _ (List.mem_of_getElem? (i := 18) (by decide +kernel))) rfl
set_option maxRecDepth 100000 in
theorem cd_X6_stepsTo : Cond.code yX6_stepsTo cX6_stepsTo 4 (some .int) ∈ tblG := tg1 (List.mem_of_getElem? (i := 534) (by decide +kernel)) rfl
set_option maxRecDepth 100000 in
theorem ds_X6_stepsTo : yX6_stepsTo.cls ≠ "java/lang/invoke/MethodHandle" ∧ yX6_stepsTo.cls ≠ "java/lang/invoke/VarHandle" ∧ (parseMethodDescriptor yX6_stepsTo.desc).map (fun d => d.parameters.length) = some 2 := by decide +kernel
set_option maxRecDepth 100000 in
theorem im_X6_stepsTo : Cond.instanceMethod yX6_stepsTo ∈ tblG := tg1 (List.mem_of_getElem? (i := 533) (by decide +kernel)) rfl
set_option maxRecDepth 100000 in
theorem se_X6_stepsTo : Cond.selects yX6_stepsTo.cls yX6_stepsTo yX6_stepsTo ∈ tblG := tg (List.mem_append_left _ (List.mem_of_getElem? (i := 53) (by decide +kernel))) rfl
set_option maxRecDepth 100000 in
theorem cd_X6_unused : Cond.code yX6_unused cX6_unused 4 (some .int) ∈ tblG := tg1 (List.mem_of_getElem? (i := 526) (by decide +kernel)) rfl
set_option maxRecDepth 100000 in
theorem ds_X6_unused : yX6_unused.cls ≠ "java/lang/invoke/MethodHandle" ∧ yX6_unused.cls ≠ "java/lang/invoke/VarHandle" ∧ (parseMethodDescriptor yX6_unused.desc).map (fun d => d.parameters.length) = some 0 := by decide +kernel
set_option maxRecDepth 100000 in
theorem im_X6_unused : Cond.instanceMethod yX6_unused ∈ tblG := tg1 (List.mem_of_getElem? (i := 525) (by decide +kernel)) rfl
set_option maxRecDepth 100000 in
theorem se_X6_unused : Cond.selects yX6_unused.cls yX6_unused yX6_unused ∈ tblG := tg (List.mem_append_left _ (List.mem_of_getElem? (i := 51) (by decide +kernel))) rfl
set_option maxRecDepth 100000 in
theorem cd_X6_worthOf : Cond.code yX6_worthOf cX6_worthOf 4 (some .int) ∈ tblG := tg1 (List.mem_of_getElem? (i := 384) (by decide +kernel)) rfl
set_option maxRecDepth 100000 in
theorem ds_X6_worthOf : yX6_worthOf.cls ≠ "java/lang/invoke/MethodHandle" ∧ yX6_worthOf.cls ≠ "java/lang/invoke/VarHandle" ∧ (parseMethodDescriptor yX6_worthOf.desc).map (fun d => d.parameters.length) = some 1 := by decide +kernel
set_option maxRecDepth 100000 in
theorem im_X6_worthOf : Cond.instanceMethod yX6_worthOf ∈ tblG := tg1 (List.mem_of_getElem? (i := 383) (by decide +kernel)) rfl
set_option maxRecDepth 100000 in
theorem se_X6_worthOf : Cond.selects yX6_worthOf.cls yX6_worthOf yX6_worthOf ∈ tblG := tg (List.mem_append_left _ (List.mem_of_getElem? (i := 22) (by decide +kernel))) rfl
set_option maxRecDepth 100000 in
theorem cd_X8_init : Cond.code yX8_init cX8_init 1 none ∈ tblG := tg1 (List.mem_of_getElem? (i := 836) (by decide +kernel)) rfl
set_option maxRecDepth 100000 in
theorem ds_X8_init : yX8_init.cls ≠ "java/lang/invoke/MethodHandle" ∧ yX8_init.cls ≠ "java/lang/invoke/VarHandle" ∧ (parseMethodDescriptor yX8_init.desc).map (fun d => d.parameters.length) = some 0 := by decide +kernel
set_option maxRecDepth 100000 in
theorem im_X8_init : Cond.instanceMethod yX8_init ∈ tblG := tg1 (List.mem_of_getElem? (i := 835) (by decide +kernel)) rfl
set_option maxRecDepth 100000 in
theorem cd_X8_areKin : Cond.code yX8_areKin cX8_areKin 3 (some .boolean) ∈ tblG := tg1 (List.mem_of_getElem? (i := 1063) (by decide +kernel)) rfl
set_option maxRecDepth 100000 in
theorem ds_X8_areKin : yX8_areKin.cls ≠ "java/lang/invoke/MethodHandle" ∧ yX8_areKin.cls ≠ "java/lang/invoke/VarHandle" ∧ (parseMethodDescriptor yX8_areKin.desc).map (fun d => d.parameters.length) = some 2 := by decide +kernel
set_option maxRecDepth 100000 in
theorem im_X8_areKin : Cond.instanceMethod yX8_areKin ∈ tblG := tg1 (List.mem_of_getElem? (i := 1062) (by decide +kernel)) rfl
set_option maxRecDepth 100000 in
theorem se_X8_areKin : Cond.selects yX8_areKin.cls yX8_areKin yX8_areKin ∈ tblG := tg (List.mem_append_left _ (List.mem_of_getElem? (i := 110) (by decide +kernel))) rfl
set_option maxRecDepth 100000 in
theorem cd_X8_ask : Cond.code yX8_ask cX8_ask 6 (some .int) ∈ tblG := tg1 (List.mem_of_getElem? (i := 1261) (by decide +kernel)) rfl
set_option maxRecDepth 100000 in
theorem ds_X8_ask : yX8_ask.cls ≠ "java/lang/invoke/MethodHandle" ∧ yX8_ask.cls ≠ "java/lang/invoke/VarHandle" ∧ (parseMethodDescriptor yX8_ask.desc).map (fun d => d.parameters.length) = some 0 := by decide +kernel
set_option maxRecDepth 100000 in
theorem im_X8_ask : Cond.instanceMethod yX8_ask ∈ tblG := tg1 (List.mem_of_getElem? (i := 1259) (by decide +kernel)) rfl
set_option maxRecDepth 100000 in
theorem se_X8_ask : Cond.selects yX8_ask.cls yX8_ask yX8_ask ∈ tblG := tg1 (List.mem_of_getElem? (i := 1260) (by decide +kernel)) rfl
set_option maxRecDepth 100000 in
theorem cd_X8_bestNow : Cond.code yX8_bestNow cX8_bestNow 3 (some .int) ∈ tblG := tg1 (List.mem_of_getElem? (i := 1305) (by decide +kernel)) rfl
set_option maxRecDepth 100000 in
theorem ds_X8_bestNow : yX8_bestNow.cls ≠ "java/lang/invoke/MethodHandle" ∧ yX8_bestNow.cls ≠ "java/lang/invoke/VarHandle" ∧ (parseMethodDescriptor yX8_bestNow.desc).map (fun d => d.parameters.length) = some 0 := by decide +kernel
set_option maxRecDepth 100000 in
theorem im_X8_bestNow : Cond.instanceMethod yX8_bestNow ∈ tblG := tg1 (List.mem_of_getElem? (i := 1304) (by decide +kernel)) rfl
set_option maxRecDepth 100000 in
theorem se_X8_bestNow : Cond.selects yX8_bestNow.cls yX8_bestNow yX8_bestNow ∈ tblG := tg (List.mem_append_left _ (List.mem_of_getElem? (i := 140) (by decide +kernel))) rfl
set_option maxRecDepth 100000 in
theorem cd_X8_byDraws : Cond.code yX8_byDraws cX8_byDraws 3 none ∈ tblG := tg1 (List.mem_of_getElem? (i := 1224) (by decide +kernel)) rfl
set_option maxRecDepth 100000 in
theorem ds_X8_byDraws : yX8_byDraws.cls ≠ "java/lang/invoke/MethodHandle" ∧ yX8_byDraws.cls ≠ "java/lang/invoke/VarHandle" ∧ (parseMethodDescriptor yX8_byDraws.desc).map (fun d => d.parameters.length) = some 0 := by decide +kernel
set_option maxRecDepth 100000 in
theorem im_X8_byDraws : Cond.instanceMethod yX8_byDraws ∈ tblG := tg1 (List.mem_of_getElem? (i := 1223) (by decide +kernel)) rfl
set_option maxRecDepth 100000 in
theorem se_X8_byDraws : Cond.selects yX8_byDraws.cls yX8_byDraws yX8_byDraws ∈ tblG := tg (List.mem_append_left _ (List.mem_of_getElem? (i := 135) (by decide +kernel))) rfl
set_option maxRecDepth 100000 in
theorem cd_X8_can : Cond.code yX8_can cX8_can 2 (some .boolean) ∈ tblG := tg1 (List.mem_of_getElem? (i := 1079) (by decide +kernel)) rfl
set_option maxRecDepth 100000 in
theorem ds_X8_can : yX8_can.cls ≠ "java/lang/invoke/MethodHandle" ∧ yX8_can.cls ≠ "java/lang/invoke/VarHandle" ∧ (parseMethodDescriptor yX8_can.desc).map (fun d => d.parameters.length) = some 1 := by decide +kernel
set_option maxRecDepth 100000 in
theorem im_X8_can : Cond.instanceMethod yX8_can ∈ tblG := tg1 (List.mem_of_getElem? (i := 1078) (by decide +kernel)) rfl
set_option maxRecDepth 100000 in
theorem se_X8_can : Cond.selects yX8_can.cls yX8_can yX8_can ∈ tblG := tg (List.mem_append_left _ (List.mem_of_getElem? (i := 114) (by decide +kernel))) rfl
set_option maxRecDepth 100000 in
theorem cd_X8_canSet : Cond.code yX8_canSet cX8_canSet 3 (some .int) ∈ tblG := tg1 (List.mem_of_getElem? (i := 1301) (by decide +kernel)) rfl
set_option maxRecDepth 100000 in
theorem ds_X8_canSet : yX8_canSet.cls ≠ "java/lang/invoke/MethodHandle" ∧ yX8_canSet.cls ≠ "java/lang/invoke/VarHandle" ∧ (parseMethodDescriptor yX8_canSet.desc).map (fun d => d.parameters.length) = some 0 := by decide +kernel
set_option maxRecDepth 100000 in
theorem im_X8_canSet : Cond.instanceMethod yX8_canSet ∈ tblG := tg1 (List.mem_of_getElem? (i := 1300) (by decide +kernel)) rfl
set_option maxRecDepth 100000 in
theorem se_X8_canSet : Cond.selects yX8_canSet.cls yX8_canSet yX8_canSet ∈ tblG := tg (List.mem_append_left _ (List.mem_of_getElem? (i := 139) (by decide +kernel))) rfl
set_option maxRecDepth 100000 in
theorem cd_X8_change : Cond.code yX8_change cX8_change 3 (some .int) ∈ tblG := tg1 (List.mem_of_getElem? (i := 1195) (by decide +kernel)) rfl
set_option maxRecDepth 100000 in
theorem ds_X8_change : yX8_change.cls ≠ "java/lang/invoke/MethodHandle" ∧ yX8_change.cls ≠ "java/lang/invoke/VarHandle" ∧ (parseMethodDescriptor yX8_change.desc).map (fun d => d.parameters.length) = some 1 := by decide +kernel
set_option maxRecDepth 100000 in
theorem im_X8_change : Cond.instanceMethod yX8_change ∈ tblG := tg1 (List.mem_of_getElem? (i := 1193) (by decide +kernel)) rfl
set_option maxRecDepth 100000 in
theorem se_X8_change : Cond.selects yX8_change.cls yX8_change yX8_change ∈ tblG := tg1 (List.mem_of_getElem? (i := 1194) (by decide +kernel)) rfl
set_option maxRecDepth 100000 in
theorem cd_X8_clear : Cond.code yX8_clear cX8_clear 2 none ∈ tblG := tg1 (List.mem_of_getElem? (i := 1021) (by decide +kernel)) rfl
set_option maxRecDepth 100000 in
theorem ds_X8_clear : yX8_clear.cls ≠ "java/lang/invoke/MethodHandle" ∧ yX8_clear.cls ≠ "java/lang/invoke/VarHandle" ∧ (parseMethodDescriptor yX8_clear.desc).map (fun d => d.parameters.length) = some 0 := by decide +kernel
set_option maxRecDepth 100000 in
theorem im_X8_clear : Cond.instanceMethod yX8_clear ∈ tblG := tg1 (List.mem_of_getElem? (i := 1020) (by decide +kernel)) rfl
set_option maxRecDepth 100000 in
theorem se_X8_clear : Cond.selects yX8_clear.cls yX8_clear yX8_clear ∈ tblG := tg (List.mem_append_left _ (List.mem_of_getElem? (i := 104) (by decide +kernel))) rfl
set_option maxRecDepth 100000 in
theorem cd_X8_couldBe : Cond.code yX8_couldBe cX8_couldBe 5 (some .int) ∈ tblG := tg1 (List.mem_of_getElem? (i := 1257) (by decide +kernel)) rfl
set_option maxRecDepth 100000 in
theorem ds_X8_couldBe : yX8_couldBe.cls ≠ "java/lang/invoke/MethodHandle" ∧ yX8_couldBe.cls ≠ "java/lang/invoke/VarHandle" ∧ (parseMethodDescriptor yX8_couldBe.desc).map (fun d => d.parameters.length) = some 0 := by decide +kernel
set_option maxRecDepth 100000 in
theorem im_X8_couldBe : Cond.instanceMethod yX8_couldBe ∈ tblG := tg1 (List.mem_of_getElem? (i := 1255) (by decide +kernel)) rfl
set_option maxRecDepth 100000 in
theorem se_X8_couldBe : Cond.selects yX8_couldBe.cls yX8_couldBe yX8_couldBe ∈ tblG := tg1 (List.mem_of_getElem? (i := 1256) (by decide +kernel)) rfl
set_option maxRecDepth 100000 in
theorem cd_X8_draw : Cond.code yX8_draw cX8_draw 1 (some .int) ∈ tblG := tg1 (List.mem_of_getElem? (i := 1157) (by decide +kernel)) rfl
set_option maxRecDepth 100000 in
theorem ds_X8_draw : yX8_draw.cls ≠ "java/lang/invoke/MethodHandle" ∧ yX8_draw.cls ≠ "java/lang/invoke/VarHandle" ∧ (parseMethodDescriptor yX8_draw.desc).map (fun d => d.parameters.length) = some 0 := by decide +kernel
set_option maxRecDepth 100000 in
theorem im_X8_draw : Cond.instanceMethod yX8_draw ∈ tblG := tg1 (List.mem_of_getElem? (i := 1155) (by decide +kernel)) rfl
set_option maxRecDepth 100000 in
theorem se_X8_draw : Cond.selects yX8_draw.cls yX8_draw yX8_draw ∈ tblG := tg1 (List.mem_of_getElem? (i := 1156) (by decide +kernel)) rfl
set_option maxRecDepth 100000 in
theorem cd_X8_drawOf : Cond.code yX8_drawOf cX8_drawOf 2 (some .int) ∈ tblG := tg1 (List.mem_of_getElem? (i := 1171) (by decide +kernel)) rfl
set_option maxRecDepth 100000 in
theorem ds_X8_drawOf : yX8_drawOf.cls ≠ "java/lang/invoke/MethodHandle" ∧ yX8_drawOf.cls ≠ "java/lang/invoke/VarHandle" ∧ (parseMethodDescriptor yX8_drawOf.desc).map (fun d => d.parameters.length) = some 1 := by decide +kernel
set_option maxRecDepth 100000 in
theorem im_X8_drawOf : Cond.instanceMethod yX8_drawOf ∈ tblG := tg1 (List.mem_of_getElem? (i := 1170) (by decide +kernel)) rfl
set_option maxRecDepth 100000 in
theorem se_X8_drawOf : Cond.selects yX8_drawOf.cls yX8_drawOf yX8_drawOf ∈ tblG := tg (List.mem_append_left _ (List.mem_of_getElem? (i := 128) (by decide +kernel))) rfl
set_option maxRecDepth 100000 in
theorem cd_X8_drawsOne : Cond.code yX8_drawsOne cX8_drawsOne 2 (some .int) ∈ tblG := tg1 (List.mem_of_getElem? (i := 1167) (by decide +kernel)) rfl
set_option maxRecDepth 100000 in
theorem ds_X8_drawsOne : yX8_drawsOne.cls ≠ "java/lang/invoke/MethodHandle" ∧ yX8_drawsOne.cls ≠ "java/lang/invoke/VarHandle" ∧ (parseMethodDescriptor yX8_drawsOne.desc).map (fun d => d.parameters.length) = some 0 := by decide +kernel
set_option maxRecDepth 100000 in
theorem im_X8_drawsOne : Cond.instanceMethod yX8_drawsOne ∈ tblG := tg1 (List.mem_of_getElem? (i := 1166) (by decide +kernel)) rfl
set_option maxRecDepth 100000 in
theorem se_X8_drawsOne : Cond.selects yX8_drawsOne.cls yX8_drawsOne yX8_drawsOne ∈ tblG := tg (List.mem_append_left _ (List.mem_of_getElem? (i := 127) (by decide +kernel))) rfl
set_option maxRecDepth 100000 in
theorem cd_X8_drift : Cond.code yX8_drift cX8_drift 3 (some .int) ∈ tblG := tg1 (List.mem_of_getElem? (i := 1219) (by decide +kernel)) rfl
set_option maxRecDepth 100000 in
theorem ds_X8_drift : yX8_drift.cls ≠ "java/lang/invoke/MethodHandle" ∧ yX8_drift.cls ≠ "java/lang/invoke/VarHandle" ∧ (parseMethodDescriptor yX8_drift.desc).map (fun d => d.parameters.length) = some 1 := by decide +kernel
set_option maxRecDepth 100000 in
theorem im_X8_drift : Cond.instanceMethod yX8_drift ∈ tblG := tg1 (List.mem_of_getElem? (i := 1217) (by decide +kernel)) rfl
set_option maxRecDepth 100000 in
theorem se_X8_drift : Cond.selects yX8_drift.cls yX8_drift yX8_drift ∈ tblG := tg1 (List.mem_of_getElem? (i := 1218) (by decide +kernel)) rfl
set_option maxRecDepth 100000 in
theorem cd_X8_far : Cond.code yX8_far cX8_far 5 (some .int) ∈ tblG := tg1 (List.mem_of_getElem? (i := 1152) (by decide +kernel)) rfl
set_option maxRecDepth 100000 in
theorem ds_X8_far : yX8_far.cls ≠ "java/lang/invoke/MethodHandle" ∧ yX8_far.cls ≠ "java/lang/invoke/VarHandle" ∧ (parseMethodDescriptor yX8_far.desc).map (fun d => d.parameters.length) = some 2 := by decide +kernel
set_option maxRecDepth 100000 in
theorem im_X8_far : Cond.instanceMethod yX8_far ∈ tblG := tg1 (List.mem_of_getElem? (i := 1150) (by decide +kernel)) rfl
set_option maxRecDepth 100000 in
theorem se_X8_far : Cond.selects yX8_far.cls yX8_far yX8_far ∈ tblG := tg1 (List.mem_of_getElem? (i := 1151) (by decide +kernel)) rfl
set_option maxRecDepth 100000 in
theorem cd_X8_farthest : Cond.code yX8_farthest cX8_farthest 5 (some .int) ∈ tblG := tg1 (List.mem_of_getElem? (i := 1317) (by decide +kernel)) rfl
set_option maxRecDepth 100000 in
theorem ds_X8_farthest : yX8_farthest.cls ≠ "java/lang/invoke/MethodHandle" ∧ yX8_farthest.cls ≠ "java/lang/invoke/VarHandle" ∧ (parseMethodDescriptor yX8_farthest.desc).map (fun d => d.parameters.length) = some 0 := by decide +kernel
set_option maxRecDepth 100000 in
theorem im_X8_farthest : Cond.instanceMethod yX8_farthest ∈ tblG := tg1 (List.mem_of_getElem? (i := 1316) (by decide +kernel)) rfl
set_option maxRecDepth 100000 in
theorem se_X8_farthest : Cond.selects yX8_farthest.cls yX8_farthest yX8_farthest ∈ tblG := tg (List.mem_append_left _ (List.mem_of_getElem? (i := 143) (by decide +kernel))) rfl
set_option maxRecDepth 100000 in
theorem cd_X8_fault : Cond.code yX8_fault cX8_fault 1 (some .int) ∈ tblG := tg1 (List.mem_of_getElem? (i := 1025) (by decide +kernel)) rfl
set_option maxRecDepth 100000 in
theorem ds_X8_fault : yX8_fault.cls ≠ "java/lang/invoke/MethodHandle" ∧ yX8_fault.cls ≠ "java/lang/invoke/VarHandle" ∧ (parseMethodDescriptor yX8_fault.desc).map (fun d => d.parameters.length) = some 0 := by decide +kernel
set_option maxRecDepth 100000 in
theorem im_X8_fault : Cond.instanceMethod yX8_fault ∈ tblG := tg1 (List.mem_of_getElem? (i := 1023) (by decide +kernel)) rfl
set_option maxRecDepth 100000 in
theorem se_X8_fault : Cond.selects yX8_fault.cls yX8_fault yX8_fault ∈ tblG := tg1 (List.mem_of_getElem? (i := 1024) (by decide +kernel)) rfl
set_option maxRecDepth 100000 in
theorem cd_X8_faults : Cond.code yX8_faults cX8_faults 3 (some .boolean) ∈ tblG := tg1 (List.mem_of_getElem? (i := 986) (by decide +kernel)) rfl
set_option maxRecDepth 100000 in
theorem ds_X8_faults : yX8_faults.cls ≠ "java/lang/invoke/MethodHandle" ∧ yX8_faults.cls ≠ "java/lang/invoke/VarHandle" ∧ (parseMethodDescriptor yX8_faults.desc).map (fun d => d.parameters.length) = some 2 := by decide +kernel
set_option maxRecDepth 100000 in
theorem im_X8_faults : Cond.instanceMethod yX8_faults ∈ tblG := tg1 (List.mem_of_getElem? (i := 985) (by decide +kernel)) rfl
set_option maxRecDepth 100000 in
theorem se_X8_faults : Cond.selects yX8_faults.cls yX8_faults yX8_faults ∈ tblG := tg (List.mem_append_left _ (List.mem_of_getElem? (i := 97) (by decide +kernel))) rfl
set_option maxRecDepth 100000 in
theorem cd_X8_feed : Cond.code yX8_feed cX8_feed 2 (some .int) ∈ tblG := tg1 (List.mem_of_getElem? (i := 960) (by decide +kernel)) rfl
set_option maxRecDepth 100000 in
theorem ds_X8_feed : yX8_feed.cls ≠ "java/lang/invoke/MethodHandle" ∧ yX8_feed.cls ≠ "java/lang/invoke/VarHandle" ∧ (parseMethodDescriptor yX8_feed.desc).map (fun d => d.parameters.length) = some 1 := by decide +kernel
set_option maxRecDepth 100000 in
theorem im_X8_feed : Cond.instanceMethod yX8_feed ∈ tblG := tg1 (List.mem_of_getElem? (i := 958) (by decide +kernel)) rfl
set_option maxRecDepth 100000 in
theorem se_X8_feed : Cond.selects yX8_feed.cls yX8_feed yX8_feed ∈ tblG := tg1 (List.mem_of_getElem? (i := 959) (by decide +kernel)) rfl
set_option maxRecDepth 100000 in
theorem cd_X8_first : Cond.code yX8_first cX8_first 2 (some .int) ∈ tblG := tg1 (List.mem_of_getElem? (i := 1100) (by decide +kernel)) rfl
set_option maxRecDepth 100000 in
theorem ds_X8_first : yX8_first.cls ≠ "java/lang/invoke/MethodHandle" ∧ yX8_first.cls ≠ "java/lang/invoke/VarHandle" ∧ (parseMethodDescriptor yX8_first.desc).map (fun d => d.parameters.length) = some 1 := by decide +kernel
set_option maxRecDepth 100000 in
theorem im_X8_first : Cond.instanceMethod yX8_first ∈ tblG := tg1 (List.mem_of_getElem? (i := 1098) (by decide +kernel)) rfl
set_option maxRecDepth 100000 in
theorem se_X8_first : Cond.selects yX8_first.cls yX8_first yX8_first ∈ tblG := tg1 (List.mem_of_getElem? (i := 1099) (by decide +kernel)) rfl
set_option maxRecDepth 100000 in
theorem cd_X8_fits : Cond.code yX8_fits cX8_fits 3 (some .boolean) ∈ tblG := tg1 (List.mem_of_getElem? (i := 1116) (by decide +kernel)) rfl
set_option maxRecDepth 100000 in
theorem ds_X8_fits : yX8_fits.cls ≠ "java/lang/invoke/MethodHandle" ∧ yX8_fits.cls ≠ "java/lang/invoke/VarHandle" ∧ (parseMethodDescriptor yX8_fits.desc).map (fun d => d.parameters.length) = some 0 := by decide +kernel
set_option maxRecDepth 100000 in
theorem im_X8_fits : Cond.instanceMethod yX8_fits ∈ tblG := tg1 (List.mem_of_getElem? (i := 1115) (by decide +kernel)) rfl
set_option maxRecDepth 100000 in
theorem se_X8_fits : Cond.selects yX8_fits.cls yX8_fits yX8_fits ∈ tblG := tg (List.mem_append_left _ (List.mem_of_getElem? (i := 120) (by decide +kernel))) rfl
set_option maxRecDepth 100000 in
theorem cd_X8_game : Cond.code yX8_game cX8_game 5 (some .int) ∈ tblG := tg1 (List.mem_of_getElem? (i := 970) (by decide +kernel)) rfl
set_option maxRecDepth 100000 in
theorem ds_X8_game : yX8_game.cls ≠ "java/lang/invoke/MethodHandle" ∧ yX8_game.cls ≠ "java/lang/invoke/VarHandle" ∧ (parseMethodDescriptor yX8_game.desc).map (fun d => d.parameters.length) = some 0 := by decide +kernel
set_option maxRecDepth 100000 in
theorem im_X8_game : Cond.instanceMethod yX8_game ∈ tblG := tg1 (List.mem_of_getElem? (i := 968) (by decide +kernel)) rfl
set_option maxRecDepth 100000 in
theorem se_X8_game : Cond.selects yX8_game.cls yX8_game yX8_game ∈ tblG := tg1 (List.mem_of_getElem? (i := 969) (by decide +kernel)) rfl
set_option maxRecDepth 100000 in
theorem cd_X8_give : Cond.code yX8_give cX8_give 3 (some .int) ∈ tblG := tg1 (List.mem_of_getElem? (i := 1187) (by decide +kernel)) rfl
set_option maxRecDepth 100000 in
theorem ds_X8_give : yX8_give.cls ≠ "java/lang/invoke/MethodHandle" ∧ yX8_give.cls ≠ "java/lang/invoke/VarHandle" ∧ (parseMethodDescriptor yX8_give.desc).map (fun d => d.parameters.length) = some 1 := by decide +kernel
set_option maxRecDepth 100000 in
theorem im_X8_give : Cond.instanceMethod yX8_give ∈ tblG := tg1 (List.mem_of_getElem? (i := 1185) (by decide +kernel)) rfl
set_option maxRecDepth 100000 in
theorem se_X8_give : Cond.selects yX8_give.cls yX8_give yX8_give ∈ tblG := tg1 (List.mem_of_getElem? (i := 1186) (by decide +kernel)) rfl
set_option maxRecDepth 100000 in
theorem cd_X8_goBack : Cond.code yX8_goBack cX8_goBack 3 (some .int) ∈ tblG := tg1 (List.mem_of_getElem? (i := 1293) (by decide +kernel)) rfl
set_option maxRecDepth 100000 in
theorem ds_X8_goBack : yX8_goBack.cls ≠ "java/lang/invoke/MethodHandle" ∧ yX8_goBack.cls ≠ "java/lang/invoke/VarHandle" ∧ (parseMethodDescriptor yX8_goBack.desc).map (fun d => d.parameters.length) = some 1 := by decide +kernel
set_option maxRecDepth 100000 in
theorem im_X8_goBack : Cond.instanceMethod yX8_goBack ∈ tblG := tg1 (List.mem_of_getElem? (i := 1291) (by decide +kernel)) rfl
set_option maxRecDepth 100000 in
theorem se_X8_goBack : Cond.selects yX8_goBack.cls yX8_goBack yX8_goBack ∈ tblG := tg1 (List.mem_of_getElem? (i := 1292) (by decide +kernel)) rfl
set_option maxRecDepth 100000 in
theorem cd_X8_goRows : Cond.code yX8_goRows cX8_goRows 5 none ∈ tblG := tg1 (List.mem_of_getElem? (i := 1104) (by decide +kernel)) rfl
set_option maxRecDepth 100000 in
theorem ds_X8_goRows : yX8_goRows.cls ≠ "java/lang/invoke/MethodHandle" ∧ yX8_goRows.cls ≠ "java/lang/invoke/VarHandle" ∧ (parseMethodDescriptor yX8_goRows.desc).map (fun d => d.parameters.length) = some 0 := by decide +kernel
set_option maxRecDepth 100000 in
theorem im_X8_goRows : Cond.instanceMethod yX8_goRows ∈ tblG := tg1 (List.mem_of_getElem? (i := 1103) (by decide +kernel)) rfl
set_option maxRecDepth 100000 in
theorem se_X8_goRows : Cond.selects yX8_goRows.cls yX8_goRows yX8_goRows ∈ tblG := tg (List.mem_append_left _ (List.mem_of_getElem? (i := 117) (by decide +kernel))) rfl
set_option maxRecDepth 100000 in
theorem cd_X8_hasRoom : Cond.code yX8_hasRoom cX8_hasRoom 2 (some .boolean) ∈ tblG := tg1 (List.mem_of_getElem? (i := 1211) (by decide +kernel)) rfl
set_option maxRecDepth 100000 in
theorem ds_X8_hasRoom : yX8_hasRoom.cls ≠ "java/lang/invoke/MethodHandle" ∧ yX8_hasRoom.cls ≠ "java/lang/invoke/VarHandle" ∧ (parseMethodDescriptor yX8_hasRoom.desc).map (fun d => d.parameters.length) = some 1 := by decide +kernel
set_option maxRecDepth 100000 in
theorem im_X8_hasRoom : Cond.instanceMethod yX8_hasRoom ∈ tblG := tg1 (List.mem_of_getElem? (i := 1210) (by decide +kernel)) rfl
set_option maxRecDepth 100000 in
theorem se_X8_hasRoom : Cond.selects yX8_hasRoom.cls yX8_hasRoom yX8_hasRoom ∈ tblG := tg (List.mem_append_left _ (List.mem_of_getElem? (i := 133) (by decide +kernel))) rfl
set_option maxRecDepth 100000 in
theorem cd_X8_in : Cond.code yX8_in cX8_in 6 (some .boolean) ∈ tblG := tg1 (List.mem_of_getElem? (i := 964) (by decide +kernel)) rfl
set_option maxRecDepth 100000 in
theorem ds_X8_in : yX8_in.cls ≠ "java/lang/invoke/MethodHandle" ∧ yX8_in.cls ≠ "java/lang/invoke/VarHandle" ∧ (parseMethodDescriptor yX8_in.desc).map (fun d => d.parameters.length) = some 3 := by decide +kernel
set_option maxRecDepth 100000 in
theorem st_X8_in : Cond.static yX8_in ∈ tblG := tg1 (List.mem_of_getElem? (i := 963) (by decide +kernel)) rfl
set_option maxRecDepth 100000 in
theorem cd_X8_insideOf : Cond.code yX8_insideOf cX8_insideOf 4 (some .int) ∈ tblG := tg1 (List.mem_of_getElem? (i := 1071) (by decide +kernel)) rfl
set_option maxRecDepth 100000 in
theorem ds_X8_insideOf : yX8_insideOf.cls ≠ "java/lang/invoke/MethodHandle" ∧ yX8_insideOf.cls ≠ "java/lang/invoke/VarHandle" ∧ (parseMethodDescriptor yX8_insideOf.desc).map (fun d => d.parameters.length) = some 1 := by decide +kernel
set_option maxRecDepth 100000 in
theorem im_X8_insideOf : Cond.instanceMethod yX8_insideOf ∈ tblG := tg1 (List.mem_of_getElem? (i := 1070) (by decide +kernel)) rfl
set_option maxRecDepth 100000 in
theorem se_X8_insideOf : Cond.selects yX8_insideOf.cls yX8_insideOf yX8_insideOf ∈ tblG := tg (List.mem_append_left _ (List.mem_of_getElem? (i := 112) (by decide +kernel))) rfl
set_option maxRecDepth 100000 in
theorem cd_X8_isIn : Cond.code yX8_isIn cX8_isIn 2 (some .boolean) ∈ tblG := tg1 (List.mem_of_getElem? (i := 1132) (by decide +kernel)) rfl
set_option maxRecDepth 100000 in
theorem ds_X8_isIn : yX8_isIn.cls ≠ "java/lang/invoke/MethodHandle" ∧ yX8_isIn.cls ≠ "java/lang/invoke/VarHandle" ∧ (parseMethodDescriptor yX8_isIn.desc).map (fun d => d.parameters.length) = some 2 := by decide +kernel
set_option maxRecDepth 100000 in
theorem st_X8_isIn : Cond.static yX8_isIn ∈ tblG := tg1 (List.mem_of_getElem? (i := 1131) (by decide +kernel)) rfl
set_option maxRecDepth 100000 in
theorem cd_X8_isInside : Cond.code yX8_isInside cX8_isInside 5 (some .boolean) ∈ tblG := tg1 (List.mem_of_getElem? (i := 1067) (by decide +kernel)) rfl
set_option maxRecDepth 100000 in
theorem ds_X8_isInside : yX8_isInside.cls ≠ "java/lang/invoke/MethodHandle" ∧ yX8_isInside.cls ≠ "java/lang/invoke/VarHandle" ∧ (parseMethodDescriptor yX8_isInside.desc).map (fun d => d.parameters.length) = some 2 := by decide +kernel
set_option maxRecDepth 100000 in
theorem im_X8_isInside : Cond.instanceMethod yX8_isInside ∈ tblG := tg1 (List.mem_of_getElem? (i := 1066) (by decide +kernel)) rfl
set_option maxRecDepth 100000 in
theorem se_X8_isInside : Cond.selects yX8_isInside.cls yX8_isInside yX8_isInside ∈ tblG := tg (List.mem_append_left _ (List.mem_of_getElem? (i := 111) (by decide +kernel))) rfl
set_option maxRecDepth 100000 in
theorem cd_X8_isLaid : Cond.code yX8_isLaid cX8_isLaid 2 (some .boolean) ∈ tblG := tg1 (List.mem_of_getElem? (i := 1096) (by decide +kernel)) rfl
set_option maxRecDepth 100000 in
theorem ds_X8_isLaid : yX8_isLaid.cls ≠ "java/lang/invoke/MethodHandle" ∧ yX8_isLaid.cls ≠ "java/lang/invoke/VarHandle" ∧ (parseMethodDescriptor yX8_isLaid.desc).map (fun d => d.parameters.length) = some 1 := by decide +kernel
set_option maxRecDepth 100000 in
theorem im_X8_isLaid : Cond.instanceMethod yX8_isLaid ∈ tblG := tg1 (List.mem_of_getElem? (i := 1095) (by decide +kernel)) rfl
set_option maxRecDepth 100000 in
theorem se_X8_isLaid : Cond.selects yX8_isLaid.cls yX8_isLaid yX8_isLaid ∈ tblG := tg (List.mem_append_left _ (List.mem_of_getElem? (i := 116) (by decide +kernel))) rfl
set_option maxRecDepth 100000 in
theorem cd_X8_isOneMore : Cond.code yX8_isOneMore cX8_isOneMore 4 (some .boolean) ∈ tblG := tg1 (List.mem_of_getElem? (i := 1148) (by decide +kernel)) rfl
set_option maxRecDepth 100000 in
theorem ds_X8_isOneMore : yX8_isOneMore.cls ≠ "java/lang/invoke/MethodHandle" ∧ yX8_isOneMore.cls ≠ "java/lang/invoke/VarHandle" ∧ (parseMethodDescriptor yX8_isOneMore.desc).map (fun d => d.parameters.length) = some 2 := by decide +kernel
set_option maxRecDepth 100000 in
theorem im_X8_isOneMore : Cond.instanceMethod yX8_isOneMore ∈ tblG := tg1 (List.mem_of_getElem? (i := 1147) (by decide +kernel)) rfl
set_option maxRecDepth 100000 in
theorem se_X8_isOneMore : Cond.selects yX8_isOneMore.cls yX8_isOneMore yX8_isOneMore ∈ tblG := tg (List.mem_append_left _ (List.mem_of_getElem? (i := 125) (by decide +kernel))) rfl
set_option maxRecDepth 100000 in
theorem cd_X8_isOneOther : Cond.code yX8_isOneOther cX8_isOneOther 5 (some .boolean) ∈ tblG := tg1 (List.mem_of_getElem? (i := 1144) (by decide +kernel)) rfl
set_option maxRecDepth 100000 in
theorem ds_X8_isOneOther : yX8_isOneOther.cls ≠ "java/lang/invoke/MethodHandle" ∧ yX8_isOneOther.cls ≠ "java/lang/invoke/VarHandle" ∧ (parseMethodDescriptor yX8_isOneOther.desc).map (fun d => d.parameters.length) = some 2 := by decide +kernel
set_option maxRecDepth 100000 in
theorem im_X8_isOneOther : Cond.instanceMethod yX8_isOneOther ∈ tblG := tg1 (List.mem_of_getElem? (i := 1143) (by decide +kernel)) rfl
set_option maxRecDepth 100000 in
theorem se_X8_isOneOther : Cond.selects yX8_isOneOther.cls yX8_isOneOther yX8_isOneOther ∈ tblG := tg (List.mem_append_left _ (List.mem_of_getElem? (i := 124) (by decide +kernel))) rfl
set_option maxRecDepth 100000 in
theorem cd_X8_isSort : Cond.code yX8_isSort cX8_isSort 1 (some .boolean) ∈ tblG := tg1 (List.mem_of_getElem? (i := 1032) (by decide +kernel)) rfl
set_option maxRecDepth 100000 in
theorem ds_X8_isSort : yX8_isSort.cls ≠ "java/lang/invoke/MethodHandle" ∧ yX8_isSort.cls ≠ "java/lang/invoke/VarHandle" ∧ (parseMethodDescriptor yX8_isSort.desc).map (fun d => d.parameters.length) = some 1 := by decide +kernel
set_option maxRecDepth 100000 in
theorem st_X8_isSort : Cond.static yX8_isSort ∈ tblG := tg1 (List.mem_of_getElem? (i := 1031) (by decide +kernel)) rfl
set_option maxRecDepth 100000 in
theorem cd_X8_isStep : Cond.code yX8_isStep cX8_isStep 4 (some .boolean) ∈ tblG := tg1 (List.mem_of_getElem? (i := 1140) (by decide +kernel)) rfl
set_option maxRecDepth 100000 in
theorem ds_X8_isStep : yX8_isStep.cls ≠ "java/lang/invoke/MethodHandle" ∧ yX8_isStep.cls ≠ "java/lang/invoke/VarHandle" ∧ (parseMethodDescriptor yX8_isStep.desc).map (fun d => d.parameters.length) = some 2 := by decide +kernel
set_option maxRecDepth 100000 in
theorem im_X8_isStep : Cond.instanceMethod yX8_isStep ∈ tblG := tg1 (List.mem_of_getElem? (i := 1139) (by decide +kernel)) rfl
set_option maxRecDepth 100000 in
theorem se_X8_isStep : Cond.selects yX8_isStep.cls yX8_isStep yX8_isStep ∈ tblG := tg (List.mem_append_left _ (List.mem_of_getElem? (i := 123) (by decide +kernel))) rfl
set_option maxRecDepth 100000 in
theorem cd_X8_isToldAlready : Cond.code yX8_isToldAlready cX8_isToldAlready 4 (some .boolean) ∈ tblG := tg1 (List.mem_of_getElem? (i := 1017) (by decide +kernel)) rfl
set_option maxRecDepth 100000 in
theorem ds_X8_isToldAlready : yX8_isToldAlready.cls ≠ "java/lang/invoke/MethodHandle" ∧ yX8_isToldAlready.cls ≠ "java/lang/invoke/VarHandle" ∧ (parseMethodDescriptor yX8_isToldAlready.desc).map (fun d => d.parameters.length) = some 0 := by decide +kernel
set_option maxRecDepth 100000 in
theorem im_X8_isToldAlready : Cond.instanceMethod yX8_isToldAlready ∈ tblG := tg1 (List.mem_of_getElem? (i := 1016) (by decide +kernel)) rfl
set_option maxRecDepth 100000 in
theorem se_X8_isToldAlready : Cond.selects yX8_isToldAlready.cls yX8_isToldAlready yX8_isToldAlready ∈ tblG := tg (List.mem_append_left _ (List.mem_of_getElem? (i := 103) (by decide +kernel))) rfl
set_option maxRecDepth 100000 in
theorem cd_X8_isWord : Cond.code yX8_isWord cX8_isWord 2 (some .boolean) ∈ tblG := tg1 (List.mem_of_getElem? (i := 1042) (by decide +kernel)) rfl
set_option maxRecDepth 100000 in
theorem ds_X8_isWord : yX8_isWord.cls ≠ "java/lang/invoke/MethodHandle" ∧ yX8_isWord.cls ≠ "java/lang/invoke/VarHandle" ∧ (parseMethodDescriptor yX8_isWord.desc).map (fun d => d.parameters.length) = some 1 := by decide +kernel
set_option maxRecDepth 100000 in
theorem im_X8_isWord : Cond.instanceMethod yX8_isWord ∈ tblG := tg1 (List.mem_of_getElem? (i := 1041) (by decide +kernel)) rfl
set_option maxRecDepth 100000 in
theorem se_X8_isWord : Cond.selects yX8_isWord.cls yX8_isWord yX8_isWord ∈ tblG := tg (List.mem_append_left _ (List.mem_of_getElem? (i := 105) (by decide +kernel))) rfl
set_option maxRecDepth 100000 in
theorem cd_X8_join : Cond.code yX8_join cX8_join 4 none ∈ tblG := tg1 (List.mem_of_getElem? (i := 1112) (by decide +kernel)) rfl
set_option maxRecDepth 100000 in
theorem ds_X8_join : yX8_join.cls ≠ "java/lang/invoke/MethodHandle" ∧ yX8_join.cls ≠ "java/lang/invoke/VarHandle" ∧ (parseMethodDescriptor yX8_join.desc).map (fun d => d.parameters.length) = some 2 := by decide +kernel
set_option maxRecDepth 100000 in
theorem im_X8_join : Cond.instanceMethod yX8_join ∈ tblG := tg1 (List.mem_of_getElem? (i := 1111) (by decide +kernel)) rfl
set_option maxRecDepth 100000 in
theorem se_X8_join : Cond.selects yX8_join.cls yX8_join yX8_join ∈ tblG := tg (List.mem_append_left _ (List.mem_of_getElem? (i := 119) (by decide +kernel))) rfl
set_option maxRecDepth 100000 in
theorem cd_X8_judge : Cond.code yX8_judge cX8_judge 4 (some .int) ∈ tblG := tg1 (List.mem_of_getElem? (i := 1277) (by decide +kernel)) rfl
set_option maxRecDepth 100000 in
theorem ds_X8_judge : yX8_judge.cls ≠ "java/lang/invoke/MethodHandle" ∧ yX8_judge.cls ≠ "java/lang/invoke/VarHandle" ∧ (parseMethodDescriptor yX8_judge.desc).map (fun d => d.parameters.length) = some 0 := by decide +kernel
set_option maxRecDepth 100000 in
theorem im_X8_judge : Cond.instanceMethod yX8_judge ∈ tblG := tg1 (List.mem_of_getElem? (i := 1275) (by decide +kernel)) rfl
set_option maxRecDepth 100000 in
theorem se_X8_judge : Cond.selects yX8_judge.cls yX8_judge yX8_judge ∈ tblG := tg1 (List.mem_of_getElem? (i := 1276) (by decide +kernel)) rfl
set_option maxRecDepth 100000 in
theorem cd_X8_judgeRow : Cond.code yX8_judgeRow cX8_judgeRow 3 none ∈ tblG := tg1 (List.mem_of_getElem? (i := 1108) (by decide +kernel)) rfl
set_option maxRecDepth 100000 in
theorem ds_X8_judgeRow : yX8_judgeRow.cls ≠ "java/lang/invoke/MethodHandle" ∧ yX8_judgeRow.cls ≠ "java/lang/invoke/VarHandle" ∧ (parseMethodDescriptor yX8_judgeRow.desc).map (fun d => d.parameters.length) = some 1 := by decide +kernel
set_option maxRecDepth 100000 in
theorem im_X8_judgeRow : Cond.instanceMethod yX8_judgeRow ∈ tblG := tg1 (List.mem_of_getElem? (i := 1107) (by decide +kernel)) rfl
set_option maxRecDepth 100000 in
theorem se_X8_judgeRow : Cond.selects yX8_judgeRow.cls yX8_judgeRow yX8_judgeRow ∈ tblG := tg (List.mem_append_left _ (List.mem_of_getElem? (i := 118) (by decide +kernel))) rfl
set_option maxRecDepth 100000 in
theorem cd_X8_keep : Cond.code yX8_keep cX8_keep 3 (some .int) ∈ tblG := tg1 (List.mem_of_getElem? (i := 1289) (by decide +kernel)) rfl
set_option maxRecDepth 100000 in
theorem ds_X8_keep : yX8_keep.cls ≠ "java/lang/invoke/MethodHandle" ∧ yX8_keep.cls ≠ "java/lang/invoke/VarHandle" ∧ (parseMethodDescriptor yX8_keep.desc).map (fun d => d.parameters.length) = some 1 := by decide +kernel
set_option maxRecDepth 100000 in
theorem im_X8_keep : Cond.instanceMethod yX8_keep ∈ tblG := tg1 (List.mem_of_getElem? (i := 1287) (by decide +kernel)) rfl
set_option maxRecDepth 100000 in
theorem se_X8_keep : Cond.selects yX8_keep.cls yX8_keep yX8_keep ∈ tblG := tg1 (List.mem_of_getElem? (i := 1288) (by decide +kernel)) rfl
set_option maxRecDepth 100000 in
theorem cd_X8_kinOf : Cond.code yX8_kinOf cX8_kinOf 4 (some .int) ∈ tblG := tg1 (List.mem_of_getElem? (i := 1059) (by decide +kernel)) rfl
set_option maxRecDepth 100000 in
theorem ds_X8_kinOf : yX8_kinOf.cls ≠ "java/lang/invoke/MethodHandle" ∧ yX8_kinOf.cls ≠ "java/lang/invoke/VarHandle" ∧ (parseMethodDescriptor yX8_kinOf.desc).map (fun d => d.parameters.length) = some 1 := by decide +kernel
set_option maxRecDepth 100000 in
theorem im_X8_kinOf : Cond.instanceMethod yX8_kinOf ∈ tblG := tg1 (List.mem_of_getElem? (i := 1058) (by decide +kernel)) rfl
set_option maxRecDepth 100000 in
theorem se_X8_kinOf : Cond.selects yX8_kinOf.cls yX8_kinOf yX8_kinOf ∈ tblG := tg (List.mem_append_left _ (List.mem_of_getElem? (i := 109) (by decide +kernel))) rfl
set_option maxRecDepth 100000 in
theorem cd_X8_lacksTurn : Cond.code yX8_lacksTurn cX8_lacksTurn 2 (some .int) ∈ tblG := tg1 (List.mem_of_getElem? (i := 1191) (by decide +kernel)) rfl
set_option maxRecDepth 100000 in
theorem ds_X8_lacksTurn : yX8_lacksTurn.cls ≠ "java/lang/invoke/MethodHandle" ∧ yX8_lacksTurn.cls ≠ "java/lang/invoke/VarHandle" ∧ (parseMethodDescriptor yX8_lacksTurn.desc).map (fun d => d.parameters.length) = some 1 := by decide +kernel
set_option maxRecDepth 100000 in
theorem im_X8_lacksTurn : Cond.instanceMethod yX8_lacksTurn ∈ tblG := tg1 (List.mem_of_getElem? (i := 1190) (by decide +kernel)) rfl
set_option maxRecDepth 100000 in
theorem se_X8_lacksTurn : Cond.selects yX8_lacksTurn.cls yX8_lacksTurn yX8_lacksTurn ∈ tblG := tg (List.mem_append_left _ (List.mem_of_getElem? (i := 131) (by decide +kernel))) rfl
set_option maxRecDepth 100000 in
theorem cd_X8_ladder : Cond.code yX8_ladder cX8_ladder 6 (some .int) ∈ tblG := tg1 (List.mem_of_getElem? (i := 1125) (by decide +kernel)) rfl
set_option maxRecDepth 100000 in
theorem ds_X8_ladder : yX8_ladder.cls ≠ "java/lang/invoke/MethodHandle" ∧ yX8_ladder.cls ≠ "java/lang/invoke/VarHandle" ∧ (parseMethodDescriptor yX8_ladder.desc).map (fun d => d.parameters.length) = some 3 := by decide +kernel
set_option maxRecDepth 100000 in
theorem im_X8_ladder : Cond.instanceMethod yX8_ladder ∈ tblG := tg1 (List.mem_of_getElem? (i := 1123) (by decide +kernel)) rfl
set_option maxRecDepth 100000 in
theorem se_X8_ladder : Cond.selects yX8_ladder.cls yX8_ladder yX8_ladder ∈ tblG := tg1 (List.mem_of_getElem? (i := 1124) (by decide +kernel)) rfl
set_option maxRecDepth 100000 in
theorem cd_X8_laid : Cond.code yX8_laid cX8_laid 3 (some .int) ∈ tblG := tg1 (List.mem_of_getElem? (i := 1092) (by decide +kernel)) rfl
set_option maxRecDepth 100000 in
theorem ds_X8_laid : yX8_laid.cls ≠ "java/lang/invoke/MethodHandle" ∧ yX8_laid.cls ≠ "java/lang/invoke/VarHandle" ∧ (parseMethodDescriptor yX8_laid.desc).map (fun d => d.parameters.length) = some 2 := by decide +kernel
set_option maxRecDepth 100000 in
theorem im_X8_laid : Cond.instanceMethod yX8_laid ∈ tblG := tg1 (List.mem_of_getElem? (i := 1090) (by decide +kernel)) rfl
set_option maxRecDepth 100000 in
theorem se_X8_laid : Cond.selects yX8_laid.cls yX8_laid yX8_laid ∈ tblG := tg1 (List.mem_of_getElem? (i := 1091) (by decide +kernel)) rfl
set_option maxRecDepth 100000 in
theorem cd_X8_lay : Cond.code yX8_lay cX8_lay 2 (some .int) ∈ tblG := tg1 (List.mem_of_getElem? (i := 1199) (by decide +kernel)) rfl
set_option maxRecDepth 100000 in
theorem ds_X8_lay : yX8_lay.cls ≠ "java/lang/invoke/MethodHandle" ∧ yX8_lay.cls ≠ "java/lang/invoke/VarHandle" ∧ (parseMethodDescriptor yX8_lay.desc).map (fun d => d.parameters.length) = some 1 := by decide +kernel
set_option maxRecDepth 100000 in
theorem im_X8_lay : Cond.instanceMethod yX8_lay ∈ tblG := tg1 (List.mem_of_getElem? (i := 1197) (by decide +kernel)) rfl
set_option maxRecDepth 100000 in
theorem se_X8_lay : Cond.selects yX8_lay.cls yX8_lay yX8_lay ∈ tblG := tg1 (List.mem_of_getElem? (i := 1198) (by decide +kernel)) rfl
set_option maxRecDepth 100000 in
theorem cd_X8_lays : Cond.code yX8_lays cX8_lays 6 none ∈ tblG := tg1 (List.mem_of_getElem? (i := 1203) (by decide +kernel)) rfl
set_option maxRecDepth 100000 in
theorem ds_X8_lays : yX8_lays.cls ≠ "java/lang/invoke/MethodHandle" ∧ yX8_lays.cls ≠ "java/lang/invoke/VarHandle" ∧ (parseMethodDescriptor yX8_lays.desc).map (fun d => d.parameters.length) = some 1 := by decide +kernel
set_option maxRecDepth 100000 in
theorem im_X8_lays : Cond.instanceMethod yX8_lays ∈ tblG := tg1 (List.mem_of_getElem? (i := 1202) (by decide +kernel)) rfl
set_option maxRecDepth 100000 in
theorem se_X8_lays : Cond.selects yX8_lays.cls yX8_lays yX8_lays ∈ tblG := tg (List.mem_append_left _ (List.mem_of_getElem? (i := 132) (by decide +kernel))) rfl
set_option maxRecDepth 100000 in
theorem cd_X8_letter : Cond.code yX8_letter cX8_letter 1 (some .int) ∈ tblG := tg1 (List.mem_of_getElem? (i := 974) (by decide +kernel)) rfl
set_option maxRecDepth 100000 in
theorem ds_X8_letter : yX8_letter.cls ≠ "java/lang/invoke/MethodHandle" ∧ yX8_letter.cls ≠ "java/lang/invoke/VarHandle" ∧ (parseMethodDescriptor yX8_letter.desc).map (fun d => d.parameters.length) = some 0 := by decide +kernel
set_option maxRecDepth 100000 in
theorem im_X8_letter : Cond.instanceMethod yX8_letter ∈ tblG := tg1 (List.mem_of_getElem? (i := 973) (by decide +kernel)) rfl
set_option maxRecDepth 100000 in
theorem se_X8_letter : Cond.selects yX8_letter.cls yX8_letter yX8_letter ∈ tblG := tg (List.mem_append_left _ (List.mem_of_getElem? (i := 94) (by decide +kernel))) rfl
set_option maxRecDepth 100000 in
theorem cd_X8_letters : Cond.code yX8_letters cX8_letters 3 (some .int) ∈ tblG := tg1 (List.mem_of_getElem? (i := 1029) (by decide +kernel)) rfl
set_option maxRecDepth 100000 in
theorem ds_X8_letters : yX8_letters.cls ≠ "java/lang/invoke/MethodHandle" ∧ yX8_letters.cls ≠ "java/lang/invoke/VarHandle" ∧ (parseMethodDescriptor yX8_letters.desc).map (fun d => d.parameters.length) = some 2 := by decide +kernel
set_option maxRecDepth 100000 in
theorem im_X8_letters : Cond.instanceMethod yX8_letters ∈ tblG := tg1 (List.mem_of_getElem? (i := 1027) (by decide +kernel)) rfl
set_option maxRecDepth 100000 in
theorem se_X8_letters : Cond.selects yX8_letters.cls yX8_letters yX8_letters ∈ tblG := tg1 (List.mem_of_getElem? (i := 1028) (by decide +kernel)) rfl
set_option maxRecDepth 100000 in
theorem cd_X8_luck : Cond.code yX8_luck cX8_luck 6 (some .int) ∈ tblG := tg1 (List.mem_of_getElem? (i := 1245) (by decide +kernel)) rfl
set_option maxRecDepth 100000 in
theorem ds_X8_luck : yX8_luck.cls ≠ "java/lang/invoke/MethodHandle" ∧ yX8_luck.cls ≠ "java/lang/invoke/VarHandle" ∧ (parseMethodDescriptor yX8_luck.desc).map (fun d => d.parameters.length) = some 2 := by decide +kernel
set_option maxRecDepth 100000 in
theorem im_X8_luck : Cond.instanceMethod yX8_luck ∈ tblG := tg1 (List.mem_of_getElem? (i := 1243) (by decide +kernel)) rfl
set_option maxRecDepth 100000 in
theorem se_X8_luck : Cond.selects yX8_luck.cls yX8_luck yX8_luck ∈ tblG := tg1 (List.mem_of_getElem? (i := 1244) (by decide +kernel)) rfl
set_option maxRecDepth 100000 in
theorem cd_X8_missingOf : Cond.code yX8_missingOf cX8_missingOf 5 (some .int) ∈ tblG := tg1 (List.mem_of_getElem? (i := 1055) (by decide +kernel)) rfl
set_option maxRecDepth 100000 in
theorem ds_X8_missingOf : yX8_missingOf.cls ≠ "java/lang/invoke/MethodHandle" ∧ yX8_missingOf.cls ≠ "java/lang/invoke/VarHandle" ∧ (parseMethodDescriptor yX8_missingOf.desc).map (fun d => d.parameters.length) = some 1 := by decide +kernel
set_option maxRecDepth 100000 in
theorem im_X8_missingOf : Cond.instanceMethod yX8_missingOf ∈ tblG := tg1 (List.mem_of_getElem? (i := 1054) (by decide +kernel)) rfl
set_option maxRecDepth 100000 in
theorem se_X8_missingOf : Cond.selects yX8_missingOf.cls yX8_missingOf yX8_missingOf ∈ tblG := tg (List.mem_append_left _ (List.mem_of_getElem? (i := 108) (by decide +kernel))) rfl
set_option maxRecDepth 100000 in
theorem cd_X8_moreOf : Cond.code yX8_moreOf cX8_moreOf 7 (some .int) ∈ tblG := tg1 (List.mem_of_getElem? (i := 1241) (by decide +kernel)) rfl
set_option maxRecDepth 100000 in
theorem ds_X8_moreOf : yX8_moreOf.cls ≠ "java/lang/invoke/MethodHandle" ∧ yX8_moreOf.cls ≠ "java/lang/invoke/VarHandle" ∧ (parseMethodDescriptor yX8_moreOf.desc).map (fun d => d.parameters.length) = some 2 := by decide +kernel
set_option maxRecDepth 100000 in
theorem im_X8_moreOf : Cond.instanceMethod yX8_moreOf ∈ tblG := tg1 (List.mem_of_getElem? (i := 1240) (by decide +kernel)) rfl
set_option maxRecDepth 100000 in
theorem se_X8_moreOf : Cond.selects yX8_moreOf.cls yX8_moreOf yX8_moreOf ∈ tblG := tg (List.mem_append_left _ (List.mem_of_getElem? (i := 137) (by decide +kernel))) rfl
set_option maxRecDepth 100000 in
theorem cd_X8_move : Cond.code yX8_move cX8_move 4 none ∈ tblG := tg1 (List.mem_of_getElem? (i := 1183) (by decide +kernel)) rfl
set_option maxRecDepth 100000 in
theorem ds_X8_move : yX8_move.cls ≠ "java/lang/invoke/MethodHandle" ∧ yX8_move.cls ≠ "java/lang/invoke/VarHandle" ∧ (parseMethodDescriptor yX8_move.desc).map (fun d => d.parameters.length) = some 3 := by decide +kernel
set_option maxRecDepth 100000 in
theorem im_X8_move : Cond.instanceMethod yX8_move ∈ tblG := tg1 (List.mem_of_getElem? (i := 1182) (by decide +kernel)) rfl
set_option maxRecDepth 100000 in
theorem se_X8_move : Cond.selects yX8_move.cls yX8_move yX8_move ∈ tblG := tg (List.mem_append_left _ (List.mem_of_getElem? (i := 130) (by decide +kernel))) rfl
set_option maxRecDepth 100000 in
theorem cd_X8_needs : Cond.code yX8_needs cX8_needs 3 (some .int) ∈ tblG := tg1 (List.mem_of_getElem? (i := 1120) (by decide +kernel)) rfl
set_option maxRecDepth 100000 in
theorem ds_X8_needs : yX8_needs.cls ≠ "java/lang/invoke/MethodHandle" ∧ yX8_needs.cls ≠ "java/lang/invoke/VarHandle" ∧ (parseMethodDescriptor yX8_needs.desc).map (fun d => d.parameters.length) = some 2 := by decide +kernel
set_option maxRecDepth 100000 in
theorem im_X8_needs : Cond.instanceMethod yX8_needs ∈ tblG := tg1 (List.mem_of_getElem? (i := 1118) (by decide +kernel)) rfl
set_option maxRecDepth 100000 in
theorem se_X8_needs : Cond.selects yX8_needs.cls yX8_needs yX8_needs ∈ tblG := tg1 (List.mem_of_getElem? (i := 1119) (by decide +kernel)) rfl
set_option maxRecDepth 100000 in
theorem cd_X8_note : Cond.code yX8_note cX8_note 2 none ∈ tblG := tg1 (List.mem_of_getElem? (i := 1163) (by decide +kernel)) rfl
set_option maxRecDepth 100000 in
theorem ds_X8_note : yX8_note.cls ≠ "java/lang/invoke/MethodHandle" ∧ yX8_note.cls ≠ "java/lang/invoke/VarHandle" ∧ (parseMethodDescriptor yX8_note.desc).map (fun d => d.parameters.length) = some 0 := by decide +kernel
set_option maxRecDepth 100000 in
theorem im_X8_note : Cond.instanceMethod yX8_note ∈ tblG := tg1 (List.mem_of_getElem? (i := 1162) (by decide +kernel)) rfl
set_option maxRecDepth 100000 in
theorem se_X8_note : Cond.selects yX8_note.cls yX8_note yX8_note ∈ tblG := tg (List.mem_append_left _ (List.mem_of_getElem? (i := 126) (by decide +kernel))) rfl
set_option maxRecDepth 100000 in
theorem cd_X8_oddsOf : Cond.code yX8_oddsOf cX8_oddsOf 5 (some .int) ∈ tblG := tg1 (List.mem_of_getElem? (i := 1075) (by decide +kernel)) rfl
set_option maxRecDepth 100000 in
theorem ds_X8_oddsOf : yX8_oddsOf.cls ≠ "java/lang/invoke/MethodHandle" ∧ yX8_oddsOf.cls ≠ "java/lang/invoke/VarHandle" ∧ (parseMethodDescriptor yX8_oddsOf.desc).map (fun d => d.parameters.length) = some 1 := by decide +kernel
set_option maxRecDepth 100000 in
theorem im_X8_oddsOf : Cond.instanceMethod yX8_oddsOf ∈ tblG := tg1 (List.mem_of_getElem? (i := 1074) (by decide +kernel)) rfl
set_option maxRecDepth 100000 in
theorem se_X8_oddsOf : Cond.selects yX8_oddsOf.cls yX8_oddsOf yX8_oddsOf ∈ tblG := tg (List.mem_append_left _ (List.mem_of_getElem? (i := 113) (by decide +kernel))) rfl
set_option maxRecDepth 100000 in
theorem cd_X8_ones : Cond.code yX8_ones cX8_ones 3 (some .int) ∈ tblG := tg1 (List.mem_of_getElem? (i := 1265) (by decide +kernel)) rfl
set_option maxRecDepth 100000 in
theorem ds_X8_ones : yX8_ones.cls ≠ "java/lang/invoke/MethodHandle" ∧ yX8_ones.cls ≠ "java/lang/invoke/VarHandle" ∧ (parseMethodDescriptor yX8_ones.desc).map (fun d => d.parameters.length) = some 1 := by decide +kernel
set_option maxRecDepth 100000 in
theorem st_X8_ones : Cond.static yX8_ones ∈ tblG := tg1 (List.mem_of_getElem? (i := 1264) (by decide +kernel)) rfl
set_option maxRecDepth 100000 in
theorem cd_X8_partBy : Cond.code yX8_partBy cX8_partBy 7 (some .int) ∈ tblG := tg1 (List.mem_of_getElem? (i := 1269) (by decide +kernel)) rfl
set_option maxRecDepth 100000 in
theorem ds_X8_partBy : yX8_partBy.cls ≠ "java/lang/invoke/MethodHandle" ∧ yX8_partBy.cls ≠ "java/lang/invoke/VarHandle" ∧ (parseMethodDescriptor yX8_partBy.desc).map (fun d => d.parameters.length) = some 2 := by decide +kernel
set_option maxRecDepth 100000 in
theorem im_X8_partBy : Cond.instanceMethod yX8_partBy ∈ tblG := tg1 (List.mem_of_getElem? (i := 1268) (by decide +kernel)) rfl
set_option maxRecDepth 100000 in
theorem se_X8_partBy : Cond.selects yX8_partBy.cls yX8_partBy yX8_partBy ∈ tblG := tg (List.mem_append_left _ (List.mem_of_getElem? (i := 138) (by decide +kernel))) rfl
set_option maxRecDepth 100000 in
theorem cd_X8_readBag : Cond.code yX8_readBag cX8_readBag 2 (some .boolean) ∈ tblG := tg1 (List.mem_of_getElem? (i := 1004) (by decide +kernel)) rfl
set_option maxRecDepth 100000 in
theorem ds_X8_readBag : yX8_readBag.cls ≠ "java/lang/invoke/MethodHandle" ∧ yX8_readBag.cls ≠ "java/lang/invoke/VarHandle" ∧ (parseMethodDescriptor yX8_readBag.desc).map (fun d => d.parameters.length) = some 0 := by decide +kernel
set_option maxRecDepth 100000 in
theorem im_X8_readBag : Cond.instanceMethod yX8_readBag ∈ tblG := tg1 (List.mem_of_getElem? (i := 1003) (by decide +kernel)) rfl
set_option maxRecDepth 100000 in
theorem se_X8_readBag : Cond.selects yX8_readBag.cls yX8_readBag yX8_readBag ∈ tblG := tg (List.mem_append_left _ (List.mem_of_getElem? (i := 101) (by decide +kernel))) rfl
set_option maxRecDepth 100000 in
theorem cd_X8_readClause : Cond.code yX8_readClause cX8_readClause 2 (some .boolean) ∈ tblG := tg1 (List.mem_of_getElem? (i := 1000) (by decide +kernel)) rfl
set_option maxRecDepth 100000 in
theorem ds_X8_readClause : yX8_readClause.cls ≠ "java/lang/invoke/MethodHandle" ∧ yX8_readClause.cls ≠ "java/lang/invoke/VarHandle" ∧ (parseMethodDescriptor yX8_readClause.desc).map (fun d => d.parameters.length) = some 0 := by decide +kernel
set_option maxRecDepth 100000 in
theorem im_X8_readClause : Cond.instanceMethod yX8_readClause ∈ tblG := tg1 (List.mem_of_getElem? (i := 999) (by decide +kernel)) rfl
set_option maxRecDepth 100000 in
theorem se_X8_readClause : Cond.selects yX8_readClause.cls yX8_readClause yX8_readClause ∈ tblG := tg (List.mem_append_left _ (List.mem_of_getElem? (i := 100) (by decide +kernel))) rfl
set_option maxRecDepth 100000 in
theorem cd_X8_readGame : Cond.code yX8_readGame cX8_readGame 2 (some .boolean) ∈ tblG := tg1 (List.mem_of_getElem? (i := 978) (by decide +kernel)) rfl
set_option maxRecDepth 100000 in
theorem ds_X8_readGame : yX8_readGame.cls ≠ "java/lang/invoke/MethodHandle" ∧ yX8_readGame.cls ≠ "java/lang/invoke/VarHandle" ∧ (parseMethodDescriptor yX8_readGame.desc).map (fun d => d.parameters.length) = some 0 := by decide +kernel
set_option maxRecDepth 100000 in
theorem im_X8_readGame : Cond.instanceMethod yX8_readGame ∈ tblG := tg1 (List.mem_of_getElem? (i := 977) (by decide +kernel)) rfl
set_option maxRecDepth 100000 in
theorem se_X8_readGame : Cond.selects yX8_readGame.cls yX8_readGame yX8_readGame ∈ tblG := tg (List.mem_append_left _ (List.mem_of_getElem? (i := 95) (by decide +kernel))) rfl
set_option maxRecDepth 100000 in
theorem cd_X8_readValues : Cond.code yX8_readValues cX8_readValues 2 (some .boolean) ∈ tblG := tg1 (List.mem_of_getElem? (i := 990) (by decide +kernel)) rfl
set_option maxRecDepth 100000 in
theorem ds_X8_readValues : yX8_readValues.cls ≠ "java/lang/invoke/MethodHandle" ∧ yX8_readValues.cls ≠ "java/lang/invoke/VarHandle" ∧ (parseMethodDescriptor yX8_readValues.desc).map (fun d => d.parameters.length) = some 0 := by decide +kernel
set_option maxRecDepth 100000 in
theorem im_X8_readValues : Cond.instanceMethod yX8_readValues ∈ tblG := tg1 (List.mem_of_getElem? (i := 989) (by decide +kernel)) rfl
set_option maxRecDepth 100000 in
theorem se_X8_readValues : Cond.selects yX8_readValues.cls yX8_readValues yX8_readValues ∈ tblG := tg (List.mem_append_left _ (List.mem_of_getElem? (i := 98) (by decide +kernel))) rfl
set_option maxRecDepth 100000 in
theorem cd_X8_readWord : Cond.code yX8_readWord cX8_readWord 2 (some .boolean) ∈ tblG := tg1 (List.mem_of_getElem? (i := 1013) (by decide +kernel)) rfl
set_option maxRecDepth 100000 in
theorem ds_X8_readWord : yX8_readWord.cls ≠ "java/lang/invoke/MethodHandle" ∧ yX8_readWord.cls ≠ "java/lang/invoke/VarHandle" ∧ (parseMethodDescriptor yX8_readWord.desc).map (fun d => d.parameters.length) = some 0 := by decide +kernel
set_option maxRecDepth 100000 in
theorem im_X8_readWord : Cond.instanceMethod yX8_readWord ∈ tblG := tg1 (List.mem_of_getElem? (i := 1012) (by decide +kernel)) rfl
set_option maxRecDepth 100000 in
theorem se_X8_readWord : Cond.selects yX8_readWord.cls yX8_readWord yX8_readWord ∈ tblG := tg (List.mem_append_left _ (List.mem_of_getElem? (i := 102) (by decide +kernel))) rfl
set_option maxRecDepth 100000 in
theorem cd_X8_readsAlike : Cond.code yX8_readsAlike cX8_readsAlike 4 (some .boolean) ∈ tblG := tg1 (List.mem_of_getElem? (i := 1051) (by decide +kernel)) rfl
set_option maxRecDepth 100000 in
theorem ds_X8_readsAlike : yX8_readsAlike.cls ≠ "java/lang/invoke/MethodHandle" ∧ yX8_readsAlike.cls ≠ "java/lang/invoke/VarHandle" ∧ (parseMethodDescriptor yX8_readsAlike.desc).map (fun d => d.parameters.length) = some 1 := by decide +kernel
set_option maxRecDepth 100000 in
theorem im_X8_readsAlike : Cond.instanceMethod yX8_readsAlike ∈ tblG := tg1 (List.mem_of_getElem? (i := 1050) (by decide +kernel)) rfl
set_option maxRecDepth 100000 in
theorem se_X8_readsAlike : Cond.selects yX8_readsAlike.cls yX8_readsAlike yX8_readsAlike ∈ tblG := tg (List.mem_append_left _ (List.mem_of_getElem? (i := 107) (by decide +kernel))) rfl
set_option maxRecDepth 100000 in
theorem cd_X8_right : Cond.code yX8_right cX8_right 4 (some .int) ∈ tblG := tg1 (List.mem_of_getElem? (i := 1233) (by decide +kernel)) rfl
set_option maxRecDepth 100000 in
theorem ds_X8_right : yX8_right.cls ≠ "java/lang/invoke/MethodHandle" ∧ yX8_right.cls ≠ "java/lang/invoke/VarHandle" ∧ (parseMethodDescriptor yX8_right.desc).map (fun d => d.parameters.length) = some 3 := by decide +kernel
set_option maxRecDepth 100000 in
theorem im_X8_right : Cond.instanceMethod yX8_right ∈ tblG := tg1 (List.mem_of_getElem? (i := 1231) (by decide +kernel)) rfl
set_option maxRecDepth 100000 in
theorem se_X8_right : Cond.selects yX8_right.cls yX8_right yX8_right ∈ tblG := tg1 (List.mem_of_getElem? (i := 1232) (by decide +kernel)) rfl
set_option maxRecDepth 100000 in
theorem cd_X8_rightOf : Cond.code yX8_rightOf cX8_rightOf 5 (some .int) ∈ tblG := tg1 (List.mem_of_getElem? (i := 1237) (by decide +kernel)) rfl
set_option maxRecDepth 100000 in
theorem ds_X8_rightOf : yX8_rightOf.cls ≠ "java/lang/invoke/MethodHandle" ∧ yX8_rightOf.cls ≠ "java/lang/invoke/VarHandle" ∧ (parseMethodDescriptor yX8_rightOf.desc).map (fun d => d.parameters.length) = some 2 := by decide +kernel
set_option maxRecDepth 100000 in
theorem im_X8_rightOf : Cond.instanceMethod yX8_rightOf ∈ tblG := tg1 (List.mem_of_getElem? (i := 1236) (by decide +kernel)) rfl
set_option maxRecDepth 100000 in
theorem se_X8_rightOf : Cond.selects yX8_rightOf.cls yX8_rightOf yX8_rightOf ∈ tblG := tg (List.mem_append_left _ (List.mem_of_getElem? (i := 136) (by decide +kernel))) rfl
set_option maxRecDepth 100000 in
theorem cd_X8_say : Cond.code yX8_say cX8_say 4 (some .int) ∈ tblG := tg1 (List.mem_of_getElem? (i := 1252) (by decide +kernel)) rfl
set_option maxRecDepth 100000 in
theorem ds_X8_say : yX8_say.cls ≠ "java/lang/invoke/MethodHandle" ∧ yX8_say.cls ≠ "java/lang/invoke/VarHandle" ∧ (parseMethodDescriptor yX8_say.desc).map (fun d => d.parameters.length) = some 3 := by decide +kernel
set_option maxRecDepth 100000 in
theorem im_X8_say : Cond.instanceMethod yX8_say ∈ tblG := tg1 (List.mem_of_getElem? (i := 1250) (by decide +kernel)) rfl
set_option maxRecDepth 100000 in
theorem se_X8_say : Cond.selects yX8_say.cls yX8_say yX8_say ∈ tblG := tg1 (List.mem_of_getElem? (i := 1251) (by decide +kernel)) rfl
set_option maxRecDepth 100000 in
theorem cd_X8_seed : Cond.code yX8_seed cX8_seed 3 (some .int) ∈ tblG := tg1 (List.mem_of_getElem? (i := 1285) (by decide +kernel)) rfl
set_option maxRecDepth 100000 in
theorem ds_X8_seed : yX8_seed.cls ≠ "java/lang/invoke/MethodHandle" ∧ yX8_seed.cls ≠ "java/lang/invoke/VarHandle" ∧ (parseMethodDescriptor yX8_seed.desc).map (fun d => d.parameters.length) = some 1 := by decide +kernel
set_option maxRecDepth 100000 in
theorem im_X8_seed : Cond.instanceMethod yX8_seed ∈ tblG := tg1 (List.mem_of_getElem? (i := 1283) (by decide +kernel)) rfl
set_option maxRecDepth 100000 in
theorem se_X8_seed : Cond.selects yX8_seed.cls yX8_seed yX8_seed ∈ tblG := tg1 (List.mem_of_getElem? (i := 1284) (by decide +kernel)) rfl
set_option maxRecDepth 100000 in
theorem cd_X8_sortAt : Cond.code yX8_sortAt cX8_sortAt 5 (some .int) ∈ tblG := tg1 (List.mem_of_getElem? (i := 1179) (by decide +kernel)) rfl
set_option maxRecDepth 100000 in
theorem ds_X8_sortAt : yX8_sortAt.cls ≠ "java/lang/invoke/MethodHandle" ∧ yX8_sortAt.cls ≠ "java/lang/invoke/VarHandle" ∧ (parseMethodDescriptor yX8_sortAt.desc).map (fun d => d.parameters.length) = some 2 := by decide +kernel
set_option maxRecDepth 100000 in
theorem im_X8_sortAt : Cond.instanceMethod yX8_sortAt ∈ tblG := tg1 (List.mem_of_getElem? (i := 1178) (by decide +kernel)) rfl
set_option maxRecDepth 100000 in
theorem se_X8_sortAt : Cond.selects yX8_sortAt.cls yX8_sortAt yX8_sortAt ∈ tblG := tg (List.mem_append_left _ (List.mem_of_getElem? (i := 129) (by decide +kernel))) rfl
set_option maxRecDepth 100000 in
theorem cd_X8_sortBy : Cond.code yX8_sortBy cX8_sortBy 1 (some .int) ∈ tblG := tg1 (List.mem_of_getElem? (i := 1007) (by decide +kernel)) rfl
set_option maxRecDepth 100000 in
theorem ds_X8_sortBy : yX8_sortBy.cls ≠ "java/lang/invoke/MethodHandle" ∧ yX8_sortBy.cls ≠ "java/lang/invoke/VarHandle" ∧ (parseMethodDescriptor yX8_sortBy.desc).map (fun d => d.parameters.length) = some 1 := by decide +kernel
set_option maxRecDepth 100000 in
theorem st_X8_sortBy : Cond.static yX8_sortBy ∈ tblG := tg1 (List.mem_of_getElem? (i := 1006) (by decide +kernel)) rfl
set_option maxRecDepth 100000 in
theorem cd_X8_spelt : Cond.code yX8_spelt cX8_spelt 3 (some .int) ∈ tblG := tg1 (List.mem_of_getElem? (i := 1087) (by decide +kernel)) rfl
set_option maxRecDepth 100000 in
theorem ds_X8_spelt : yX8_spelt.cls ≠ "java/lang/invoke/MethodHandle" ∧ yX8_spelt.cls ≠ "java/lang/invoke/VarHandle" ∧ (parseMethodDescriptor yX8_spelt.desc).map (fun d => d.parameters.length) = some 2 := by decide +kernel
set_option maxRecDepth 100000 in
theorem im_X8_spelt : Cond.instanceMethod yX8_spelt ∈ tblG := tg1 (List.mem_of_getElem? (i := 1085) (by decide +kernel)) rfl
set_option maxRecDepth 100000 in
theorem se_X8_spelt : Cond.selects yX8_spelt.cls yX8_spelt yX8_spelt ∈ tblG := tg1 (List.mem_of_getElem? (i := 1086) (by decide +kernel)) rfl
set_option maxRecDepth 100000 in
theorem cd_X8_spread : Cond.code yX8_spread cX8_spread 5 (some .int) ∈ tblG := tg1 (List.mem_of_getElem? (i := 1136) (by decide +kernel)) rfl
set_option maxRecDepth 100000 in
theorem ds_X8_spread : yX8_spread.cls ≠ "java/lang/invoke/MethodHandle" ∧ yX8_spread.cls ≠ "java/lang/invoke/VarHandle" ∧ (parseMethodDescriptor yX8_spread.desc).map (fun d => d.parameters.length) = some 1 := by decide +kernel
set_option maxRecDepth 100000 in
theorem im_X8_spread : Cond.instanceMethod yX8_spread ∈ tblG := tg1 (List.mem_of_getElem? (i := 1135) (by decide +kernel)) rfl
set_option maxRecDepth 100000 in
theorem se_X8_spread : Cond.selects yX8_spread.cls yX8_spread yX8_spread ∈ tblG := tg (List.mem_append_left _ (List.mem_of_getElem? (i := 122) (by decide +kernel))) rfl
set_option maxRecDepth 100000 in
theorem cd_X8_stepsTo : Cond.code yX8_stepsTo cX8_stepsTo 6 (some .int) ∈ tblG := tg1 (List.mem_of_getElem? (i := 1129) (by decide +kernel)) rfl
set_option maxRecDepth 100000 in
theorem ds_X8_stepsTo : yX8_stepsTo.cls ≠ "java/lang/invoke/MethodHandle" ∧ yX8_stepsTo.cls ≠ "java/lang/invoke/VarHandle" ∧ (parseMethodDescriptor yX8_stepsTo.desc).map (fun d => d.parameters.length) = some 2 := by decide +kernel
set_option maxRecDepth 100000 in
theorem im_X8_stepsTo : Cond.instanceMethod yX8_stepsTo ∈ tblG := tg1 (List.mem_of_getElem? (i := 1128) (by decide +kernel)) rfl
set_option maxRecDepth 100000 in
theorem se_X8_stepsTo : Cond.selects yX8_stepsTo.cls yX8_stepsTo yX8_stepsTo ∈ tblG := tg (List.mem_append_left _ (List.mem_of_getElem? (i := 121) (by decide +kernel))) rfl
set_option maxRecDepth 100000 in
theorem cd_X8_sumOf : Cond.code yX8_sumOf cX8_sumOf 4 (some .int) ∈ tblG := tg1 (List.mem_of_getElem? (i := 1083) (by decide +kernel)) rfl
set_option maxRecDepth 100000 in
theorem ds_X8_sumOf : yX8_sumOf.cls ≠ "java/lang/invoke/MethodHandle" ∧ yX8_sumOf.cls ≠ "java/lang/invoke/VarHandle" ∧ (parseMethodDescriptor yX8_sumOf.desc).map (fun d => d.parameters.length) = some 1 := by decide +kernel
set_option maxRecDepth 100000 in
theorem im_X8_sumOf : Cond.instanceMethod yX8_sumOf ∈ tblG := tg1 (List.mem_of_getElem? (i := 1082) (by decide +kernel)) rfl
set_option maxRecDepth 100000 in
theorem se_X8_sumOf : Cond.selects yX8_sumOf.cls yX8_sumOf yX8_sumOf ∈ tblG := tg (List.mem_append_left _ (List.mem_of_getElem? (i := 115) (by decide +kernel))) rfl
set_option maxRecDepth 100000 in
theorem cd_X8_take : Cond.code yX8_take cX8_take 2 (some .int) ∈ tblG := tg1 (List.mem_of_getElem? (i := 1207) (by decide +kernel)) rfl
set_option maxRecDepth 100000 in
theorem ds_X8_take : yX8_take.cls ≠ "java/lang/invoke/MethodHandle" ∧ yX8_take.cls ≠ "java/lang/invoke/VarHandle" ∧ (parseMethodDescriptor yX8_take.desc).map (fun d => d.parameters.length) = some 1 := by decide +kernel
set_option maxRecDepth 100000 in
theorem im_X8_take : Cond.instanceMethod yX8_take ∈ tblG := tg1 (List.mem_of_getElem? (i := 1205) (by decide +kernel)) rfl
set_option maxRecDepth 100000 in
theorem se_X8_take : Cond.selects yX8_take.cls yX8_take yX8_take ∈ tblG := tg1 (List.mem_of_getElem? (i := 1206) (by decide +kernel)) rfl
set_option maxRecDepth 100000 in
theorem cd_X8_takes : Cond.code yX8_takes cX8_takes 2 (some .boolean) ∈ tblG := tg1 (List.mem_of_getElem? (i := 982) (by decide +kernel)) rfl
set_option maxRecDepth 100000 in
theorem ds_X8_takes : yX8_takes.cls ≠ "java/lang/invoke/MethodHandle" ∧ yX8_takes.cls ≠ "java/lang/invoke/VarHandle" ∧ (parseMethodDescriptor yX8_takes.desc).map (fun d => d.parameters.length) = some 1 := by decide +kernel
set_option maxRecDepth 100000 in
theorem im_X8_takes : Cond.instanceMethod yX8_takes ∈ tblG := tg1 (List.mem_of_getElem? (i := 981) (by decide +kernel)) rfl
set_option maxRecDepth 100000 in
theorem se_X8_takes : Cond.selects yX8_takes.cls yX8_takes yX8_takes ∈ tblG := tg (List.mem_append_left _ (List.mem_of_getElem? (i := 96) (by decide +kernel))) rfl
set_option maxRecDepth 100000 in
theorem cd_X8_takesNumber : Cond.code yX8_takesNumber cX8_takesNumber 4 (some .boolean) ∈ tblG := tg1 (List.mem_of_getElem? (i := 994) (by decide +kernel)) rfl
set_option maxRecDepth 100000 in
theorem ds_X8_takesNumber : yX8_takesNumber.cls ≠ "java/lang/invoke/MethodHandle" ∧ yX8_takesNumber.cls ≠ "java/lang/invoke/VarHandle" ∧ (parseMethodDescriptor yX8_takesNumber.desc).map (fun d => d.parameters.length) = some 2 := by decide +kernel
set_option maxRecDepth 100000 in
theorem im_X8_takesNumber : Cond.instanceMethod yX8_takesNumber ∈ tblG := tg1 (List.mem_of_getElem? (i := 993) (by decide +kernel)) rfl
set_option maxRecDepth 100000 in
theorem se_X8_takesNumber : Cond.selects yX8_takesNumber.cls yX8_takesNumber yX8_takesNumber ∈ tblG := tg (List.mem_append_left _ (List.mem_of_getElem? (i := 99) (by decide +kernel))) rfl
set_option maxRecDepth 100000 in
theorem cd_X8_takesUp : Cond.code yX8_takesUp cX8_takesUp 5 none ∈ tblG := tg1 (List.mem_of_getElem? (i := 1215) (by decide +kernel)) rfl
set_option maxRecDepth 100000 in
theorem ds_X8_takesUp : yX8_takesUp.cls ≠ "java/lang/invoke/MethodHandle" ∧ yX8_takesUp.cls ≠ "java/lang/invoke/VarHandle" ∧ (parseMethodDescriptor yX8_takesUp.desc).map (fun d => d.parameters.length) = some 1 := by decide +kernel
set_option maxRecDepth 100000 in
theorem im_X8_takesUp : Cond.instanceMethod yX8_takesUp ∈ tblG := tg1 (List.mem_of_getElem? (i := 1214) (by decide +kernel)) rfl
set_option maxRecDepth 100000 in
theorem se_X8_takesUp : Cond.selects yX8_takesUp.cls yX8_takesUp yX8_takesUp ∈ tblG := tg (List.mem_append_left _ (List.mem_of_getElem? (i := 134) (by decide +kernel))) rfl
set_option maxRecDepth 100000 in
theorem cd_X8_tear : Cond.code yX8_tear cX8_tear 2 (some .int) ∈ tblG := tg1 (List.mem_of_getElem? (i := 1281) (by decide +kernel)) rfl
set_option maxRecDepth 100000 in
theorem ds_X8_tear : yX8_tear.cls ≠ "java/lang/invoke/MethodHandle" ∧ yX8_tear.cls ≠ "java/lang/invoke/VarHandle" ∧ (parseMethodDescriptor yX8_tear.desc).map (fun d => d.parameters.length) = some 0 := by decide +kernel
set_option maxRecDepth 100000 in
theorem im_X8_tear : Cond.instanceMethod yX8_tear ∈ tblG := tg1 (List.mem_of_getElem? (i := 1279) (by decide +kernel)) rfl
set_option maxRecDepth 100000 in
theorem se_X8_tear : Cond.selects yX8_tear.cls yX8_tear yX8_tear ∈ tblG := tg1 (List.mem_of_getElem? (i := 1280) (by decide +kernel)) rfl
set_option maxRecDepth 100000 in
theorem cd_X8_told : Cond.code yX8_told cX8_told 2 (some .int) ∈ tblG := tg1 (List.mem_of_getElem? (i := 1297) (by decide +kernel)) rfl
set_option maxRecDepth 100000 in
theorem ds_X8_told : yX8_told.cls ≠ "java/lang/invoke/MethodHandle" ∧ yX8_told.cls ≠ "java/lang/invoke/VarHandle" ∧ (parseMethodDescriptor yX8_told.desc).map (fun d => d.parameters.length) = some 1 := by decide +kernel
set_option maxRecDepth 100000 in
theorem im_X8_told : Cond.instanceMethod yX8_told ∈ tblG := tg1 (List.mem_of_getElem? (i := 1295) (by decide +kernel)) rfl
set_option maxRecDepth 100000 in
theorem se_X8_told : Cond.selects yX8_told.cls yX8_told yX8_told ∈ tblG := tg1 (List.mem_of_getElem? (i := 1296) (by decide +kernel)) rfl
set_option maxRecDepth 100000 in
theorem cd_X8_toldOfRows : Cond.code yX8_toldOfRows cX8_toldOfRows 2 (some .int) ∈ tblG := tg1 (List.mem_of_getElem? (i := 1309) (by decide +kernel)) rfl
set_option maxRecDepth 100000 in
theorem ds_X8_toldOfRows : yX8_toldOfRows.cls ≠ "java/lang/invoke/MethodHandle" ∧ yX8_toldOfRows.cls ≠ "java/lang/invoke/VarHandle" ∧ (parseMethodDescriptor yX8_toldOfRows.desc).map (fun d => d.parameters.length) = some 1 := by decide +kernel
set_option maxRecDepth 100000 in
theorem im_X8_toldOfRows : Cond.instanceMethod yX8_toldOfRows ∈ tblG := tg1 (List.mem_of_getElem? (i := 1308) (by decide +kernel)) rfl
set_option maxRecDepth 100000 in
theorem se_X8_toldOfRows : Cond.selects yX8_toldOfRows.cls yX8_toldOfRows yX8_toldOfRows ∈ tblG := tg (List.mem_append_left _ (List.mem_of_getElem? (i := 141) (by decide +kernel))) rfl
set_option maxRecDepth 100000 in
theorem cd_X8_undo : Cond.code yX8_undo cX8_undo 3 (some .int) ∈ tblG := tg1 (List.mem_of_getElem? (i := 1228) (by decide +kernel)) rfl
set_option maxRecDepth 100000 in
theorem ds_X8_undo : yX8_undo.cls ≠ "java/lang/invoke/MethodHandle" ∧ yX8_undo.cls ≠ "java/lang/invoke/VarHandle" ∧ (parseMethodDescriptor yX8_undo.desc).map (fun d => d.parameters.length) = some 1 := by decide +kernel
set_option maxRecDepth 100000 in
theorem im_X8_undo : Cond.instanceMethod yX8_undo ∈ tblG := tg1 (List.mem_of_getElem? (i := 1226) (by decide +kernel)) rfl
set_option maxRecDepth 100000 in
theorem se_X8_undo : Cond.selects yX8_undo.cls yX8_undo yX8_undo ∈ tblG := tg1 (List.mem_of_getElem? (i := 1227) (by decide +kernel)) rfl
set_option maxRecDepth 100000 in
theorem cd_X8_unusedNow : Cond.code yX8_unusedNow cX8_unusedNow 5 (some .int) ∈ tblG := tg1 (List.mem_of_getElem? (i := 1313) (by decide +kernel)) rfl
set_option maxRecDepth 100000 in
theorem ds_X8_unusedNow : yX8_unusedNow.cls ≠ "java/lang/invoke/MethodHandle" ∧ yX8_unusedNow.cls ≠ "java/lang/invoke/VarHandle" ∧ (parseMethodDescriptor yX8_unusedNow.desc).map (fun d => d.parameters.length) = some 0 := by decide +kernel
set_option maxRecDepth 100000 in
theorem im_X8_unusedNow : Cond.instanceMethod yX8_unusedNow ∈ tblG := tg1 (List.mem_of_getElem? (i := 1312) (by decide +kernel)) rfl
set_option maxRecDepth 100000 in
theorem se_X8_unusedNow : Cond.selects yX8_unusedNow.cls yX8_unusedNow yX8_unusedNow ∈ tblG := tg (List.mem_append_left _ (List.mem_of_getElem? (i := 142) (by decide +kernel))) rfl
set_option maxRecDepth 100000 in
theorem cd_X8_word : Cond.code yX8_word cX8_word 3 (some .int) ∈ tblG := tg1 (List.mem_of_getElem? (i := 1038) (by decide +kernel)) rfl
set_option maxRecDepth 100000 in
theorem ds_X8_word : yX8_word.cls ≠ "java/lang/invoke/MethodHandle" ∧ yX8_word.cls ≠ "java/lang/invoke/VarHandle" ∧ (parseMethodDescriptor yX8_word.desc).map (fun d => d.parameters.length) = some 2 := by decide +kernel
set_option maxRecDepth 100000 in
theorem im_X8_word : Cond.instanceMethod yX8_word ∈ tblG := tg1 (List.mem_of_getElem? (i := 1036) (by decide +kernel)) rfl
set_option maxRecDepth 100000 in
theorem se_X8_word : Cond.selects yX8_word.cls yX8_word yX8_word ∈ tblG := tg1 (List.mem_of_getElem? (i := 1037) (by decide +kernel)) rfl
set_option maxRecDepth 100000 in
theorem cd_X8_worthOf : Cond.code yX8_worthOf cX8_worthOf 4 (some .int) ∈ tblG := tg1 (List.mem_of_getElem? (i := 1047) (by decide +kernel)) rfl
set_option maxRecDepth 100000 in
theorem ds_X8_worthOf : yX8_worthOf.cls ≠ "java/lang/invoke/MethodHandle" ∧ yX8_worthOf.cls ≠ "java/lang/invoke/VarHandle" ∧ (parseMethodDescriptor yX8_worthOf.desc).map (fun d => d.parameters.length) = some 1 := by decide +kernel
set_option maxRecDepth 100000 in
theorem im_X8_worthOf : Cond.instanceMethod yX8_worthOf ∈ tblG := tg1 (List.mem_of_getElem? (i := 1046) (by decide +kernel)) rfl
set_option maxRecDepth 100000 in
theorem se_X8_worthOf : Cond.selects yX8_worthOf.cls yX8_worthOf yX8_worthOf ∈ tblG := tg (List.mem_append_left _ (List.mem_of_getElem? (i := 106) (by decide +kernel))) rfl
set_option maxRecDepth 100000 in
theorem cd_X8_write : Cond.code yX8_write cX8_write 3 (some .int) ∈ tblG := tg1 (List.mem_of_getElem? (i := 1273) (by decide +kernel)) rfl
set_option maxRecDepth 100000 in
theorem ds_X8_write : yX8_write.cls ≠ "java/lang/invoke/MethodHandle" ∧ yX8_write.cls ≠ "java/lang/invoke/VarHandle" ∧ (parseMethodDescriptor yX8_write.desc).map (fun d => d.parameters.length) = some 2 := by decide +kernel
set_option maxRecDepth 100000 in
theorem im_X8_write : Cond.instanceMethod yX8_write ∈ tblG := tg1 (List.mem_of_getElem? (i := 1271) (by decide +kernel)) rfl
set_option maxRecDepth 100000 in
theorem se_X8_write : Cond.selects yX8_write.cls yX8_write yX8_write ∈ tblG := tg1 (List.mem_of_getElem? (i := 1272) (by decide +kernel)) rfl
set_option maxRecDepth 100000 in
theorem cd_J6_bitCount_0f7a4 : Cond.code yJ6_bitCount_0f7a4 cJ6_bitCount_0f7a4 1 (some .int) ∈ tblG := tg1 (List.mem_of_getElem? (i := 785) (by decide +kernel)) rfl
set_option maxRecDepth 100000 in
theorem ds_J6_bitCount_0f7a4 : yJ6_bitCount_0f7a4.cls ≠ "java/lang/invoke/MethodHandle" ∧ yJ6_bitCount_0f7a4.cls ≠ "java/lang/invoke/VarHandle" ∧ (parseMethodDescriptor yJ6_bitCount_0f7a4.desc).map (fun d => d.parameters.length) = some 1 := by decide +kernel
set_option maxRecDepth 100000 in
theorem st_J6_bitCount_0f7a4 : Cond.static yJ6_bitCount_0f7a4 ∈ tblG := tg1 (List.mem_of_getElem? (i := 784) (by decide +kernel)) rfl
set_option maxRecDepth 100000 in
theorem cd_J7_fill_53178 : Cond.code yJ7_fill_53178 cJ7_fill_53178 4 none ∈ tblG := tg1 (List.mem_of_getElem? (i := 301) (by decide +kernel)) rfl
set_option maxRecDepth 100000 in
theorem ds_J7_fill_53178 : yJ7_fill_53178.cls ≠ "java/lang/invoke/MethodHandle" ∧ yJ7_fill_53178.cls ≠ "java/lang/invoke/VarHandle" ∧ (parseMethodDescriptor yJ7_fill_53178.desc).map (fun d => d.parameters.length) = some 2 := by decide +kernel
set_option maxRecDepth 100000 in
theorem st_J7_fill_53178 : Cond.static yJ7_fill_53178 ∈ tblG := tg1 (List.mem_of_getElem? (i := 300) (by decide +kernel)) rfl
set_option maxRecDepth 100000 in
theorem fo_X0_9 : FO RX0 9 0 0 := ⟨by decide, by decide, Or.inl (tg1 (List.mem_of_getElem? (i := 53) (by decide +kernel)) rfl)⟩
set_option maxRecDepth 100000 in
theorem fo_X0_15 : FO RX0 15 0 1 := ⟨by decide, by decide, Or.inl (tg1 (List.mem_of_getElem? (i := 55) (by decide +kernel)) rfl)⟩
set_option maxRecDepth 100000 in
theorem fo_X0_18 : FO RX0 18 0 2 := ⟨by decide, by decide, Or.inl (tg1 (List.mem_of_getElem? (i := 57) (by decide +kernel)) rfl)⟩
set_option maxRecDepth 100000 in
theorem fo_X0_21 : FO RX0 21 0 3 := ⟨by decide, by decide, Or.inl (tg1 (List.mem_of_getElem? (i := 60) (by decide +kernel)) rfl)⟩
set_option maxRecDepth 100000 in
theorem fo_X0_24 : FO RX0 24 0 4 := ⟨by decide, by decide, Or.inl (tg1 (List.mem_of_getElem? (i := 62) (by decide +kernel)) rfl)⟩
set_option maxRecDepth 100000 in
theorem fo_X0_28 : FO RX0 28 0 5 := ⟨by decide, by decide, Or.inl (tg1 (List.mem_of_getElem? (i := 64) (by decide +kernel)) rfl)⟩
set_option maxRecDepth 100000 in
theorem fo_X0_31 : FO RX0 31 0 6 := ⟨by decide, by decide, Or.inl (tg1 (List.mem_of_getElem? (i := 66) (by decide +kernel)) rfl)⟩
set_option maxRecDepth 100000 in
theorem fo_X0_60 : FO RX0 60 6 4 := ⟨by decide, by decide, Or.inr (tn1 (List.mem_of_getElem? (i := 173) (by decide +kernel)) rfl)⟩
set_option maxRecDepth 100000 in
theorem fo_X1_11 : FO RX1 11 1 0 := ⟨by decide, by decide, Or.inl (tg1 (List.mem_of_getElem? (i := 93) (by decide +kernel)) rfl)⟩
set_option maxRecDepth 100000 in
theorem fo_X1_17 : FO RX1 17 1 1 := ⟨by decide, by decide, Or.inl (tg1 (List.mem_of_getElem? (i := 94) (by decide +kernel)) rfl)⟩
set_option maxRecDepth 100000 in
theorem fo_X1_21 : FO RX1 21 1 2 := ⟨by decide, by decide, Or.inl (tg1 (List.mem_of_getElem? (i := 95) (by decide +kernel)) rfl)⟩
set_option maxRecDepth 100000 in
theorem fo_X2_10 : FO RX2 10 2 0 := ⟨by decide, by decide, Or.inl (tg1 (List.mem_of_getElem? (i := 113) (by decide +kernel)) rfl)⟩
set_option maxRecDepth 100000 in
theorem fo_X2_16 : FO RX2 16 2 1 := ⟨by decide, by decide, Or.inl (tg1 (List.mem_of_getElem? (i := 115) (by decide +kernel)) rfl)⟩
set_option maxRecDepth 100000 in
theorem fo_X2_20 : FO RX2 20 2 2 := ⟨by decide, by decide, Or.inl (tg1 (List.mem_of_getElem? (i := 117) (by decide +kernel)) rfl)⟩
set_option maxRecDepth 100000 in
theorem fo_X3_9 : FO RX3 9 3 0 := ⟨by decide, by decide, Or.inl (tg1 (List.mem_of_getElem? (i := 28) (by decide +kernel)) rfl)⟩
set_option maxRecDepth 100000 in
theorem fo_X3_15 : FO RX3 15 3 1 := ⟨by decide, by decide, Or.inl (tg1 (List.mem_of_getElem? (i := 29) (by decide +kernel)) rfl)⟩
set_option maxRecDepth 100000 in
theorem fo_X3_19 : FO RX3 19 3 2 := ⟨by decide, by decide, Or.inl (tg1 (List.mem_of_getElem? (i := 31) (by decide +kernel)) rfl)⟩
set_option maxRecDepth 100000 in
theorem fo_X3_22 : FO RX3 22 3 3 := ⟨by decide, by decide, Or.inl (tg1 (List.mem_of_getElem? (i := 32) (by decide +kernel)) rfl)⟩
set_option maxRecDepth 100000 in
theorem fo_X3_25 : FO RX3 25 3 4 := ⟨by decide, by decide, Or.inl (tg1 (List.mem_of_getElem? (i := 33) (by decide +kernel)) rfl)⟩
set_option maxRecDepth 100000 in
theorem fo_X3_44 : FO RX3 44 6 10 := ⟨by decide, by decide, Or.inr (tn1 (List.mem_of_getElem? (i := 182) (by decide +kernel)) rfl)⟩
set_option maxRecDepth 100000 in
theorem fo_X3_55 : FO RX3 55 6 11 := ⟨by decide, by decide, Or.inr (tn1 (List.mem_of_getElem? (i := 185) (by decide +kernel)) rfl)⟩
set_option maxRecDepth 100000 in
theorem fo_X3_61 : FO RX3 61 6 12 := ⟨by decide, by decide, Or.inr (tn1 (List.mem_of_getElem? (i := 188) (by decide +kernel)) rfl)⟩
set_option maxRecDepth 100000 in
theorem fo_X3_71 : FO RX3 71 6 0 := ⟨by decide, by decide, Or.inr (tn1 (List.mem_of_getElem? (i := 163) (by decide +kernel)) rfl)⟩
set_option maxRecDepth 100000 in
theorem fo_X3_91 : FO RX3 91 6 1 := ⟨by decide, by decide, Or.inr (tn1 (List.mem_of_getElem? (i := 167) (by decide +kernel)) rfl)⟩
set_option maxRecDepth 100000 in
theorem fo_X4_9 : FO RX4 9 4 0 := ⟨by decide, by decide, Or.inl (tg1 (List.mem_of_getElem? (i := 224) (by decide +kernel)) rfl)⟩
set_option maxRecDepth 100000 in
theorem fo_X4_15 : FO RX4 15 4 1 := ⟨by decide, by decide, Or.inl (tg1 (List.mem_of_getElem? (i := 225) (by decide +kernel)) rfl)⟩
set_option maxRecDepth 100000 in
theorem fo_X4_18 : FO RX4 18 4 2 := ⟨by decide, by decide, Or.inl (tg1 (List.mem_of_getElem? (i := 226) (by decide +kernel)) rfl)⟩
set_option maxRecDepth 100000 in
theorem fo_X4_21 : FO RX4 21 4 3 := ⟨by decide, by decide, Or.inl (tg1 (List.mem_of_getElem? (i := 227) (by decide +kernel)) rfl)⟩
set_option maxRecDepth 100000 in
theorem fo_X4_24 : FO RX4 24 4 4 := ⟨by decide, by decide, Or.inl (tg1 (List.mem_of_getElem? (i := 228) (by decide +kernel)) rfl)⟩
set_option maxRecDepth 100000 in
theorem fo_X4_28 : FO RX4 28 4 5 := ⟨by decide, by decide, Or.inl (tg1 (List.mem_of_getElem? (i := 229) (by decide +kernel)) rfl)⟩
set_option maxRecDepth 100000 in
theorem fo_X4_32 : FO RX4 32 4 6 := ⟨by decide, by decide, Or.inl (tg1 (List.mem_of_getElem? (i := 230) (by decide +kernel)) rfl)⟩
set_option maxRecDepth 100000 in
theorem fo_X4_67 : FO RX4 67 6 12 := ⟨by decide, by decide, Or.inr (tn1 (List.mem_of_getElem? (i := 190) (by decide +kernel)) rfl)⟩
set_option maxRecDepth 100000 in
theorem fo_X4_81 : FO RX4 81 6 4 := ⟨by decide, by decide, Or.inr (tn1 (List.mem_of_getElem? (i := 174) (by decide +kernel)) rfl)⟩
set_option maxRecDepth 100000 in
theorem fo_X5_9 : FO RX5 9 5 0 := ⟨by decide, by decide, Or.inl (tg1 (List.mem_of_getElem? (i := 132) (by decide +kernel)) rfl)⟩
set_option maxRecDepth 100000 in
theorem fo_X5_15 : FO RX5 15 5 1 := ⟨by decide, by decide, Or.inl (tg1 (List.mem_of_getElem? (i := 133) (by decide +kernel)) rfl)⟩
set_option maxRecDepth 100000 in
theorem fo_X5_18 : FO RX5 18 5 2 := ⟨by decide, by decide, Or.inl (tg1 (List.mem_of_getElem? (i := 134) (by decide +kernel)) rfl)⟩
set_option maxRecDepth 100000 in
theorem fo_X5_21 : FO RX5 21 5 3 := ⟨by decide, by decide, Or.inl (tg1 (List.mem_of_getElem? (i := 135) (by decide +kernel)) rfl)⟩
set_option maxRecDepth 100000 in
theorem fo_X5_24 : FO RX5 24 5 4 := ⟨by decide, by decide, Or.inl (tg1 (List.mem_of_getElem? (i := 136) (by decide +kernel)) rfl)⟩
set_option maxRecDepth 100000 in
theorem fo_X5_27 : FO RX5 27 5 5 := ⟨by decide, by decide, Or.inl (tg1 (List.mem_of_getElem? (i := 137) (by decide +kernel)) rfl)⟩
set_option maxRecDepth 100000 in
theorem fo_X5_31 : FO RX5 31 5 6 := ⟨by decide, by decide, Or.inl (tg1 (List.mem_of_getElem? (i := 139) (by decide +kernel)) rfl)⟩
set_option maxRecDepth 100000 in
theorem fo_X5_34 : FO RX5 34 6 12 := ⟨by decide, by decide, Or.inr (tn1 (List.mem_of_getElem? (i := 189) (by decide +kernel)) rfl)⟩
set_option maxRecDepth 100000 in
theorem fo_X5_79 : FO RX5 79 0 2 := ⟨by decide, by decide, Or.inr (tn1 (List.mem_of_getElem? (i := 58) (by decide +kernel)) rfl)⟩
set_option maxRecDepth 100000 in
theorem fo_X6_9 : FO RX6 9 6 0 := ⟨by decide, by decide, Or.inl (tg1 (List.mem_of_getElem? (i := 162) (by decide +kernel)) rfl)⟩
set_option maxRecDepth 100000 in
theorem fo_X6_15 : FO RX6 15 6 1 := ⟨by decide, by decide, Or.inl (tg1 (List.mem_of_getElem? (i := 165) (by decide +kernel)) rfl)⟩
set_option maxRecDepth 100000 in
theorem fo_X6_18 : FO RX6 18 6 2 := ⟨by decide, by decide, Or.inl (tg1 (List.mem_of_getElem? (i := 168) (by decide +kernel)) rfl)⟩
set_option maxRecDepth 100000 in
theorem fo_X6_21 : FO RX6 21 6 3 := ⟨by decide, by decide, Or.inl (tg1 (List.mem_of_getElem? (i := 170) (by decide +kernel)) rfl)⟩
set_option maxRecDepth 100000 in
theorem fo_X6_24 : FO RX6 24 6 4 := ⟨by decide, by decide, Or.inl (tg1 (List.mem_of_getElem? (i := 172) (by decide +kernel)) rfl)⟩
set_option maxRecDepth 100000 in
theorem fo_X6_27 : FO RX6 27 6 5 := ⟨by decide, by decide, Or.inl (tg1 (List.mem_of_getElem? (i := 176) (by decide +kernel)) rfl)⟩
set_option maxRecDepth 100000 in
theorem fo_X6_30 : FO RX6 30 6 6 := ⟨by decide, by decide, Or.inl (tg1 (List.mem_of_getElem? (i := 177) (by decide +kernel)) rfl)⟩
set_option maxRecDepth 100000 in
theorem fo_X6_33 : FO RX6 33 6 7 := ⟨by decide, by decide, Or.inl (tg1 (List.mem_of_getElem? (i := 178) (by decide +kernel)) rfl)⟩
set_option maxRecDepth 100000 in
theorem fo_X6_36 : FO RX6 36 6 8 := ⟨by decide, by decide, Or.inl (tg1 (List.mem_of_getElem? (i := 179) (by decide +kernel)) rfl)⟩
set_option maxRecDepth 100000 in
theorem fo_X6_39 : FO RX6 39 6 9 := ⟨by decide, by decide, Or.inl (tg1 (List.mem_of_getElem? (i := 180) (by decide +kernel)) rfl)⟩
set_option maxRecDepth 100000 in
theorem fo_X6_42 : FO RX6 42 6 10 := ⟨by decide, by decide, Or.inl (tg1 (List.mem_of_getElem? (i := 181) (by decide +kernel)) rfl)⟩
set_option maxRecDepth 100000 in
theorem fo_X6_46 : FO RX6 46 6 11 := ⟨by decide, by decide, Or.inl (tg1 (List.mem_of_getElem? (i := 184) (by decide +kernel)) rfl)⟩
set_option maxRecDepth 100000 in
theorem fo_X6_49 : FO RX6 49 6 12 := ⟨by decide, by decide, Or.inl (tg1 (List.mem_of_getElem? (i := 186) (by decide +kernel)) rfl)⟩
set_option maxRecDepth 100000 in
theorem fo_X7_10 : FO RX7 10 7 0 := ⟨by decide, by decide, Or.inl (tg1 (List.mem_of_getElem? (i := 246) (by decide +kernel)) rfl)⟩
set_option maxRecDepth 100000 in
theorem fo_X7_19 : FO RX7 19 7 1 := ⟨by decide, by decide, Or.inl (tg1 (List.mem_of_getElem? (i := 247) (by decide +kernel)) rfl)⟩
set_option maxRecDepth 100000 in
theorem fo_X7_26 : FO RX7 26 7 2 := ⟨by decide, by decide, Or.inl (tg1 (List.mem_of_getElem? (i := 248) (by decide +kernel)) rfl)⟩
set_option maxRecDepth 100000 in
theorem fo_X7_32 : FO RX7 32 7 3 := ⟨by decide, by decide, Or.inl (tg1 (List.mem_of_getElem? (i := 249) (by decide +kernel)) rfl)⟩
set_option maxRecDepth 100000 in
theorem fo_X7_40 : FO RX7 40 7 5 := ⟨by decide, by decide, Or.inl (tg1 (List.mem_of_getElem? (i := 251) (by decide +kernel)) rfl)⟩
set_option maxRecDepth 100000 in
theorem fo_X7_47 : FO RX7 47 7 6 := ⟨by decide, by decide, Or.inl (tg1 (List.mem_of_getElem? (i := 252) (by decide +kernel)) rfl)⟩
set_option maxRecDepth 100000 in
theorem fo_X7_51 : FO RX7 51 7 7 := ⟨by decide, by decide, Or.inl (tg1 (List.mem_of_getElem? (i := 253) (by decide +kernel)) rfl)⟩
set_option maxRecDepth 100000 in
theorem fo_X7_59 : FO RX7 59 7 4 := ⟨by decide, by decide, Or.inl (tg1 (List.mem_of_getElem? (i := 250) (by decide +kernel)) rfl)⟩
set_option maxRecDepth 100000 in
theorem fo_X7_63 : FO RX7 63 7 8 := ⟨by decide, by decide, Or.inl (tg1 (List.mem_of_getElem? (i := 254) (by decide +kernel)) rfl)⟩
set_option maxRecDepth 100000 in
theorem fo_X7_67 : FO RX7 67 7 9 := ⟨by decide, by decide, Or.inl (tg1 (List.mem_of_getElem? (i := 255) (by decide +kernel)) rfl)⟩
set_option maxRecDepth 100000 in
theorem fo_X7_75 : FO RX7 75 3 1 := ⟨by decide, by decide, Or.inr (tn1 (List.mem_of_getElem? (i := 30) (by decide +kernel)) rfl)⟩
set_option maxRecDepth 100000 in
theorem fo_X7_83 : FO RX7 83 3 4 := ⟨by decide, by decide, Or.inr (tn1 (List.mem_of_getElem? (i := 34) (by decide +kernel)) rfl)⟩
set_option maxRecDepth 100000 in
theorem fo_X7_92 : FO RX7 92 6 12 := ⟨by decide, by decide, Or.inr (tn1 (List.mem_of_getElem? (i := 187) (by decide +kernel)) rfl)⟩
set_option maxRecDepth 100000 in
theorem fo_X7_95 : FO RX7 95 6 1 := ⟨by decide, by decide, Or.inr (tn1 (List.mem_of_getElem? (i := 166) (by decide +kernel)) rfl)⟩
set_option maxRecDepth 100000 in
theorem fo_X7_105 : FO RX7 105 2 2 := ⟨by decide, by decide, Or.inr (tn1 (List.mem_of_getElem? (i := 118) (by decide +kernel)) rfl)⟩
set_option maxRecDepth 100000 in
theorem fo_X7_113 : FO RX7 113 6 10 := ⟨by decide, by decide, Or.inr (tn1 (List.mem_of_getElem? (i := 183) (by decide +kernel)) rfl)⟩
set_option maxRecDepth 100000 in
theorem fo_X7_116 : FO RX7 116 0 0 := ⟨by decide, by decide, Or.inr (tn1 (List.mem_of_getElem? (i := 54) (by decide +kernel)) rfl)⟩
set_option maxRecDepth 100000 in
theorem fo_X7_121 : FO RX7 121 0 1 := ⟨by decide, by decide, Or.inr (tn1 (List.mem_of_getElem? (i := 56) (by decide +kernel)) rfl)⟩
set_option maxRecDepth 100000 in
theorem fo_X7_124 : FO RX7 124 0 4 := ⟨by decide, by decide, Or.inr (tn1 (List.mem_of_getElem? (i := 63) (by decide +kernel)) rfl)⟩
set_option maxRecDepth 100000 in
theorem fo_X7_125 : FO RX7 125 0 5 := ⟨by decide, by decide, Or.inr (tn1 (List.mem_of_getElem? (i := 65) (by decide +kernel)) rfl)⟩
set_option maxRecDepth 100000 in
theorem fo_X7_128 : FO RX7 128 0 6 := ⟨by decide, by decide, Or.inr (tn1 (List.mem_of_getElem? (i := 67) (by decide +kernel)) rfl)⟩
set_option maxRecDepth 100000 in
theorem fo_X7_157 : FO RX7 157 5 5 := ⟨by decide, by decide, Or.inr (tn1 (List.mem_of_getElem? (i := 138) (by decide +kernel)) rfl)⟩
set_option maxRecDepth 100000 in
theorem fo_X7_160 : FO RX7 160 5 6 := ⟨by decide, by decide, Or.inr (tn1 (List.mem_of_getElem? (i := 140) (by decide +kernel)) rfl)⟩
set_option maxRecDepth 100000 in
theorem fo_X7_163 : FO RX7 163 1 2 := ⟨by decide, by decide, Or.inr (tn1 (List.mem_of_getElem? (i := 96) (by decide +kernel)) rfl)⟩
set_option maxRecDepth 100000 in
theorem fo_X7_164 : FO RX7 164 6 0 := ⟨by decide, by decide, Or.inr (tn1 (List.mem_of_getElem? (i := 164) (by decide +kernel)) rfl)⟩
set_option maxRecDepth 100000 in
theorem fo_X7_171 : FO RX7 171 6 2 := ⟨by decide, by decide, Or.inr (tn1 (List.mem_of_getElem? (i := 169) (by decide +kernel)) rfl)⟩
set_option maxRecDepth 100000 in
theorem fo_X7_174 : FO RX7 174 6 3 := ⟨by decide, by decide, Or.inr (tn1 (List.mem_of_getElem? (i := 171) (by decide +kernel)) rfl)⟩
set_option maxRecDepth 100000 in
theorem fo_X7_177 : FO RX7 177 6 4 := ⟨by decide, by decide, Or.inr (tn1 (List.mem_of_getElem? (i := 175) (by decide +kernel)) rfl)⟩
set_option maxRecDepth 100000 in
theorem fo_X7_200 : FO RX7 200 0 2 := ⟨by decide, by decide, Or.inr (tn1 (List.mem_of_getElem? (i := 59) (by decide +kernel)) rfl)⟩
set_option maxRecDepth 100000 in
theorem fo_X7_203 : FO RX7 203 0 3 := ⟨by decide, by decide, Or.inr (tn1 (List.mem_of_getElem? (i := 61) (by decide +kernel)) rfl)⟩
set_option maxRecDepth 100000 in
theorem fo_X7_338 : FO RX7 338 2 1 := ⟨by decide, by decide, Or.inr (tn1 (List.mem_of_getElem? (i := 116) (by decide +kernel)) rfl)⟩
set_option maxRecDepth 100000 in
theorem fo_X7_339 : FO RX7 339 2 0 := ⟨by decide, by decide, Or.inr (tn1 (List.mem_of_getElem? (i := 114) (by decide +kernel)) rfl)⟩
set_option maxRecDepth 100000 in
theorem fo_X8_7 : FO RX8 7 8 0 := ⟨by decide, by decide, Or.inl (tg1 (List.mem_of_getElem? (i := 838) (by decide +kernel)) rfl)⟩
set_option maxRecDepth 100000 in
theorem fo_X8_13 : FO RX8 13 8 1 := ⟨by decide, by decide, Or.inl (tg1 (List.mem_of_getElem? (i := 839) (by decide +kernel)) rfl)⟩
set_option maxRecDepth 100000 in
theorem fo_X8_16 : FO RX8 16 8 2 := ⟨by decide, by decide, Or.inl (tg1 (List.mem_of_getElem? (i := 840) (by decide +kernel)) rfl)⟩
set_option maxRecDepth 100000 in
theorem fo_X8_19 : FO RX8 19 8 3 := ⟨by decide, by decide, Or.inl (tg1 (List.mem_of_getElem? (i := 841) (by decide +kernel)) rfl)⟩
set_option maxRecDepth 100000 in
theorem fo_X8_22 : FO RX8 22 8 4 := ⟨by decide, by decide, Or.inl (tg1 (List.mem_of_getElem? (i := 842) (by decide +kernel)) rfl)⟩
set_option maxRecDepth 100000 in
theorem fo_X8_25 : FO RX8 25 8 7 := ⟨by decide, by decide, Or.inl (tg1 (List.mem_of_getElem? (i := 845) (by decide +kernel)) rfl)⟩
set_option maxRecDepth 100000 in
theorem fo_X8_28 : FO RX8 28 8 9 := ⟨by decide, by decide, Or.inl (tg1 (List.mem_of_getElem? (i := 847) (by decide +kernel)) rfl)⟩
set_option maxRecDepth 100000 in
theorem fo_X8_31 : FO RX8 31 8 11 := ⟨by decide, by decide, Or.inl (tg1 (List.mem_of_getElem? (i := 849) (by decide +kernel)) rfl)⟩
set_option maxRecDepth 100000 in
theorem fo_X8_34 : FO RX8 34 8 17 := ⟨by decide, by decide, Or.inl (tg1 (List.mem_of_getElem? (i := 855) (by decide +kernel)) rfl)⟩
set_option maxRecDepth 100000 in
theorem fo_X8_37 : FO RX8 37 8 18 := ⟨by decide, by decide, Or.inl (tg1 (List.mem_of_getElem? (i := 856) (by decide +kernel)) rfl)⟩
set_option maxRecDepth 100000 in
theorem fo_X8_40 : FO RX8 40 8 19 := ⟨by decide, by decide, Or.inl (tg1 (List.mem_of_getElem? (i := 857) (by decide +kernel)) rfl)⟩
set_option maxRecDepth 100000 in
theorem fo_X8_43 : FO RX8 43 8 20 := ⟨by decide, by decide, Or.inl (tg1 (List.mem_of_getElem? (i := 858) (by decide +kernel)) rfl)⟩
set_option maxRecDepth 100000 in
theorem fo_X8_46 : FO RX8 46 8 21 := ⟨by decide, by decide, Or.inl (tg1 (List.mem_of_getElem? (i := 859) (by decide +kernel)) rfl)⟩
set_option maxRecDepth 100000 in
theorem fo_X8_49 : FO RX8 49 8 24 := ⟨by decide, by decide, Or.inl (tg1 (List.mem_of_getElem? (i := 862) (by decide +kernel)) rfl)⟩
set_option maxRecDepth 100000 in
theorem fo_X8_52 : FO RX8 52 8 26 := ⟨by decide, by decide, Or.inl (tg1 (List.mem_of_getElem? (i := 864) (by decide +kernel)) rfl)⟩
set_option maxRecDepth 100000 in
theorem fo_X8_55 : FO RX8 55 8 32 := ⟨by decide, by decide, Or.inl (tg1 (List.mem_of_getElem? (i := 870) (by decide +kernel)) rfl)⟩
set_option maxRecDepth 100000 in
theorem fo_X8_58 : FO RX8 58 8 33 := ⟨by decide, by decide, Or.inl (tg1 (List.mem_of_getElem? (i := 871) (by decide +kernel)) rfl)⟩
set_option maxRecDepth 100000 in
theorem fo_X8_61 : FO RX8 61 8 35 := ⟨by decide, by decide, Or.inl (tg1 (List.mem_of_getElem? (i := 873) (by decide +kernel)) rfl)⟩
set_option maxRecDepth 100000 in
theorem fo_X8_64 : FO RX8 64 8 37 := ⟨by decide, by decide, Or.inl (tg1 (List.mem_of_getElem? (i := 875) (by decide +kernel)) rfl)⟩
set_option maxRecDepth 100000 in
theorem fo_X8_67 : FO RX8 67 8 38 := ⟨by decide, by decide, Or.inl (tg1 (List.mem_of_getElem? (i := 876) (by decide +kernel)) rfl)⟩
set_option maxRecDepth 100000 in
theorem fo_X8_71 : FO RX8 71 8 14 := ⟨by decide, by decide, Or.inl (tg1 (List.mem_of_getElem? (i := 852) (by decide +kernel)) rfl)⟩
set_option maxRecDepth 100000 in
theorem fo_X8_75 : FO RX8 75 8 5 := ⟨by decide, by decide, Or.inl (tg1 (List.mem_of_getElem? (i := 843) (by decide +kernel)) rfl)⟩
set_option maxRecDepth 100000 in
theorem fo_X8_87 : FO RX8 87 8 12 := ⟨by decide, by decide, Or.inl (tg1 (List.mem_of_getElem? (i := 850) (by decide +kernel)) rfl)⟩
set_option maxRecDepth 100000 in
theorem fo_X8_91 : FO RX8 91 8 13 := ⟨by decide, by decide, Or.inl (tg1 (List.mem_of_getElem? (i := 851) (by decide +kernel)) rfl)⟩
set_option maxRecDepth 100000 in
theorem fo_X8_94 : FO RX8 94 8 15 := ⟨by decide, by decide, Or.inl (tg1 (List.mem_of_getElem? (i := 853) (by decide +kernel)) rfl)⟩
set_option maxRecDepth 100000 in
theorem fo_X8_109 : FO RX8 109 8 16 := ⟨by decide, by decide, Or.inl (tg1 (List.mem_of_getElem? (i := 854) (by decide +kernel)) rfl)⟩
set_option maxRecDepth 100000 in
theorem fo_X8_127 : FO RX8 127 8 23 := ⟨by decide, by decide, Or.inl (tg1 (List.mem_of_getElem? (i := 861) (by decide +kernel)) rfl)⟩
set_option maxRecDepth 100000 in
theorem fo_X8_131 : FO RX8 131 8 22 := ⟨by decide, by decide, Or.inl (tg1 (List.mem_of_getElem? (i := 860) (by decide +kernel)) rfl)⟩
set_option maxRecDepth 100000 in
theorem fo_X8_150 : FO RX8 150 8 10 := ⟨by decide, by decide, Or.inl (tg1 (List.mem_of_getElem? (i := 848) (by decide +kernel)) rfl)⟩
set_option maxRecDepth 100000 in
theorem fo_X8_153 : FO RX8 153 8 34 := ⟨by decide, by decide, Or.inl (tg1 (List.mem_of_getElem? (i := 872) (by decide +kernel)) rfl)⟩
set_option maxRecDepth 100000 in
theorem fo_X8_156 : FO RX8 156 8 36 := ⟨by decide, by decide, Or.inl (tg1 (List.mem_of_getElem? (i := 874) (by decide +kernel)) rfl)⟩
set_option maxRecDepth 100000 in
theorem fo_X8_165 : FO RX8 165 8 6 := ⟨by decide, by decide, Or.inl (tg1 (List.mem_of_getElem? (i := 844) (by decide +kernel)) rfl)⟩
set_option maxRecDepth 100000 in
theorem fo_X8_212 : FO RX8 212 8 27 := ⟨by decide, by decide, Or.inl (tg1 (List.mem_of_getElem? (i := 865) (by decide +kernel)) rfl)⟩
set_option maxRecDepth 100000 in
theorem fo_X8_215 : FO RX8 215 8 28 := ⟨by decide, by decide, Or.inl (tg1 (List.mem_of_getElem? (i := 866) (by decide +kernel)) rfl)⟩
set_option maxRecDepth 100000 in
theorem fo_X8_218 : FO RX8 218 8 29 := ⟨by decide, by decide, Or.inl (tg1 (List.mem_of_getElem? (i := 867) (by decide +kernel)) rfl)⟩
set_option maxRecDepth 100000 in
theorem fo_X8_221 : FO RX8 221 8 30 := ⟨by decide, by decide, Or.inl (tg1 (List.mem_of_getElem? (i := 868) (by decide +kernel)) rfl)⟩
set_option maxRecDepth 100000 in
theorem fo_X8_224 : FO RX8 224 8 25 := ⟨by decide, by decide, Or.inl (tg1 (List.mem_of_getElem? (i := 863) (by decide +kernel)) rfl)⟩
set_option maxRecDepth 100000 in
theorem fo_X8_227 : FO RX8 227 8 31 := ⟨by decide, by decide, Or.inl (tg1 (List.mem_of_getElem? (i := 869) (by decide +kernel)) rfl)⟩
set_option maxRecDepth 100000 in
theorem fo_X8_267 : FO RX8 267 8 8 := ⟨by decide, by decide, Or.inl (tg1 (List.mem_of_getElem? (i := 846) (by decide +kernel)) rfl)⟩
set_option maxRecDepth 100000 in
theorem na_copy : Cond.native arraycopyName ∈ tblG ∧ Cond.static arraycopyName ∈ tblG ∧ Cond.initialized "java/lang/System" ∈ tblG := ⟨tg1 (List.mem_of_getElem? (i := 424) (by decide +kernel)) rfl, tg1 (List.mem_of_getElem? (i := 423) (by decide +kernel)) rfl, in_java_lang_System⟩
set_option maxRecDepth 100000 in
theorem mm_min : Cond.static Lib.Math.min.name ∈ tblG ∧ Cond.code Lib.Math.min.name Lib.Math.min.code 2 (some .int) ∈ tblG := ⟨tg1 (List.mem_of_getElem? (i := 331) (by decide +kernel)) rfl, tg1 (List.mem_of_getElem? (i := 332) (by decide +kernel)) rfl⟩
set_option maxRecDepth 100000 in
theorem mm_max : Cond.static Lib.Math.max.name ∈ tblG ∧ Cond.code Lib.Math.max.name Lib.Math.max.code 2 (some .int) ∈ tblG := ⟨tg1 (List.mem_of_getElem? (i := 463) (by decide +kernel)) rfl, tg1 (List.mem_of_getElem? (i := 464) (by decide +kernel)) rfl⟩
set_option maxRecDepth 100000 in
theorem co_L_9 : IO' RL 9 yX7_init cX7_init 2 0 := ⟨cd_X7_init, in_LetterTray, im_X7_init, rfl, ds_X7_init, Or.inl (tg1 (List.mem_of_getElem? (i := 16) (by decide +kernel)) rfl)⟩
set_option maxRecDepth 100000 in
theorem co_L_12 : IO' RL 12 yX8_init cX8_init 1 0 := ⟨cd_X8_init, in_LetterTrayModel, im_X8_init, rfl, ds_X8_init, Or.inl (tg1 (List.mem_of_getElem? (i := 834) (by decide +kernel)) rfl)⟩
set_option maxRecDepth 100000 in
theorem co_L_13 : CO RL 13 yX7_feed cX7_feed 2 (some .int) 1 := ⟨cd_X7_feed, in_LetterTray, im_X7_feed, se_X7_feed, ds_X7_feed, Or.inl (tg1 (List.mem_of_getElem? (i := 277) (by decide +kernel)) rfl)⟩
set_option maxRecDepth 100000 in
theorem co_L_17 : CO RL 17 yX8_feed cX8_feed 2 (some .int) 1 := ⟨cd_X8_feed, in_LetterTrayModel, im_X8_feed, se_X8_feed, ds_X8_feed, Or.inl (tg1 (List.mem_of_getElem? (i := 957) (by decide +kernel)) rfl)⟩
set_option maxRecDepth 100000 in
theorem co_L_18 : CO RL 18 yX7_game cX7_game 3 (some .int) 0 := ⟨cd_X7_game, in_LetterTray, im_X7_game, se_X7_game, ds_X7_game, Or.inl (tg1 (List.mem_of_getElem? (i := 287) (by decide +kernel)) rfl)⟩
set_option maxRecDepth 100000 in
theorem co_L_22 : CO RL 22 yX8_game cX8_game 5 (some .int) 0 := ⟨cd_X8_game, in_LetterTrayModel, im_X8_game, se_X8_game, ds_X8_game, Or.inl (tg1 (List.mem_of_getElem? (i := 967) (by decide +kernel)) rfl)⟩
set_option maxRecDepth 100000 in
theorem co_L_23 : CO RL 23 yX7_fault cX7_fault 1 (some .int) 0 := ⟨cd_X7_fault, in_LetterTray, im_X7_fault, se_X7_fault, ds_X7_fault, Or.inl (tg1 (List.mem_of_getElem? (i := 438) (by decide +kernel)) rfl)⟩
set_option maxRecDepth 100000 in
theorem co_L_26 : CO RL 26 yX8_fault cX8_fault 1 (some .int) 0 := ⟨cd_X8_fault, in_LetterTrayModel, im_X8_fault, se_X8_fault, ds_X8_fault, Or.inl (tg1 (List.mem_of_getElem? (i := 1022) (by decide +kernel)) rfl)⟩
set_option maxRecDepth 100000 in
theorem co_L_27 : CO RL 27 yX7_told cX7_told 2 (some .int) 1 := ⟨cd_X7_told, in_LetterTray, im_X7_told, se_X7_told, ds_X7_told, Or.inl (tg1 (List.mem_of_getElem? (i := 442) (by decide +kernel)) rfl)⟩
set_option maxRecDepth 100000 in
theorem co_L_30 : CO RL 30 yX8_told cX8_told 2 (some .int) 1 := ⟨cd_X8_told, in_LetterTrayModel, im_X8_told, se_X8_told, ds_X8_told, Or.inl (tg1 (List.mem_of_getElem? (i := 1294) (by decide +kernel)) rfl)⟩
set_option maxRecDepth 100000 in
theorem co_L_31 : CO RL 31 yX7_letters cX7_letters 3 (some .int) 2 := ⟨cd_X7_letters, in_LetterTray, im_X7_letters, se_X7_letters, ds_X7_letters, Or.inl (tg1 (List.mem_of_getElem? (i := 540) (by decide +kernel)) rfl)⟩
set_option maxRecDepth 100000 in
theorem co_L_35 : CO RL 35 yX8_letters cX8_letters 3 (some .int) 2 := ⟨cd_X8_letters, in_LetterTrayModel, im_X8_letters, se_X8_letters, ds_X8_letters, Or.inl (tg1 (List.mem_of_getElem? (i := 1026) (by decide +kernel)) rfl)⟩
set_option maxRecDepth 100000 in
theorem co_L_36 : CO RL 36 yX7_word cX7_word 3 (some .int) 2 := ⟨cd_X7_word, in_LetterTray, im_X7_word, se_X7_word, ds_X7_word, Or.inl (tg1 (List.mem_of_getElem? (i := 544) (by decide +kernel)) rfl)⟩
set_option maxRecDepth 100000 in
theorem co_L_39 : CO RL 39 yX8_word cX8_word 3 (some .int) 2 := ⟨cd_X8_word, in_LetterTrayModel, im_X8_word, se_X8_word, ds_X8_word, Or.inl (tg1 (List.mem_of_getElem? (i := 1035) (by decide +kernel)) rfl)⟩
set_option maxRecDepth 100000 in
theorem co_L_40 : CO RL 40 yX7_spelt cX7_spelt 3 (some .int) 2 := ⟨cd_X7_spelt, in_LetterTray, im_X7_spelt, se_X7_spelt, ds_X7_spelt, Or.inl (tg1 (List.mem_of_getElem? (i := 562) (by decide +kernel)) rfl)⟩
set_option maxRecDepth 100000 in
theorem co_L_43 : CO RL 43 yX8_spelt cX8_spelt 3 (some .int) 2 := ⟨cd_X8_spelt, in_LetterTrayModel, im_X8_spelt, se_X8_spelt, ds_X8_spelt, Or.inl (tg1 (List.mem_of_getElem? (i := 1084) (by decide +kernel)) rfl)⟩
set_option maxRecDepth 100000 in
theorem co_L_44 : CO RL 44 yX7_laid cX7_laid 3 (some .int) 2 := ⟨cd_X7_laid, in_LetterTray, im_X7_laid, se_X7_laid, ds_X7_laid, Or.inl (tg1 (List.mem_of_getElem? (i := 567) (by decide +kernel)) rfl)⟩
set_option maxRecDepth 100000 in
theorem co_L_47 : CO RL 47 yX8_laid cX8_laid 3 (some .int) 2 := ⟨cd_X8_laid, in_LetterTrayModel, im_X8_laid, se_X8_laid, ds_X8_laid, Or.inl (tg1 (List.mem_of_getElem? (i := 1089) (by decide +kernel)) rfl)⟩
set_option maxRecDepth 100000 in
theorem co_L_48 : CO RL 48 yX7_draw cX7_draw 2 (some .int) 0 := ⟨cd_X7_draw, in_LetterTray, im_X7_draw, se_X7_draw, ds_X7_draw, Or.inl (tg1 (List.mem_of_getElem? (i := 575) (by decide +kernel)) rfl)⟩
set_option maxRecDepth 100000 in
theorem co_L_51 : CO RL 51 yX8_draw cX8_draw 1 (some .int) 0 := ⟨cd_X8_draw, in_LetterTrayModel, im_X8_draw, se_X8_draw, ds_X8_draw, Or.inl (tg1 (List.mem_of_getElem? (i := 1154) (by decide +kernel)) rfl)⟩
set_option maxRecDepth 100000 in
theorem co_L_52 : CO RL 52 yX7_give cX7_give 3 (some .int) 1 := ⟨cd_X7_give, in_LetterTray, im_X7_give, se_X7_give, ds_X7_give, Or.inl (tg1 (List.mem_of_getElem? (i := 613) (by decide +kernel)) rfl)⟩
set_option maxRecDepth 100000 in
theorem co_L_55 : CO RL 55 yX8_give cX8_give 3 (some .int) 1 := ⟨cd_X8_give, in_LetterTrayModel, im_X8_give, se_X8_give, ds_X8_give, Or.inl (tg1 (List.mem_of_getElem? (i := 1184) (by decide +kernel)) rfl)⟩
set_option maxRecDepth 100000 in
theorem co_L_56 : CO RL 56 yX7_change cX7_change 3 (some .int) 1 := ⟨cd_X7_change, in_LetterTray, im_X7_change, se_X7_change, ds_X7_change, Or.inl (tg1 (List.mem_of_getElem? (i := 629) (by decide +kernel)) rfl)⟩
set_option maxRecDepth 100000 in
theorem co_L_59 : CO RL 59 yX8_change cX8_change 3 (some .int) 1 := ⟨cd_X8_change, in_LetterTrayModel, im_X8_change, se_X8_change, ds_X8_change, Or.inl (tg1 (List.mem_of_getElem? (i := 1192) (by decide +kernel)) rfl)⟩
set_option maxRecDepth 100000 in
theorem co_L_60 : CO RL 60 yX7_lay cX7_lay 3 (some .int) 1 := ⟨cd_X7_lay, in_LetterTray, im_X7_lay, se_X7_lay, ds_X7_lay, Or.inl (tg1 (List.mem_of_getElem? (i := 633) (by decide +kernel)) rfl)⟩
set_option maxRecDepth 100000 in
theorem co_L_63 : CO RL 63 yX8_lay cX8_lay 2 (some .int) 1 := ⟨cd_X8_lay, in_LetterTrayModel, im_X8_lay, se_X8_lay, ds_X8_lay, Or.inl (tg1 (List.mem_of_getElem? (i := 1196) (by decide +kernel)) rfl)⟩
set_option maxRecDepth 100000 in
theorem co_L_64 : CO RL 64 yX7_take cX7_take 3 (some .int) 1 := ⟨cd_X7_take, in_LetterTray, im_X7_take, se_X7_take, ds_X7_take, Or.inl (tg1 (List.mem_of_getElem? (i := 655) (by decide +kernel)) rfl)⟩
set_option maxRecDepth 100000 in
theorem co_L_67 : CO RL 67 yX8_take cX8_take 2 (some .int) 1 := ⟨cd_X8_take, in_LetterTrayModel, im_X8_take, se_X8_take, ds_X8_take, Or.inl (tg1 (List.mem_of_getElem? (i := 1204) (by decide +kernel)) rfl)⟩
set_option maxRecDepth 100000 in
theorem co_L_68 : CO RL 68 yX7_drift cX7_drift 3 (some .int) 1 := ⟨cd_X7_drift, in_LetterTray, im_X7_drift, se_X7_drift, ds_X7_drift, Or.inl (tg1 (List.mem_of_getElem? (i := 673) (by decide +kernel)) rfl)⟩
set_option maxRecDepth 100000 in
theorem co_L_71 : CO RL 71 yX8_drift cX8_drift 3 (some .int) 1 := ⟨cd_X8_drift, in_LetterTrayModel, im_X8_drift, se_X8_drift, ds_X8_drift, Or.inl (tg1 (List.mem_of_getElem? (i := 1216) (by decide +kernel)) rfl)⟩
set_option maxRecDepth 100000 in
theorem co_L_72 : CO RL 72 yX7_undo cX7_undo 2 (some .int) 1 := ⟨cd_X7_undo, in_LetterTray, im_X7_undo, se_X7_undo, ds_X7_undo, Or.inl (tg1 (List.mem_of_getElem? (i := 693) (by decide +kernel)) rfl)⟩
set_option maxRecDepth 100000 in
theorem co_L_75 : CO RL 75 yX8_undo cX8_undo 3 (some .int) 1 := ⟨cd_X8_undo, in_LetterTrayModel, im_X8_undo, se_X8_undo, ds_X8_undo, Or.inl (tg1 (List.mem_of_getElem? (i := 1225) (by decide +kernel)) rfl)⟩
set_option maxRecDepth 100000 in
theorem co_L_76 : CO RL 76 yX7_needs cX7_needs 3 (some .int) 2 := ⟨cd_X7_needs, in_LetterTray, im_X7_needs, se_X7_needs, ds_X7_needs, Or.inl (tg1 (List.mem_of_getElem? (i := 701) (by decide +kernel)) rfl)⟩
set_option maxRecDepth 100000 in
theorem co_L_79 : CO RL 79 yX8_needs cX8_needs 3 (some .int) 2 := ⟨cd_X8_needs, in_LetterTrayModel, im_X8_needs, se_X8_needs, ds_X8_needs, Or.inl (tg1 (List.mem_of_getElem? (i := 1117) (by decide +kernel)) rfl)⟩
set_option maxRecDepth 100000 in
theorem co_L_80 : CO RL 80 yX7_first cX7_first 2 (some .int) 1 := ⟨cd_X7_first, in_LetterTray, im_X7_first, se_X7_first, ds_X7_first, Or.inl (tg1 (List.mem_of_getElem? (i := 705) (by decide +kernel)) rfl)⟩
set_option maxRecDepth 100000 in
theorem co_L_83 : CO RL 83 yX8_first cX8_first 2 (some .int) 1 := ⟨cd_X8_first, in_LetterTrayModel, im_X8_first, se_X8_first, ds_X8_first, Or.inl (tg1 (List.mem_of_getElem? (i := 1097) (by decide +kernel)) rfl)⟩
set_option maxRecDepth 100000 in
theorem co_L_84 : CO RL 84 yX7_ladder cX7_ladder 4 (some .int) 3 := ⟨cd_X7_ladder, in_LetterTray, im_X7_ladder, se_X7_ladder, ds_X7_ladder, Or.inl (tg1 (List.mem_of_getElem? (i := 717) (by decide +kernel)) rfl)⟩
set_option maxRecDepth 100000 in
theorem co_L_88 : CO RL 88 yX8_ladder cX8_ladder 6 (some .int) 3 := ⟨cd_X8_ladder, in_LetterTrayModel, im_X8_ladder, se_X8_ladder, ds_X8_ladder, Or.inl (tg1 (List.mem_of_getElem? (i := 1122) (by decide +kernel)) rfl)⟩
set_option maxRecDepth 100000 in
theorem co_L_89 : CO RL 89 yX7_far cX7_far 3 (some .int) 2 := ⟨cd_X7_far, in_LetterTray, im_X7_far, se_X7_far, ds_X7_far, Or.inl (tg1 (List.mem_of_getElem? (i := 726) (by decide +kernel)) rfl)⟩
set_option maxRecDepth 100000 in
theorem co_L_92 : CO RL 92 yX8_far cX8_far 5 (some .int) 2 := ⟨cd_X8_far, in_LetterTrayModel, im_X8_far, se_X8_far, ds_X8_far, Or.inl (tg1 (List.mem_of_getElem? (i := 1149) (by decide +kernel)) rfl)⟩
set_option maxRecDepth 100000 in
theorem co_L_93 : CO RL 93 yX7_right cX7_right 4 (some .int) 3 := ⟨cd_X7_right, in_LetterTray, im_X7_right, se_X7_right, ds_X7_right, Or.inl (tg1 (List.mem_of_getElem? (i := 734) (by decide +kernel)) rfl)⟩
set_option maxRecDepth 100000 in
theorem co_L_96 : CO RL 96 yX8_right cX8_right 4 (some .int) 3 := ⟨cd_X8_right, in_LetterTrayModel, im_X8_right, se_X8_right, ds_X8_right, Or.inl (tg1 (List.mem_of_getElem? (i := 1230) (by decide +kernel)) rfl)⟩
set_option maxRecDepth 100000 in
theorem co_L_97 : CO RL 97 yX7_luck cX7_luck 6 (some .int) 2 := ⟨cd_X7_luck, in_LetterTray, im_X7_luck, se_X7_luck, ds_X7_luck, Or.inl (tg1 (List.mem_of_getElem? (i := 746) (by decide +kernel)) rfl)⟩
set_option maxRecDepth 100000 in
theorem co_L_100 : CO RL 100 yX8_luck cX8_luck 6 (some .int) 2 := ⟨cd_X8_luck, in_LetterTrayModel, im_X8_luck, se_X8_luck, ds_X8_luck, Or.inl (tg1 (List.mem_of_getElem? (i := 1242) (by decide +kernel)) rfl)⟩
set_option maxRecDepth 100000 in
theorem co_L_101 : CO RL 101 yX7_say cX7_say 4 (some .int) 3 := ⟨cd_X7_say, in_LetterTray, im_X7_say, se_X7_say, ds_X7_say, Or.inl (tg1 (List.mem_of_getElem? (i := 752) (by decide +kernel)) rfl)⟩
set_option maxRecDepth 100000 in
theorem co_L_104 : CO RL 104 yX8_say cX8_say 4 (some .int) 3 := ⟨cd_X8_say, in_LetterTrayModel, im_X8_say, se_X8_say, ds_X8_say, Or.inl (tg1 (List.mem_of_getElem? (i := 1249) (by decide +kernel)) rfl)⟩
set_option maxRecDepth 100000 in
theorem co_L_105 : CO RL 105 yX7_couldBe cX7_couldBe 1 (some .int) 0 := ⟨cd_X7_couldBe, in_LetterTray, im_X7_couldBe, se_X7_couldBe, ds_X7_couldBe, Or.inl (tg1 (List.mem_of_getElem? (i := 760) (by decide +kernel)) rfl)⟩
set_option maxRecDepth 100000 in
theorem co_L_108 : CO RL 108 yX8_couldBe cX8_couldBe 5 (some .int) 0 := ⟨cd_X8_couldBe, in_LetterTrayModel, im_X8_couldBe, se_X8_couldBe, ds_X8_couldBe, Or.inl (tg1 (List.mem_of_getElem? (i := 1254) (by decide +kernel)) rfl)⟩
set_option maxRecDepth 100000 in
theorem co_L_109 : CO RL 109 yX7_ask cX7_ask 1 (some .int) 0 := ⟨cd_X7_ask, in_LetterTray, im_X7_ask, se_X7_ask, ds_X7_ask, Or.inl (tg1 (List.mem_of_getElem? (i := 774) (by decide +kernel)) rfl)⟩
set_option maxRecDepth 100000 in
theorem co_L_112 : CO RL 112 yX8_ask cX8_ask 6 (some .int) 0 := ⟨cd_X8_ask, in_LetterTrayModel, im_X8_ask, se_X8_ask, ds_X8_ask, Or.inl (tg1 (List.mem_of_getElem? (i := 1258) (by decide +kernel)) rfl)⟩
set_option maxRecDepth 100000 in
theorem co_L_113 : CO RL 113 yX7_write cX7_write 3 (some .int) 2 := ⟨cd_X7_write, in_LetterTray, im_X7_write, se_X7_write, ds_X7_write, Or.inl (tg1 (List.mem_of_getElem? (i := 798) (by decide +kernel)) rfl)⟩
set_option maxRecDepth 100000 in
theorem co_L_116 : CO RL 116 yX8_write cX8_write 3 (some .int) 2 := ⟨cd_X8_write, in_LetterTrayModel, im_X8_write, se_X8_write, ds_X8_write, Or.inl (tg1 (List.mem_of_getElem? (i := 1270) (by decide +kernel)) rfl)⟩
set_option maxRecDepth 100000 in
theorem co_L_117 : CO RL 117 yX7_judge cX7_judge 1 (some .int) 0 := ⟨cd_X7_judge, in_LetterTray, im_X7_judge, se_X7_judge, ds_X7_judge, Or.inl (tg1 (List.mem_of_getElem? (i := 806) (by decide +kernel)) rfl)⟩
set_option maxRecDepth 100000 in
theorem co_L_120 : CO RL 120 yX8_judge cX8_judge 4 (some .int) 0 := ⟨cd_X8_judge, in_LetterTrayModel, im_X8_judge, se_X8_judge, ds_X8_judge, Or.inl (tg1 (List.mem_of_getElem? (i := 1274) (by decide +kernel)) rfl)⟩
set_option maxRecDepth 100000 in
theorem co_L_121 : CO RL 121 yX7_tear cX7_tear 2 (some .int) 0 := ⟨cd_X7_tear, in_LetterTray, im_X7_tear, se_X7_tear, ds_X7_tear, Or.inl (tg1 (List.mem_of_getElem? (i := 815) (by decide +kernel)) rfl)⟩
set_option maxRecDepth 100000 in
theorem co_L_124 : CO RL 124 yX8_tear cX8_tear 2 (some .int) 0 := ⟨cd_X8_tear, in_LetterTrayModel, im_X8_tear, se_X8_tear, ds_X8_tear, Or.inl (tg1 (List.mem_of_getElem? (i := 1278) (by decide +kernel)) rfl)⟩
set_option maxRecDepth 100000 in
theorem co_L_125 : CO RL 125 yX7_seed cX7_seed 3 (some .int) 1 := ⟨cd_X7_seed, in_LetterTray, im_X7_seed, se_X7_seed, ds_X7_seed, Or.inl (tg1 (List.mem_of_getElem? (i := 819) (by decide +kernel)) rfl)⟩
set_option maxRecDepth 100000 in
theorem co_L_128 : CO RL 128 yX8_seed cX8_seed 3 (some .int) 1 := ⟨cd_X8_seed, in_LetterTrayModel, im_X8_seed, se_X8_seed, ds_X8_seed, Or.inl (tg1 (List.mem_of_getElem? (i := 1282) (by decide +kernel)) rfl)⟩
set_option maxRecDepth 100000 in
theorem co_L_129 : CO RL 129 yX7_keep cX7_keep 3 (some .int) 1 := ⟨cd_X7_keep, in_LetterTray, im_X7_keep, se_X7_keep, ds_X7_keep, Or.inl (tg1 (List.mem_of_getElem? (i := 823) (by decide +kernel)) rfl)⟩
set_option maxRecDepth 100000 in
theorem co_L_132 : CO RL 132 yX8_keep cX8_keep 3 (some .int) 1 := ⟨cd_X8_keep, in_LetterTrayModel, im_X8_keep, se_X8_keep, ds_X8_keep, Or.inl (tg1 (List.mem_of_getElem? (i := 1286) (by decide +kernel)) rfl)⟩
set_option maxRecDepth 100000 in
theorem co_L_133 : CO RL 133 yX7_goBack cX7_goBack 3 (some .int) 1 := ⟨cd_X7_goBack, in_LetterTray, im_X7_goBack, se_X7_goBack, ds_X7_goBack, Or.inl (tg1 (List.mem_of_getElem? (i := 828) (by decide +kernel)) rfl)⟩
set_option maxRecDepth 100000 in
theorem co_L_136 : CO RL 136 yX8_goBack cX8_goBack 3 (some .int) 1 := ⟨cd_X8_goBack, in_LetterTrayModel, im_X8_goBack, se_X8_goBack, ds_X8_goBack, Or.inl (tg1 (List.mem_of_getElem? (i := 1290) (by decide +kernel)) rfl)⟩
set_option maxRecDepth 100000 in
theorem lk_X0_34 : Cond.methodLink RX0 34 arraycopyName ∈ tblG := tg1 (List.mem_of_getElem? (i := 422) (by decide +kernel)) rfl
set_option maxRecDepth 100000 in
theorem co_X0_40 : SO RX0 40 yJ7_fill_53178 cJ7_fill_53178 4 none 2 := ⟨cd_J7_fill_53178, in_java_util_Arrays, st_J7_fill_53178, ds_J7_fill_53178, tg1 (List.mem_of_getElem? (i := 425) (by decide +kernel)) rfl⟩
set_option maxRecDepth 100000 in
theorem co_X0_46 : CO RX0 46 yX6_has cX6_has 2 (some .boolean) 1 := ⟨cd_X6_has, in_LetterTray_Words, im_X6_has, se_X6_has, ds_X6_has, Or.inr (tn1 (List.mem_of_getElem? (i := 649) (by decide +kernel)) rfl)⟩
set_option maxRecDepth 100000 in
theorem co_X0_52 : CO RX0 52 yX6_lengthOf cX6_lengthOf 2 (some .int) 1 := ⟨cd_X6_lengthOf, in_LetterTray_Words, im_X6_lengthOf, se_X6_lengthOf, ds_X6_lengthOf, Or.inr (tn1 (List.mem_of_getElem? (i := 650) (by decide +kernel)) rfl)⟩
set_option maxRecDepth 100000 in
theorem co_X0_56 : CO RX0 56 yX6_letterAt cX6_letterAt 3 (some .int) 2 := ⟨cd_X6_letterAt, in_LetterTray_Words, im_X6_letterAt, se_X6_letterAt, ds_X6_letterAt, Or.inr (tn1 (List.mem_of_getElem? (i := 654) (by decide +kernel)) rfl)⟩
set_option maxRecDepth 100000 in
theorem co_X0_63 : CO RX0 63 yX0_hasLaid cX0_hasLaid 2 (some .boolean) 1 := ⟨cd_X0_hasLaid, in_LetterTray_Desk, im_X0_hasLaid, se_X0_hasLaid, ds_X0_hasLaid, Or.inl (tg1 (List.mem_of_getElem? (i := 672) (by decide +kernel)) rfl)⟩
set_option maxRecDepth 100000 in
theorem co_X1_24 : IO' RX1 24 yX0_init cX0_init 1 0 := ⟨cd_X0_init, in_LetterTray_Desk, im_X0_init, rfl, ds_X0_init, Or.inr (tn1 (List.mem_of_getElem? (i := 92) (by decide +kernel)) rfl)⟩
set_option maxRecDepth 100000 in
theorem co_X1_25 : CO RX1 25 yX0_become cX0_become 2 none 1 := ⟨cd_X0_become, in_LetterTray_Desk, im_X0_become, se_X0_become, ds_X0_become, Or.inr (tn1 (List.mem_of_getElem? (i := 589) (by decide +kernel)) rfl)⟩
set_option maxRecDepth 100000 in
theorem lk_X1_29 : Cond.methodLink RX1 29 Lib.Math.min.name ∈ tblG := tg1 (List.mem_of_getElem? (i := 593) (by decide +kernel)) rfl
set_option maxRecDepth 100000 in
theorem co_X2_9 : IO' RX2 9 yX0_init cX0_init 1 0 := ⟨cd_X0_init, in_LetterTray_Desk, im_X0_init, rfl, ds_X0_init, Or.inr (tn1 (List.mem_of_getElem? (i := 112) (by decide +kernel)) rfl)⟩
set_option maxRecDepth 100000 in
theorem co_X3_28 : CO RX3 28 yX6_clear cX6_clear 1 none 0 := ⟨cd_X6_clear, in_LetterTray_Words, im_X6_clear, se_X6_clear, ds_X6_clear, Or.inr (tn1 (List.mem_of_getElem? (i := 295) (by decide +kernel)) rfl)⟩
set_option maxRecDepth 100000 in
theorem co_X3_33 : CO RX3 33 yX3_skipSpaces cX3_skipSpaces 1 none 0 := ⟨cd_X3_skipSpaces, in_LetterTray_Reader, im_X3_skipSpaces, se_X3_skipSpaces, ds_X3_skipSpaces, Or.inl (tg1 (List.mem_of_getElem? (i := 302) (by decide +kernel)) rfl)⟩
set_option maxRecDepth 100000 in
theorem co_X3_36 : CO RX3 36 yX3_readClause cX3_readClause 2 none 1 := ⟨cd_X3_readClause, in_LetterTray_Reader, im_X3_readClause, se_X3_readClause, ds_X3_readClause, Or.inl (tg1 (List.mem_of_getElem? (i := 306) (by decide +kernel)) rfl)⟩
set_option maxRecDepth 100000 in
theorem co_X3_40 : CO RX3 40 yX3_stands cX3_stands 2 (some .boolean) 1 := ⟨cd_X3_stands, in_LetterTray_Reader, im_X3_stands, se_X3_stands, ds_X3_stands, Or.inl (tg1 (List.mem_of_getElem? (i := 310) (by decide +kernel)) rfl)⟩
set_option maxRecDepth 100000 in
theorem co_X3_48 : CO RX3 48 yX3_startClause cX3_startClause 2 none 1 := ⟨cd_X3_startClause, in_LetterTray_Reader, im_X3_startClause, se_X3_startClause, ds_X3_startClause, Or.inl (tg1 (List.mem_of_getElem? (i := 314) (by decide +kernel)) rfl)⟩
set_option maxRecDepth 100000 in
theorem co_X3_52 : CO RX3 52 yX3_readValues cX3_readValues 3 none 1 := ⟨cd_X3_readValues, in_LetterTray_Reader, im_X3_readValues, se_X3_readValues, ds_X3_readValues, Or.inl (tg1 (List.mem_of_getElem? (i := 322) (by decide +kernel)) rfl)⟩
set_option maxRecDepth 100000 in
theorem co_X3_58 : CO RX3 58 yX3_readBag cX3_readBag 4 none 1 := ⟨cd_X3_readBag, in_LetterTray_Reader, im_X3_readBag, se_X3_readBag, ds_X3_readBag, Or.inl (tg1 (List.mem_of_getElem? (i := 337) (by decide +kernel)) rfl)⟩
set_option maxRecDepth 100000 in
theorem co_X3_64 : CO RX3 64 yX3_readWord cX3_readWord 5 none 1 := ⟨cd_X3_readWord, in_LetterTray_Reader, im_X3_readWord, se_X3_readWord, ds_X3_readWord, Or.inl (tg1 (List.mem_of_getElem? (i := 349) (by decide +kernel)) rfl)⟩
set_option maxRecDepth 100000 in
theorem co_X3_67 : CO RX3 67 yX3_fail cX3_fail 3 none 2 := ⟨cd_X3_fail, in_LetterTray_Reader, im_X3_fail, se_X3_fail, ds_X3_fail, Or.inl (tg1 (List.mem_of_getElem? (i := 318) (by decide +kernel)) rfl)⟩
set_option maxRecDepth 100000 in
theorem co_X3_75 : CO RX3 75 yX3_readNumber cX3_readNumber 5 (some .int) 2 := ⟨cd_X3_readNumber, in_LetterTray_Reader, im_X3_readNumber, se_X3_readNumber, ds_X3_readNumber, Or.inl (tg1 (List.mem_of_getElem? (i := 326) (by decide +kernel)) rfl)⟩
set_option maxRecDepth 100000 in
theorem co_X3_79 : CO RX3 79 yX3_pass cX3_pass 2 none 1 := ⟨cd_X3_pass, in_LetterTray_Reader, im_X3_pass, se_X3_pass, ds_X3_pass, Or.inl (tg1 (List.mem_of_getElem? (i := 333) (by decide +kernel)) rfl)⟩
set_option maxRecDepth 100000 in
theorem co_X3_83 : CO RX3 83 yX3_sortHere cX3_sortHere 2 (some .int) 0 := ⟨cd_X3_sortHere, in_LetterTray_Reader, im_X3_sortHere, se_X3_sortHere, ds_X3_sortHere, Or.inl (tg1 (List.mem_of_getElem? (i := 341) (by decide +kernel)) rfl)⟩
set_option maxRecDepth 100000 in
theorem co_X3_87 : CO RX3 87 yX3_endLetters cX3_endLetters 2 none 1 := ⟨cd_X3_endLetters, in_LetterTray_Reader, im_X3_endLetters, se_X3_endLetters, ds_X3_endLetters, Or.inl (tg1 (List.mem_of_getElem? (i := 345) (by decide +kernel)) rfl)⟩
set_option maxRecDepth 100000 in
theorem co_X3_94 : CO RX3 94 yX3_endWord cX3_endWord 5 none 3 := ⟨cd_X3_endWord, in_LetterTray_Reader, im_X3_endWord, se_X3_endWord, ds_X3_endWord, Or.inl (tg1 (List.mem_of_getElem? (i := 353) (by decide +kernel)) rfl)⟩
set_option maxRecDepth 100000 in
theorem co_X3_98 : CO RX3 98 yX6_spell cX6_spell 3 none 2 := ⟨cd_X6_spell, in_LetterTray_Words, im_X6_spell, se_X6_spell, ds_X6_spell, Or.inr (tn1 (List.mem_of_getElem? (i := 365) (by decide +kernel)) rfl)⟩
set_option maxRecDepth 100000 in
theorem co_X3_101 : CO RX3 101 yX6_add cX6_add 4 (some .boolean) 2 := ⟨cd_X6_add, in_LetterTray_Words, im_X6_add, se_X6_add, ds_X6_add, Or.inr (tn1 (List.mem_of_getElem? (i := 357) (by decide +kernel)) rfl)⟩
set_option maxRecDepth 100000 in
theorem lk_X3_105 : Cond.methodLink RX3 105 Lib.Math.min.name ∈ tblG := tg1 (List.mem_of_getElem? (i := 330) (by decide +kernel)) rfl
set_option maxRecDepth 100000 in
theorem co_X4_36 : CO RX4 36 yX4_isTray cX4_isTray 3 (some .boolean) 1 := ⟨cd_X4_isTray, in_LetterTray_Rows, im_X4_isTray, se_X4_isTray, ds_X4_isTray, Or.inl (tg1 (List.mem_of_getElem? (i := 477) (by decide +kernel)) rfl)⟩
set_option maxRecDepth 100000 in
theorem lk_X4_40 : Cond.methodLink RX4 40 arraycopyName ∈ tblG := tg1 (List.mem_of_getElem? (i := 481) (by decide +kernel)) rfl
set_option maxRecDepth 100000 in
theorem co_X4_46 : CO RX4 46 yX4_countRests cX4_countRests 2 none 0 := ⟨cd_X4_countRests, in_LetterTray_Rows, im_X4_countRests, se_X4_countRests, ds_X4_countRests, Or.inl (tg1 (List.mem_of_getElem? (i := 482) (by decide +kernel)) rfl)⟩
set_option maxRecDepth 100000 in
theorem co_X4_49 : CO RX4 49 yX4_countWays cX4_countWays 4 none 0 := ⟨cd_X4_countWays, in_LetterTray_Rows, im_X4_countWays, se_X4_countWays, ds_X4_countWays, Or.inl (tg1 (List.mem_of_getElem? (i := 487) (by decide +kernel)) rfl)⟩
set_option maxRecDepth 100000 in
theorem co_X4_52 : CO RX4 52 yX4_rankRests cX4_rankRests 3 none 0 := ⟨cd_X4_rankRests, in_LetterTray_Rows, im_X4_rankRests, se_X4_rankRests, ds_X4_rankRests, Or.inl (tg1 (List.mem_of_getElem? (i := 501) (by decide +kernel)) rfl)⟩
set_option maxRecDepth 100000 in
theorem lk_X4_55 : Cond.methodLink RX4 55 Lib.Math.min.name ∈ tblG := tg1 (List.mem_of_getElem? (i := 486) (by decide +kernel)) rfl
set_option maxRecDepth 100000 in
theorem co_X4_61 : SO RX4 61 yJ7_fill_53178 cJ7_fill_53178 4 none 2 := ⟨cd_J7_fill_53178, in_java_util_Arrays, st_J7_fill_53178, ds_J7_fill_53178, tg1 (List.mem_of_getElem? (i := 491) (by decide +kernel)) rfl⟩
set_option maxRecDepth 100000 in
theorem co_X4_72 : CO RX4 72 yX4_after cX4_after 8 (some .int) 2 := ⟨cd_X4_after, in_LetterTray_Rows, im_X4_after, se_X4_after, ds_X4_after, Or.inl (tg1 (List.mem_of_getElem? (i := 492) (by decide +kernel)) rfl)⟩
set_option maxRecDepth 100000 in
theorem co_X4_75 : CO RX4 75 yX4_rankWith cX4_rankWith 4 (some .int) 2 := ⟨cd_X4_rankWith, in_LetterTray_Rows, im_X4_rankWith, se_X4_rankWith, ds_X4_rankWith, Or.inl (tg1 (List.mem_of_getElem? (i := 505) (by decide +kernel)) rfl)⟩
set_option maxRecDepth 100000 in
theorem lk_X4_78 : Cond.methodLink RX4 78 Lib.Math.max.name ∈ tblG := tg1 (List.mem_of_getElem? (i := 509) (by decide +kernel)) rfl
set_option maxRecDepth 100000 in
theorem co_X4_84 : CO RX4 84 yX4_countIn cX4_countIn 4 (some .int) 2 := ⟨cd_X4_countIn, in_LetterTray_Rows, im_X4_countIn, se_X4_countIn, ds_X4_countIn, Or.inl (tg1 (List.mem_of_getElem? (i := 496) (by decide +kernel)) rfl)⟩
set_option maxRecDepth 100000 in
theorem co_X4_87 : CO RX4 87 yX6_needOf cX6_needOf 3 (some .int) 2 := ⟨cd_X6_needOf, in_LetterTray_Words, im_X6_needOf, se_X6_needOf, ds_X6_needOf, Or.inr (tn1 (List.mem_of_getElem? (i := 500) (by decide +kernel)) rfl)⟩
set_option maxRecDepth 100000 in
theorem co_X4_90 : CO RX4 90 yX4_most cX4_most 1 (some .int) 0 := ⟨cd_X4_most, in_LetterTray_Rows, im_X4_most, se_X4_most, ds_X4_most, Or.inl (tg1 (List.mem_of_getElem? (i := 522) (by decide +kernel)) rfl)⟩
set_option maxRecDepth 100000 in
theorem co_X4_94 : CO RX4 94 yX4_leastOfBest cX4_leastOfBest 3 (some .int) 1 := ⟨cd_X4_leastOfBest, in_LetterTray_Rows, im_X4_leastOfBest, se_X4_leastOfBest, ds_X4_leastOfBest, Or.inl (tg1 (List.mem_of_getElem? (i := 713) (by decide +kernel)) rfl)⟩
set_option maxRecDepth 100000 in
theorem co_X5_39 : CO RX5 39 yX5_fits cX5_fits 4 (some .boolean) 2 := ⟨cd_X5_fits, in_LetterTray_Talk, im_X5_fits, se_X5_fits, ds_X5_fits, Or.inl (tg1 (List.mem_of_getElem? (i := 768) (by decide +kernel)) rfl)⟩
set_option maxRecDepth 100000 in
theorem co_X5_43 : CO RX5 43 yX6_rightOf cX6_rightOf 3 (some .int) 2 := ⟨cd_X6_rightOf, in_LetterTray_Words, im_X6_rightOf, se_X6_rightOf, ds_X6_rightOf, Or.inr (tn1 (List.mem_of_getElem? (i := 772) (by decide +kernel)) rfl)⟩
set_option maxRecDepth 100000 in
theorem co_X5_47 : CO RX5 47 yX6_moreOf cX6_moreOf 3 (some .int) 2 := ⟨cd_X6_moreOf, in_LetterTray_Words, im_X6_moreOf, se_X6_moreOf, ds_X6_moreOf, Or.inr (tn1 (List.mem_of_getElem? (i := 773) (by decide +kernel)) rfl)⟩
set_option maxRecDepth 100000 in
theorem co_X5_50 : CO RX5 50 yX5_fitting cX5_fitting 4 (some .int) 1 := ⟨cd_X5_fitting, in_LetterTray_Talk, im_X5_fitting, se_X5_fitting, ds_X5_fitting, Or.inl (tg1 (List.mem_of_getElem? (i := 782) (by decide +kernel)) rfl)⟩
set_option maxRecDepth 100000 in
theorem co_X5_54 : SO RX5 54 yJ6_bitCount_0f7a4 cJ6_bitCount_0f7a4 1 (some .int) 1 := ⟨cd_J6_bitCount_0f7a4, in_java_lang_Integer, st_J6_bitCount_0f7a4, ds_J6_bitCount_0f7a4, tg1 (List.mem_of_getElem? (i := 783) (by decide +kernel)) rfl⟩
set_option maxRecDepth 100000 in
theorem co_X5_60 : CO RX5 60 yX5_greatestPart cX5_greatestPart 6 (some .int) 3 := ⟨cd_X5_greatestPart, in_LetterTray_Talk, im_X5_greatestPart, se_X5_greatestPart, ds_X5_greatestPart, Or.inl (tg1 (List.mem_of_getElem? (i := 789) (by decide +kernel)) rfl)⟩
set_option maxRecDepth 100000 in
theorem co_X5_64 : CO RX5 64 yX5_partWith cX5_partWith 7 (some .int) 4 := ⟨cd_X5_partWith, in_LetterTray_Talk, im_X5_partWith, se_X5_partWith, ds_X5_partWith, Or.inl (tg1 (List.mem_of_getElem? (i := 793) (by decide +kernel)) rfl)⟩
set_option maxRecDepth 100000 in
theorem lk_X5_68 : Cond.methodLink RX5 68 Lib.Math.max.name ∈ tblG := tg1 (List.mem_of_getElem? (i := 797) (by decide +kernel)) rfl
set_option maxRecDepth 100000 in
theorem co_X5_73 : CO RX5 73 yX0_hasLaid cX0_hasLaid 2 (some .boolean) 1 := ⟨cd_X0_hasLaid, in_LetterTray_Desk, im_X0_hasLaid, se_X0_hasLaid, ds_X0_hasLaid, Or.inr (tn1 (List.mem_of_getElem? (i := 814) (by decide +kernel)) rfl)⟩
set_option maxRecDepth 100000 in
theorem co_X6_53 : SO RX6 53 yJ7_fill_53178 cJ7_fill_53178 4 none 2 := ⟨cd_J7_fill_53178, in_java_util_Arrays, st_J7_fill_53178, ds_J7_fill_53178, tg1 (List.mem_of_getElem? (i := 299) (by decide +kernel)) rfl⟩
set_option maxRecDepth 100000 in
theorem co_X6_59 : CO RX6 59 yX6_samePlaces cX6_samePlaces 5 (some .int) 2 := ⟨cd_X6_samePlaces, in_LetterTray_Words, im_X6_samePlaces, se_X6_samePlaces, ds_X6_samePlaces, Or.inl (tg1 (List.mem_of_getElem? (i := 361) (by decide +kernel)) rfl)⟩
set_option maxRecDepth 100000 in
theorem co_X6_63 : CO RX6 63 yX6_has cX6_has 2 (some .boolean) 1 := ⟨cd_X6_has, in_LetterTray_Words, im_X6_has, se_X6_has, ds_X6_has, Or.inl (tg1 (List.mem_of_getElem? (i := 535) (by decide +kernel)) rfl)⟩
set_option maxRecDepth 100000 in
theorem co_X6_67 : CO RX6 67 yX6_countNeeds cX6_countNeeds 5 none 1 := ⟨cd_X6_countNeeds, in_LetterTray_Words, im_X6_countNeeds, se_X6_countNeeds, ds_X6_countNeeds, Or.inl (tg1 (List.mem_of_getElem? (i := 373) (by decide +kernel)) rfl)⟩
set_option maxRecDepth 100000 in
theorem co_X6_71 : CO RX6 71 yX6_worthOf cX6_worthOf 4 (some .int) 1 := ⟨cd_X6_worthOf, in_LetterTray_Words, im_X6_worthOf, se_X6_worthOf, ds_X6_worthOf, Or.inl (tg1 (List.mem_of_getElem? (i := 381) (by decide +kernel)) rfl)⟩
set_option maxRecDepth 100000 in
theorem co_X6_75 : CO RX6 75 yX6_inBoth cX6_inBoth 5 (some .int) 2 := ⟨cd_X6_inBoth, in_LetterTray_Words, im_X6_inBoth, se_X6_inBoth, ds_X6_inBoth, Or.inl (tg1 (List.mem_of_getElem? (i := 393) (by decide +kernel)) rfl)⟩
set_option maxRecDepth 100000 in
theorem co_X6_78 : CO RX6 78 yX6_isStep cX6_isStep 3 (some .boolean) 2 := ⟨cd_X6_isStep, in_LetterTray_Words, im_X6_isStep, se_X6_isStep, ds_X6_isStep, Or.inl (tg1 (List.mem_of_getElem? (i := 398) (by decide +kernel)) rfl)⟩
set_option maxRecDepth 100000 in
theorem co_X6_82 : CO RX6 82 yX6_joinSteps cX6_joinSteps 6 none 0 := ⟨cd_X6_joinSteps, in_LetterTray_Words, im_X6_joinSteps, se_X6_joinSteps, ds_X6_joinSteps, Or.inl (tg1 (List.mem_of_getElem? (i := 410) (by decide +kernel)) rfl)⟩
set_option maxRecDepth 100000 in
theorem co_X6_85 : CO RX6 85 yX6_letterAt cX6_letterAt 3 (some .int) 2 := ⟨cd_X6_letterAt, in_LetterTray_Words, im_X6_letterAt, se_X6_letterAt, ds_X6_letterAt, Or.inl (tg1 (List.mem_of_getElem? (i := 377) (by decide +kernel)) rfl)⟩
set_option maxRecDepth 100000 in
theorem co_X6_88 : CO RX6 88 yX6_needOf cX6_needOf 3 (some .int) 2 := ⟨cd_X6_needOf, in_LetterTray_Words, im_X6_needOf, se_X6_needOf, ds_X6_needOf, Or.inl (tg1 (List.mem_of_getElem? (i := 385) (by decide +kernel)) rfl)⟩
set_option maxRecDepth 100000 in
theorem co_X6_91 : CO RX6 91 yX6_isMirror cX6_isMirror 4 (some .boolean) 1 := ⟨cd_X6_isMirror, in_LetterTray_Words, im_X6_isMirror, se_X6_isMirror, ds_X6_isMirror, Or.inl (tg1 (List.mem_of_getElem? (i := 389) (by decide +kernel)) rfl)⟩
set_option maxRecDepth 100000 in
theorem lk_X6_94 : Cond.methodLink RX6 94 Lib.Math.min.name ∈ tblG := tg1 (List.mem_of_getElem? (i := 397) (by decide +kernel)) rfl
set_option maxRecDepth 100000 in
theorem co_X6_99 : CO RX6 99 yX6_areKin cX6_areKin 3 (some .boolean) 2 := ⟨cd_X6_areKin, in_LetterTray_Words, im_X6_areKin, se_X6_areKin, ds_X6_areKin, Or.inl (tg1 (List.mem_of_getElem? (i := 402) (by decide +kernel)) rfl)⟩
set_option maxRecDepth 100000 in
theorem co_X6_102 : CO RX6 102 yX6_isLonger cX6_isLonger 5 (some .boolean) 2 := ⟨cd_X6_isLonger, in_LetterTray_Words, im_X6_isLonger, se_X6_isLonger, ds_X6_isLonger, Or.inl (tg1 (List.mem_of_getElem? (i := 406) (by decide +kernel)) rfl)⟩
set_option maxRecDepth 100000 in
theorem co_X6_105 : CO RX6 105 yX6_stepsTo cX6_stepsTo 4 (some .int) 2 := ⟨cd_X6_stepsTo, in_LetterTray_Words, im_X6_stepsTo, se_X6_stepsTo, ds_X6_stepsTo, Or.inl (tg1 (List.mem_of_getElem? (i := 531) (by decide +kernel)) rfl)⟩
set_option maxRecDepth 100000 in
theorem lk_X6_108 : Cond.methodLink RX6 108 Lib.Math.max.name ∈ tblG := tg1 (List.mem_of_getElem? (i := 539) (by decide +kernel)) rfl
set_option maxRecDepth 100000 in
theorem co_X7_9 : IO' RX7 9 yX3_init cX3_init 1 0 := ⟨cd_X3_init, in_LetterTray_Reader, im_X3_init, rfl, ds_X3_init, Or.inr (tn1 (List.mem_of_getElem? (i := 24) (by decide +kernel)) rfl)⟩
set_option maxRecDepth 100000 in
theorem co_X7_18 : IO' RX7 18 yX0_init cX0_init 1 0 := ⟨cd_X0_init, in_LetterTray_Desk, im_X0_init, rfl, ds_X0_init, Or.inr (tn1 (List.mem_of_getElem? (i := 49) (by decide +kernel)) rfl)⟩
set_option maxRecDepth 100000 in
theorem co_X7_25 : IO' RX7 25 yX1_init cX1_init 2 0 := ⟨cd_X1_init, in_LetterTray_History, im_X1_init, rfl, ds_X1_init, Or.inr (tn1 (List.mem_of_getElem? (i := 86) (by decide +kernel)) rfl)⟩
set_option maxRecDepth 100000 in
theorem co_X7_36 : IO' RX7 36 yX2_init cX2_init 1 0 := ⟨cd_X2_init, in_LetterTray_Image, im_X2_init, rfl, ds_X2_init, Or.inr (tn1 (List.mem_of_getElem? (i := 107) (by decide +kernel)) rfl)⟩
set_option maxRecDepth 100000 in
theorem co_X7_39 : IO' RX7 39 yX5_init cX5_init 1 0 := ⟨cd_X5_init, in_LetterTray_Talk, im_X5_init, rfl, ds_X5_init, Or.inr (tn1 (List.mem_of_getElem? (i := 128) (by decide +kernel)) rfl)⟩
set_option maxRecDepth 100000 in
theorem co_X7_46 : IO' RX7 46 yX6_init cX6_init 1 0 := ⟨cd_X6_init, in_LetterTray_Words, im_X6_init, rfl, ds_X6_init, Or.inr (tn1 (List.mem_of_getElem? (i := 158) (by decide +kernel)) rfl)⟩
set_option maxRecDepth 100000 in
theorem co_X7_56 : IO' RX7 56 yX4_init cX4_init 2 1 := ⟨cd_X4_init, in_LetterTray_Rows, im_X4_init, rfl, ds_X4_init, Or.inr (tn1 (List.mem_of_getElem? (i := 220) (by decide +kernel)) rfl)⟩
set_option maxRecDepth 100000 in
theorem co_X7_71 : CO RX7 71 yX3_append cX3_append 2 (some .boolean) 1 := ⟨cd_X3_append, in_LetterTray_Reader, im_X3_append, se_X3_append, ds_X3_append, Or.inr (tn1 (List.mem_of_getElem? (i := 282) (by decide +kernel)) rfl)⟩
set_option maxRecDepth 100000 in
theorem co_X7_79 : CO RX7 79 yX3_read cX3_read 3 (some .int) 1 := ⟨cd_X3_read, in_LetterTray_Reader, im_X3_read, se_X3_read, ds_X3_read, Or.inr (tn1 (List.mem_of_getElem? (i := 291) (by decide +kernel)) rfl)⟩
set_option maxRecDepth 100000 in
theorem co_X7_86 : CO RX7 86 yX6_prepare cX6_prepare 4 none 0 := ⟨cd_X6_prepare, in_LetterTray_Words, im_X6_prepare, se_X6_prepare, ds_X6_prepare, Or.inr (tn1 (List.mem_of_getElem? (i := 369) (by decide +kernel)) rfl)⟩
set_option maxRecDepth 100000 in
theorem co_X7_89 : CO RX7 89 yX7_begin cX7_begin 2 none 0 := ⟨cd_X7_begin, in_LetterTray, im_X7_begin, se_X7_begin, ds_X7_begin, Or.inl (tg1 (List.mem_of_getElem? (i := 414) (by decide +kernel)) rfl)⟩
set_option maxRecDepth 100000 in
theorem co_X7_99 : CO RX7 99 yX0_clear cX0_clear 2 none 1 := ⟨cd_X0_clear, in_LetterTray_Desk, im_X0_clear, se_X0_clear, ds_X0_clear, Or.inr (tn1 (List.mem_of_getElem? (i := 418) (by decide +kernel)) rfl)⟩
set_option maxRecDepth 100000 in
theorem co_X7_103 : CO RX7 103 yX1_clear cX1_clear 1 none 0 := ⟨cd_X1_clear, in_LetterTray_History, im_X1_clear, se_X1_clear, ds_X1_clear, Or.inr (tn1 (List.mem_of_getElem? (i := 426) (by decide +kernel)) rfl)⟩
set_option maxRecDepth 100000 in
theorem co_X7_109 : CO RX7 109 yX4_forget cX4_forget 1 none 0 := ⟨cd_X4_forget, in_LetterTray_Rows, im_X4_forget, se_X4_forget, ds_X4_forget, Or.inr (tn1 (List.mem_of_getElem? (i := 430) (by decide +kernel)) rfl)⟩
set_option maxRecDepth 100000 in
theorem co_X7_112 : CO RX7 112 yX5_clear cX5_clear 1 none 0 := ⟨cd_X5_clear, in_LetterTray_Talk, im_X5_clear, se_X5_clear, ds_X5_clear, Or.inr (tn1 (List.mem_of_getElem? (i := 434) (by decide +kernel)) rfl)⟩
set_option maxRecDepth 100000 in
theorem co_X7_117 : SO RX7 117 yX7_sum cX7_sum 6 (some .int) 1 := ⟨cd_X7_sum, in_LetterTray, st_X7_sum, ds_X7_sum, tg1 (List.mem_of_getElem? (i := 446) (by decide +kernel)) rfl⟩
set_option maxRecDepth 100000 in
theorem co_X7_131 : CO RX7 131 yX7_canSet cX7_canSet 3 (some .int) 0 := ⟨cd_X7_canSet, in_LetterTray, im_X7_canSet, se_X7_canSet, ds_X7_canSet, Or.inl (tg1 (List.mem_of_getElem? (i := 449) (by decide +kernel)) rfl)⟩
set_option maxRecDepth 100000 in
theorem co_X7_135 : CO RX7 135 yX7_bestWord cX7_bestWord 4 (some .int) 0 := ⟨cd_X7_bestWord, in_LetterTray, im_X7_bestWord, se_X7_bestWord, ds_X7_bestWord, Or.inl (tg1 (List.mem_of_getElem? (i := 465) (by decide +kernel)) rfl)⟩
set_option maxRecDepth 100000 in
theorem co_X7_138 : CO RX7 138 yX7_tried cX7_tried 1 (some (.object "LetterTray$Rows")) 0 := ⟨cd_X7_tried, in_LetterTray, im_X7_tried, se_X7_tried, ds_X7_tried, Or.inl (tg1 (List.mem_of_getElem? (i := 469) (by decide +kernel)) rfl)⟩
set_option maxRecDepth 100000 in
theorem co_X7_142 : CO RX7 142 yX4_all cX4_all 1 (some .int) 0 := ⟨cd_X4_all, in_LetterTray_Rows, im_X4_all, se_X4_all, ds_X4_all, Or.inr (tn1 (List.mem_of_getElem? (i := 510) (by decide +kernel)) rfl)⟩
set_option maxRecDepth 100000 in
theorem co_X7_145 : CO RX7 145 yX4_most cX4_most 1 (some .int) 0 := ⟨cd_X4_most, in_LetterTray_Rows, im_X4_most, se_X4_most, ds_X4_most, Or.inr (tn1 (List.mem_of_getElem? (i := 514) (by decide +kernel)) rfl)⟩
set_option maxRecDepth 100000 in
theorem co_X7_148 : CO RX7 148 yX4_many cX4_many 1 (some .int) 0 := ⟨cd_X4_many, in_LetterTray_Rows, im_X4_many, se_X4_many, ds_X4_many, Or.inr (tn1 (List.mem_of_getElem? (i := 518) (by decide +kernel)) rfl)⟩
set_option maxRecDepth 100000 in
theorem co_X7_151 : CO RX7 151 yX6_unused cX6_unused 4 (some .int) 0 := ⟨cd_X6_unused, in_LetterTray_Words, im_X6_unused, se_X6_unused, ds_X6_unused, Or.inr (tn1 (List.mem_of_getElem? (i := 523) (by decide +kernel)) rfl)⟩
set_option maxRecDepth 100000 in
theorem co_X7_154 : CO RX7 154 yX6_farthest cX6_farthest 4 (some .int) 0 := ⟨cd_X6_farthest, in_LetterTray_Words, im_X6_farthest, se_X6_farthest, ds_X6_farthest, Or.inr (tn1 (List.mem_of_getElem? (i := 527) (by decide +kernel)) rfl)⟩
set_option maxRecDepth 100000 in
theorem co_X7_167 : CO RX7 167 yX6_has cX6_has 2 (some .boolean) 1 := ⟨cd_X6_has, in_LetterTray_Words, im_X6_has, se_X6_has, ds_X6_has, Or.inr (tn1 (List.mem_of_getElem? (i := 548) (by decide +kernel)) rfl)⟩
set_option maxRecDepth 100000 in
theorem co_X7_180 : CO RX7 180 yX7_missing cX7_missing 4 (some .int) 1 := ⟨cd_X7_missing, in_LetterTray, im_X7_missing, se_X7_missing, ds_X7_missing, Or.inl (tg1 (List.mem_of_getElem? (i := 457) (by decide +kernel)) rfl)⟩
set_option maxRecDepth 100000 in
theorem co_X7_184 : CO RX7 184 yX6_kinOf cX6_kinOf 4 (some .int) 1 := ⟨cd_X6_kinOf, in_LetterTray_Words, im_X6_kinOf, se_X6_kinOf, ds_X6_kinOf, Or.inr (tn1 (List.mem_of_getElem? (i := 550) (by decide +kernel)) rfl)⟩
set_option maxRecDepth 100000 in
theorem co_X7_187 : CO RX7 187 yX6_insideOf cX6_insideOf 4 (some .int) 1 := ⟨cd_X6_insideOf, in_LetterTray_Words, im_X6_insideOf, se_X6_insideOf, ds_X6_insideOf, Or.inr (tn1 (List.mem_of_getElem? (i := 554) (by decide +kernel)) rfl)⟩
set_option maxRecDepth 100000 in
theorem co_X7_190 : CO RX7 190 yX7_odds cX7_odds 5 (some .int) 1 := ⟨cd_X7_odds, in_LetterTray, im_X7_odds, se_X7_odds, ds_X7_odds, Or.inl (tg1 (List.mem_of_getElem? (i := 558) (by decide +kernel)) rfl)⟩
set_option maxRecDepth 100000 in
theorem co_X7_193 : CO RX7 193 yX6_letterAt cX6_letterAt 3 (some .int) 2 := ⟨cd_X6_letterAt, in_LetterTray_Words, im_X6_letterAt, se_X6_letterAt, ds_X6_letterAt, Or.inr (tn1 (List.mem_of_getElem? (i := 566) (by decide +kernel)) rfl)⟩
set_option maxRecDepth 100000 in
theorem co_X7_197 : CO RX7 197 yX0_hasLaid cX0_hasLaid 2 (some .boolean) 1 := ⟨cd_X0_hasLaid, in_LetterTray_Desk, im_X0_hasLaid, se_X0_hasLaid, ds_X0_hasLaid, Or.inr (tn1 (List.mem_of_getElem? (i := 571) (by decide +kernel)) rfl)⟩
set_option maxRecDepth 100000 in
theorem co_X7_206 : CO RX7 206 yX7_drawRefusal cX7_drawRefusal 1 (some .int) 0 := ⟨cd_X7_drawRefusal, in_LetterTray, im_X7_drawRefusal, se_X7_drawRefusal, ds_X7_drawRefusal, Or.inl (tg1 (List.mem_of_getElem? (i := 579) (by decide +kernel)) rfl)⟩
set_option maxRecDepth 100000 in
theorem co_X7_209 : CO RX7 209 yX1_push cX1_push 2 none 1 := ⟨cd_X1_push, in_LetterTray_History, im_X1_push, se_X1_push, ds_X1_push, Or.inr (tn1 (List.mem_of_getElem? (i := 585) (by decide +kernel)) rfl)⟩
set_option maxRecDepth 100000 in
theorem co_X7_213 : CO RX7 213 yX7_drawOne cX7_drawOne 2 (some .int) 0 := ⟨cd_X7_drawOne, in_LetterTray, im_X7_drawOne, se_X7_drawOne, ds_X7_drawOne, Or.inl (tg1 (List.mem_of_getElem? (i := 594) (by decide +kernel)) rfl)⟩
set_option maxRecDepth 100000 in
theorem co_X7_216 : CO RX7 216 yX7_giveRefusal cX7_giveRefusal 2 (some .int) 1 := ⟨cd_X7_giveRefusal, in_LetterTray, im_X7_giveRefusal, se_X7_giveRefusal, ds_X7_giveRefusal, Or.inl (tg1 (List.mem_of_getElem? (i := 617) (by decide +kernel)) rfl)⟩
set_option maxRecDepth 100000 in
theorem co_X7_219 : CO RX7 219 yX7_giveOne cX7_giveOne 2 none 1 := ⟨cd_X7_giveOne, in_LetterTray, im_X7_giveOne, se_X7_giveOne, ds_X7_giveOne, Or.inl (tg1 (List.mem_of_getElem? (i := 621) (by decide +kernel)) rfl)⟩
set_option maxRecDepth 100000 in
theorem co_X7_223 : CO RX7 223 yX0_toBag cX0_toBag 2 none 1 := ⟨cd_X0_toBag, in_LetterTray_Desk, im_X0_toBag, se_X0_toBag, ds_X0_toBag, Or.inr (tn1 (List.mem_of_getElem? (i := 625) (by decide +kernel)) rfl)⟩
set_option maxRecDepth 100000 in
theorem co_X7_226 : CO RX7 226 yX7_layRefusal cX7_layRefusal 2 (some .int) 1 := ⟨cd_X7_layRefusal, in_LetterTray, im_X7_layRefusal, se_X7_layRefusal, ds_X7_layRefusal, Or.inl (tg1 (List.mem_of_getElem? (i := 637) (by decide +kernel)) rfl)⟩
set_option maxRecDepth 100000 in
theorem co_X7_229 : CO RX7 229 yX7_layOne cX7_layOne 2 none 1 := ⟨cd_X7_layOne, in_LetterTray, im_X7_layOne, se_X7_layOne, ds_X7_layOne, Or.inl (tg1 (List.mem_of_getElem? (i := 641) (by decide +kernel)) rfl)⟩
set_option maxRecDepth 100000 in
theorem co_X7_232 : CO RX7 232 yX7_takeRefusal cX7_takeRefusal 3 (some .int) 1 := ⟨cd_X7_takeRefusal, in_LetterTray, im_X7_takeRefusal, se_X7_takeRefusal, ds_X7_takeRefusal, Or.inl (tg1 (List.mem_of_getElem? (i := 659) (by decide +kernel)) rfl)⟩
set_option maxRecDepth 100000 in
theorem co_X7_235 : CO RX7 235 yX7_takeOne cX7_takeOne 2 none 1 := ⟨cd_X7_takeOne, in_LetterTray, im_X7_takeOne, se_X7_takeOne, ds_X7_takeOne, Or.inl (tg1 (List.mem_of_getElem? (i := 664) (by decide +kernel)) rfl)⟩
set_option maxRecDepth 100000 in
theorem co_X7_240 : CO RX7 240 yX7_drawOf cX7_drawOf 4 (some .int) 1 := ⟨cd_X7_drawOf, in_LetterTray, im_X7_drawOf, se_X7_drawOf, ds_X7_drawOf, Or.inl (tg1 (List.mem_of_getElem? (i := 598) (by decide +kernel)) rfl)⟩
set_option maxRecDepth 100000 in
theorem co_X7_243 : CO RX7 243 yX7_driftOnce cX7_driftOnce 2 none 1 := ⟨cd_X7_driftOnce, in_LetterTray, im_X7_driftOnce, se_X7_driftOnce, ds_X7_driftOnce, Or.inl (tg1 (List.mem_of_getElem? (i := 677) (by decide +kernel)) rfl)⟩
set_option maxRecDepth 100000 in
theorem co_X7_246 : CO RX7 246 yX1_pop cX1_pop 3 none 2 := ⟨cd_X1_pop, in_LetterTray_History, im_X1_pop, se_X1_pop, ds_X1_pop, Or.inr (tn1 (List.mem_of_getElem? (i := 697) (by decide +kernel)) rfl)⟩
set_option maxRecDepth 100000 in
theorem co_X7_250 : CO RX7 250 yX7_can cX7_can 2 (some .boolean) 1 := ⟨cd_X7_can, in_LetterTray, im_X7_can, se_X7_can, ds_X7_can, Or.inl (tg1 (List.mem_of_getElem? (i := 453) (by decide +kernel)) rfl)⟩
set_option maxRecDepth 100000 in
theorem co_X7_253 : CO RX7 253 yX6_lengthOf cX6_lengthOf 2 (some .int) 1 := ⟨cd_X6_lengthOf, in_LetterTray_Words, im_X6_lengthOf, se_X6_lengthOf, ds_X6_lengthOf, Or.inr (tn1 (List.mem_of_getElem? (i := 663) (by decide +kernel)) rfl)⟩
set_option maxRecDepth 100000 in
theorem co_X7_256 : SO RX7 256 yX7_nthSort cX7_nthSort 4 (some .int) 2 := ⟨cd_X7_nthSort, in_LetterTray, st_X7_nthSort, ds_X7_nthSort, tg1 (List.mem_of_getElem? (i := 606) (by decide +kernel)) rfl⟩
set_option maxRecDepth 100000 in
theorem co_X7_260 : CO RX7 260 yX0_toTray cX0_toTray 2 none 1 := ⟨cd_X0_toTray, in_LetterTray_Desk, im_X0_toTray, se_X0_toTray, ds_X0_toTray, Or.inr (tn1 (List.mem_of_getElem? (i := 609) (by decide +kernel)) rfl)⟩
set_option maxRecDepth 100000 in
theorem co_X7_263 : CO RX7 263 yX0_layDown cX0_layDown 6 none 2 := ⟨cd_X0_layDown, in_LetterTray_Desk, im_X0_layDown, se_X0_layDown, ds_X0_layDown, Or.inr (tn1 (List.mem_of_getElem? (i := 645) (by decide +kernel)) rfl)⟩
set_option maxRecDepth 100000 in
theorem co_X7_267 : CO RX7 267 yX0_takeUp cX0_takeUp 7 none 2 := ⟨cd_X0_takeUp, in_LetterTray_Desk, im_X0_takeUp, se_X0_takeUp, ds_X0_takeUp, Or.inr (tn1 (List.mem_of_getElem? (i := 668) (by decide +kernel)) rfl)⟩
set_option maxRecDepth 100000 in
theorem co_X7_270 : CO RX7 270 yX7_driftGive cX7_driftGive 3 none 0 := ⟨cd_X7_driftGive, in_LetterTray, im_X7_driftGive, se_X7_driftGive, ds_X7_driftGive, Or.inl (tg1 (List.mem_of_getElem? (i := 681) (by decide +kernel)) rfl)⟩
set_option maxRecDepth 100000 in
theorem co_X7_273 : CO RX7 273 yX7_driftLay cX7_driftLay 2 none 0 := ⟨cd_X7_driftLay, in_LetterTray, im_X7_driftLay, se_X7_driftLay, ds_X7_driftLay, Or.inl (tg1 (List.mem_of_getElem? (i := 685) (by decide +kernel)) rfl)⟩
set_option maxRecDepth 100000 in
theorem co_X7_276 : CO RX7 276 yX7_driftTake cX7_driftTake 2 none 0 := ⟨cd_X7_driftTake, in_LetterTray, im_X7_driftTake, se_X7_driftTake, ds_X7_driftTake, Or.inl (tg1 (List.mem_of_getElem? (i := 689) (by decide +kernel)) rfl)⟩
set_option maxRecDepth 100000 in
theorem co_X7_286 : CO RX7 286 yX6_needOf cX6_needOf 3 (some .int) 2 := ⟨cd_X6_needOf, in_LetterTray_Words, im_X6_needOf, se_X6_needOf, ds_X6_needOf, Or.inr (tn1 (List.mem_of_getElem? (i := 461) (by decide +kernel)) rfl)⟩
set_option maxRecDepth 100000 in
theorem co_X7_289 : CO RX7 289 yX4_kth cX4_kth 5 (some .int) 1 := ⟨cd_X4_kth, in_LetterTray_Rows, im_X4_kth, se_X4_kth, ds_X4_kth, Or.inr (tn1 (List.mem_of_getElem? (i := 709) (by decide +kernel)) rfl)⟩
set_option maxRecDepth 100000 in
theorem co_X7_292 : CO RX7 292 yX6_stepsTo cX6_stepsTo 4 (some .int) 2 := ⟨cd_X6_stepsTo, in_LetterTray_Words, im_X6_stepsTo, se_X6_stepsTo, ds_X6_stepsTo, Or.inr (tn1 (List.mem_of_getElem? (i := 721) (by decide +kernel)) rfl)⟩
set_option maxRecDepth 100000 in
theorem co_X7_295 : CO RX7 295 yX6_nextTo cX6_nextTo 5 (some .int) 2 := ⟨cd_X6_nextTo, in_LetterTray_Words, im_X6_nextTo, se_X6_nextTo, ds_X6_nextTo, Or.inr (tn1 (List.mem_of_getElem? (i := 722) (by decide +kernel)) rfl)⟩
set_option maxRecDepth 100000 in
theorem co_X7_298 : CO RX7 298 yX6_farSet cX6_farSet 6 (some .int) 2 := ⟨cd_X6_farSet, in_LetterTray_Words, im_X6_farSet, se_X6_farSet, ds_X6_farSet, Or.inr (tn1 (List.mem_of_getElem? (i := 730) (by decide +kernel)) rfl)⟩
set_option maxRecDepth 100000 in
theorem co_X7_301 : CO RX7 301 yX6_rightOf cX6_rightOf 3 (some .int) 2 := ⟨cd_X6_rightOf, in_LetterTray_Words, im_X6_rightOf, se_X6_rightOf, ds_X6_rightOf, Or.inr (tn1 (List.mem_of_getElem? (i := 738) (by decide +kernel)) rfl)⟩
set_option maxRecDepth 100000 in
theorem co_X7_304 : CO RX7 304 yX6_moreOf cX6_moreOf 3 (some .int) 2 := ⟨cd_X6_moreOf, in_LetterTray_Words, im_X6_moreOf, se_X6_moreOf, ds_X6_moreOf, Or.inr (tn1 (List.mem_of_getElem? (i := 742) (by decide +kernel)) rfl)⟩
set_option maxRecDepth 100000 in
theorem lk_X7_311 : Cond.methodLink RX7 311 Lib.Math.max.name ∈ tblG := tg1 (List.mem_of_getElem? (i := 462) (by decide +kernel)) rfl
set_option maxRecDepth 100000 in
theorem co_X7_316 : CO RX7 316 yX4_tryOut cX4_tryOut 3 none 2 := ⟨cd_X4_tryOut, in_LetterTray_Rows, im_X4_tryOut, se_X4_tryOut, ds_X4_tryOut, Or.inr (tn1 (List.mem_of_getElem? (i := 473) (by decide +kernel)) rfl)⟩
set_option maxRecDepth 100000 in
theorem co_X7_320 : CO RX7 320 yX5_addSaid cX5_addSaid 4 (some .boolean) 3 := ⟨cd_X5_addSaid, in_LetterTray_Talk, im_X5_addSaid, se_X5_addSaid, ds_X5_addSaid, Or.inr (tn1 (List.mem_of_getElem? (i := 756) (by decide +kernel)) rfl)⟩
set_option maxRecDepth 100000 in
theorem co_X7_324 : CO RX7 324 yX5_fitting cX5_fitting 4 (some .int) 1 := ⟨cd_X5_fitting, in_LetterTray_Talk, im_X5_fitting, se_X5_fitting, ds_X5_fitting, Or.inr (tn1 (List.mem_of_getElem? (i := 764) (by decide +kernel)) rfl)⟩
set_option maxRecDepth 100000 in
theorem co_X7_327 : CO RX7 327 yX5_bestToAsk cX5_bestToAsk 7 (some .int) 1 := ⟨cd_X5_bestToAsk, in_LetterTray_Talk, im_X5_bestToAsk, se_X5_bestToAsk, ds_X5_bestToAsk, Or.inr (tn1 (List.mem_of_getElem? (i := 778) (by decide +kernel)) rfl)⟩
set_option maxRecDepth 100000 in
theorem co_X7_330 : CO RX7 330 yX5_addEntry cX5_addEntry 3 (some .boolean) 2 := ⟨cd_X5_addEntry, in_LetterTray_Talk, im_X5_addEntry, se_X5_addEntry, ds_X5_addEntry, Or.inr (tn1 (List.mem_of_getElem? (i := 802) (by decide +kernel)) rfl)⟩
set_option maxRecDepth 100000 in
theorem co_X7_334 : CO RX7 334 yX5_firstWrong cX5_firstWrong 4 (some .int) 1 := ⟨cd_X5_firstWrong, in_LetterTray_Talk, im_X5_firstWrong, se_X5_firstWrong, ds_X5_firstWrong, Or.inr (tn1 (List.mem_of_getElem? (i := 810) (by decide +kernel)) rfl)⟩
set_option maxRecDepth 100000 in
theorem co_X7_340 : CO RX7 340 yX0_become cX0_become 2 none 1 := ⟨cd_X0_become, in_LetterTray_Desk, im_X0_become, se_X0_become, ds_X0_become, Or.inr (tn1 (List.mem_of_getElem? (i := 827) (by decide +kernel)) rfl)⟩
set_option maxRecDepth 100000 in
theorem co_X8_78 : SO RX8 78 yX8_in cX8_in 6 (some .boolean) 3 := ⟨cd_X8_in, in_LetterTrayModel, st_X8_in, ds_X8_in, tg1 (List.mem_of_getElem? (i := 962) (by decide +kernel)) rfl⟩
set_option maxRecDepth 100000 in
theorem co_X8_97 : CO RX8 97 yX8_letter cX8_letter 1 (some .int) 0 := ⟨cd_X8_letter, in_LetterTrayModel, im_X8_letter, se_X8_letter, ds_X8_letter, Or.inl (tg1 (List.mem_of_getElem? (i := 971) (by decide +kernel)) rfl)⟩
set_option maxRecDepth 100000 in
theorem co_X8_101 : CO RX8 101 yX8_faults cX8_faults 3 (some .boolean) 2 := ⟨cd_X8_faults, in_LetterTrayModel, im_X8_faults, se_X8_faults, ds_X8_faults, Or.inl (tg1 (List.mem_of_getElem? (i := 983) (by decide +kernel)) rfl)⟩
set_option maxRecDepth 100000 in
theorem co_X8_112 : CO RX8 112 yX8_takes cX8_takes 2 (some .boolean) 1 := ⟨cd_X8_takes, in_LetterTrayModel, im_X8_takes, se_X8_takes, ds_X8_takes, Or.inl (tg1 (List.mem_of_getElem? (i := 979) (by decide +kernel)) rfl)⟩
set_option maxRecDepth 100000 in
theorem co_X8_116 : CO RX8 116 yX8_takesNumber cX8_takesNumber 4 (some .boolean) 2 := ⟨cd_X8_takesNumber, in_LetterTrayModel, im_X8_takesNumber, se_X8_takesNumber, ds_X8_takesNumber, Or.inl (tg1 (List.mem_of_getElem? (i := 991) (by decide +kernel)) rfl)⟩
set_option maxRecDepth 100000 in
theorem co_X8_123 : SO RX8 123 yX8_sortBy cX8_sortBy 1 (some .int) 1 := ⟨cd_X8_sortBy, in_LetterTrayModel, st_X8_sortBy, ds_X8_sortBy, tg1 (List.mem_of_getElem? (i := 1005) (by decide +kernel)) rfl⟩
set_option maxRecDepth 100000 in
theorem co_X8_134 : CO RX8 134 yX8_isToldAlready cX8_isToldAlready 4 (some .boolean) 0 := ⟨cd_X8_isToldAlready, in_LetterTrayModel, im_X8_isToldAlready, se_X8_isToldAlready, ds_X8_isToldAlready, Or.inl (tg1 (List.mem_of_getElem? (i := 1014) (by decide +kernel)) rfl)⟩
set_option maxRecDepth 100000 in
theorem co_X8_138 : CO RX8 138 yX8_readBag cX8_readBag 2 (some .boolean) 0 := ⟨cd_X8_readBag, in_LetterTrayModel, im_X8_readBag, se_X8_readBag, ds_X8_readBag, Or.inl (tg1 (List.mem_of_getElem? (i := 1001) (by decide +kernel)) rfl)⟩
set_option maxRecDepth 100000 in
theorem co_X8_141 : CO RX8 141 yX8_readWord cX8_readWord 2 (some .boolean) 0 := ⟨cd_X8_readWord, in_LetterTrayModel, im_X8_readWord, se_X8_readWord, ds_X8_readWord, Or.inl (tg1 (List.mem_of_getElem? (i := 1010) (by decide +kernel)) rfl)⟩
set_option maxRecDepth 100000 in
theorem co_X8_144 : CO RX8 144 yX8_readValues cX8_readValues 2 (some .boolean) 0 := ⟨cd_X8_readValues, in_LetterTrayModel, im_X8_readValues, se_X8_readValues, ds_X8_readValues, Or.inl (tg1 (List.mem_of_getElem? (i := 987) (by decide +kernel)) rfl)⟩
set_option maxRecDepth 100000 in
theorem co_X8_147 : CO RX8 147 yX8_readClause cX8_readClause 2 (some .boolean) 0 := ⟨cd_X8_readClause, in_LetterTrayModel, im_X8_readClause, se_X8_readClause, ds_X8_readClause, Or.inl (tg1 (List.mem_of_getElem? (i := 997) (by decide +kernel)) rfl)⟩
set_option maxRecDepth 100000 in
theorem co_X8_159 : CO RX8 159 yX8_readGame cX8_readGame 2 (some .boolean) 0 := ⟨cd_X8_readGame, in_LetterTrayModel, im_X8_readGame, se_X8_readGame, ds_X8_readGame, Or.inl (tg1 (List.mem_of_getElem? (i := 975) (by decide +kernel)) rfl)⟩
set_option maxRecDepth 100000 in
theorem co_X8_162 : CO RX8 162 yX8_clear cX8_clear 2 none 0 := ⟨cd_X8_clear, in_LetterTrayModel, im_X8_clear, se_X8_clear, ds_X8_clear, Or.inl (tg1 (List.mem_of_getElem? (i := 1018) (by decide +kernel)) rfl)⟩
set_option maxRecDepth 100000 in
theorem co_X8_168 : CO RX8 168 yX8_readsAlike cX8_readsAlike 4 (some .boolean) 1 := ⟨cd_X8_readsAlike, in_LetterTrayModel, im_X8_readsAlike, se_X8_readsAlike, ds_X8_readsAlike, Or.inl (tg1 (List.mem_of_getElem? (i := 1048) (by decide +kernel)) rfl)⟩
set_option maxRecDepth 100000 in
theorem co_X8_171 : CO RX8 171 yX8_missingOf cX8_missingOf 5 (some .int) 1 := ⟨cd_X8_missingOf, in_LetterTrayModel, im_X8_missingOf, se_X8_missingOf, ds_X8_missingOf, Or.inl (tg1 (List.mem_of_getElem? (i := 1052) (by decide +kernel)) rfl)⟩
set_option maxRecDepth 100000 in
theorem co_X8_174 : CO RX8 174 yX8_can cX8_can 2 (some .boolean) 1 := ⟨cd_X8_can, in_LetterTrayModel, im_X8_can, se_X8_can, ds_X8_can, Or.inl (tg1 (List.mem_of_getElem? (i := 1076) (by decide +kernel)) rfl)⟩
set_option maxRecDepth 100000 in
theorem co_X8_177 : CO RX8 177 yX8_worthOf cX8_worthOf 4 (some .int) 1 := ⟨cd_X8_worthOf, in_LetterTrayModel, im_X8_worthOf, se_X8_worthOf, ds_X8_worthOf, Or.inl (tg1 (List.mem_of_getElem? (i := 1044) (by decide +kernel)) rfl)⟩
set_option maxRecDepth 100000 in
theorem co_X8_180 : CO RX8 180 yX8_isInside cX8_isInside 5 (some .boolean) 2 := ⟨cd_X8_isInside, in_LetterTrayModel, im_X8_isInside, se_X8_isInside, ds_X8_isInside, Or.inl (tg1 (List.mem_of_getElem? (i := 1064) (by decide +kernel)) rfl)⟩
set_option maxRecDepth 100000 in
theorem co_X8_183 : CO RX8 183 yX8_areKin cX8_areKin 3 (some .boolean) 2 := ⟨cd_X8_areKin, in_LetterTrayModel, im_X8_areKin, se_X8_areKin, ds_X8_areKin, Or.inl (tg1 (List.mem_of_getElem? (i := 1060) (by decide +kernel)) rfl)⟩
set_option maxRecDepth 100000 in
theorem co_X8_186 : CO RX8 186 yX8_sumOf cX8_sumOf 4 (some .int) 1 := ⟨cd_X8_sumOf, in_LetterTrayModel, im_X8_sumOf, se_X8_sumOf, ds_X8_sumOf, Or.inl (tg1 (List.mem_of_getElem? (i := 1080) (by decide +kernel)) rfl)⟩
set_option maxRecDepth 100000 in
theorem co_X8_189 : SO RX8 189 yX8_isSort cX8_isSort 1 (some .boolean) 1 := ⟨cd_X8_isSort, in_LetterTrayModel, st_X8_isSort, ds_X8_isSort, tg1 (List.mem_of_getElem? (i := 1030) (by decide +kernel)) rfl⟩
set_option maxRecDepth 100000 in
theorem co_X8_194 : CO RX8 194 yX8_isWord cX8_isWord 2 (some .boolean) 1 := ⟨cd_X8_isWord, in_LetterTrayModel, im_X8_isWord, se_X8_isWord, ds_X8_isWord, Or.inl (tg1 (List.mem_of_getElem? (i := 1039) (by decide +kernel)) rfl)⟩
set_option maxRecDepth 100000 in
theorem co_X8_198 : CO RX8 198 yX8_kinOf cX8_kinOf 4 (some .int) 1 := ⟨cd_X8_kinOf, in_LetterTrayModel, im_X8_kinOf, se_X8_kinOf, ds_X8_kinOf, Or.inl (tg1 (List.mem_of_getElem? (i := 1056) (by decide +kernel)) rfl)⟩
set_option maxRecDepth 100000 in
theorem co_X8_201 : CO RX8 201 yX8_insideOf cX8_insideOf 4 (some .int) 1 := ⟨cd_X8_insideOf, in_LetterTrayModel, im_X8_insideOf, se_X8_insideOf, ds_X8_insideOf, Or.inl (tg1 (List.mem_of_getElem? (i := 1068) (by decide +kernel)) rfl)⟩
set_option maxRecDepth 100000 in
theorem co_X8_204 : CO RX8 204 yX8_oddsOf cX8_oddsOf 5 (some .int) 1 := ⟨cd_X8_oddsOf, in_LetterTrayModel, im_X8_oddsOf, se_X8_oddsOf, ds_X8_oddsOf, Or.inl (tg1 (List.mem_of_getElem? (i := 1072) (by decide +kernel)) rfl)⟩
set_option maxRecDepth 100000 in
theorem co_X8_209 : CO RX8 209 yX8_isLaid cX8_isLaid 2 (some .boolean) 1 := ⟨cd_X8_isLaid, in_LetterTrayModel, im_X8_isLaid, se_X8_isLaid, ds_X8_isLaid, Or.inl (tg1 (List.mem_of_getElem? (i := 1093) (by decide +kernel)) rfl)⟩
set_option maxRecDepth 100000 in
theorem co_X8_230 : CO RX8 230 yX8_judgeRow cX8_judgeRow 3 none 1 := ⟨cd_X8_judgeRow, in_LetterTrayModel, im_X8_judgeRow, se_X8_judgeRow, ds_X8_judgeRow, Or.inl (tg1 (List.mem_of_getElem? (i := 1105) (by decide +kernel)) rfl)⟩
set_option maxRecDepth 100000 in
theorem co_X8_234 : CO RX8 234 yX8_join cX8_join 4 none 2 := ⟨cd_X8_join, in_LetterTrayModel, im_X8_join, se_X8_join, ds_X8_join, Or.inl (tg1 (List.mem_of_getElem? (i := 1109) (by decide +kernel)) rfl)⟩
set_option maxRecDepth 100000 in
theorem co_X8_238 : CO RX8 238 yX8_fits cX8_fits 3 (some .boolean) 0 := ⟨cd_X8_fits, in_LetterTrayModel, im_X8_fits, se_X8_fits, ds_X8_fits, Or.inl (tg1 (List.mem_of_getElem? (i := 1113) (by decide +kernel)) rfl)⟩
set_option maxRecDepth 100000 in
theorem co_X8_241 : CO RX8 241 yX8_goRows cX8_goRows 5 none 0 := ⟨cd_X8_goRows, in_LetterTrayModel, im_X8_goRows, se_X8_goRows, ds_X8_goRows, Or.inl (tg1 (List.mem_of_getElem? (i := 1101) (by decide +kernel)) rfl)⟩
set_option maxRecDepth 100000 in
theorem co_X8_246 : CO RX8 246 yX8_isOneOther cX8_isOneOther 5 (some .boolean) 2 := ⟨cd_X8_isOneOther, in_LetterTrayModel, im_X8_isOneOther, se_X8_isOneOther, ds_X8_isOneOther, Or.inl (tg1 (List.mem_of_getElem? (i := 1141) (by decide +kernel)) rfl)⟩
set_option maxRecDepth 100000 in
theorem co_X8_249 : CO RX8 249 yX8_isOneMore cX8_isOneMore 4 (some .boolean) 2 := ⟨cd_X8_isOneMore, in_LetterTrayModel, im_X8_isOneMore, se_X8_isOneMore, ds_X8_isOneMore, Or.inl (tg1 (List.mem_of_getElem? (i := 1145) (by decide +kernel)) rfl)⟩
set_option maxRecDepth 100000 in
theorem co_X8_252 : SO RX8 252 yX8_isIn cX8_isIn 2 (some .boolean) 2 := ⟨cd_X8_isIn, in_LetterTrayModel, st_X8_isIn, ds_X8_isIn, tg1 (List.mem_of_getElem? (i := 1130) (by decide +kernel)) rfl⟩
set_option maxRecDepth 100000 in
theorem co_X8_255 : CO RX8 255 yX8_isStep cX8_isStep 4 (some .boolean) 2 := ⟨cd_X8_isStep, in_LetterTrayModel, im_X8_isStep, se_X8_isStep, ds_X8_isStep, Or.inl (tg1 (List.mem_of_getElem? (i := 1137) (by decide +kernel)) rfl)⟩
set_option maxRecDepth 100000 in
theorem co_X8_258 : CO RX8 258 yX8_spread cX8_spread 5 (some .int) 1 := ⟨cd_X8_spread, in_LetterTrayModel, im_X8_spread, se_X8_spread, ds_X8_spread, Or.inl (tg1 (List.mem_of_getElem? (i := 1133) (by decide +kernel)) rfl)⟩
set_option maxRecDepth 100000 in
theorem co_X8_261 : CO RX8 261 yX8_stepsTo cX8_stepsTo 6 (some .int) 2 := ⟨cd_X8_stepsTo, in_LetterTrayModel, im_X8_stepsTo, se_X8_stepsTo, ds_X8_stepsTo, Or.inl (tg1 (List.mem_of_getElem? (i := 1126) (by decide +kernel)) rfl)⟩
set_option maxRecDepth 100000 in
theorem co_X8_277 : CO RX8 277 yX8_drawOf cX8_drawOf 2 (some .int) 1 := ⟨cd_X8_drawOf, in_LetterTrayModel, im_X8_drawOf, se_X8_drawOf, ds_X8_drawOf, Or.inl (tg1 (List.mem_of_getElem? (i := 1168) (by decide +kernel)) rfl)⟩
set_option maxRecDepth 100000 in
theorem co_X8_280 : CO RX8 280 yX8_sortAt cX8_sortAt 5 (some .int) 2 := ⟨cd_X8_sortAt, in_LetterTrayModel, im_X8_sortAt, se_X8_sortAt, ds_X8_sortAt, Or.inl (tg1 (List.mem_of_getElem? (i := 1176) (by decide +kernel)) rfl)⟩
set_option maxRecDepth 100000 in
theorem co_X8_283 : CO RX8 283 yX8_move cX8_move 4 none 3 := ⟨cd_X8_move, in_LetterTrayModel, im_X8_move, se_X8_move, ds_X8_move, Or.inl (tg1 (List.mem_of_getElem? (i := 1180) (by decide +kernel)) rfl)⟩
set_option maxRecDepth 100000 in
theorem co_X8_289 : CO RX8 289 yX8_note cX8_note 2 none 0 := ⟨cd_X8_note, in_LetterTrayModel, im_X8_note, se_X8_note, ds_X8_note, Or.inl (tg1 (List.mem_of_getElem? (i := 1160) (by decide +kernel)) rfl)⟩
set_option maxRecDepth 100000 in
theorem co_X8_292 : CO RX8 292 yX8_drawsOne cX8_drawsOne 2 (some .int) 0 := ⟨cd_X8_drawsOne, in_LetterTrayModel, im_X8_drawsOne, se_X8_drawsOne, ds_X8_drawsOne, Or.inl (tg1 (List.mem_of_getElem? (i := 1164) (by decide +kernel)) rfl)⟩
set_option maxRecDepth 100000 in
theorem co_X8_295 : CO RX8 295 yX8_lacksTurn cX8_lacksTurn 2 (some .int) 1 := ⟨cd_X8_lacksTurn, in_LetterTrayModel, im_X8_lacksTurn, se_X8_lacksTurn, ds_X8_lacksTurn, Or.inl (tg1 (List.mem_of_getElem? (i := 1188) (by decide +kernel)) rfl)⟩
set_option maxRecDepth 100000 in
theorem co_X8_298 : CO RX8 298 yX8_lays cX8_lays 6 none 1 := ⟨cd_X8_lays, in_LetterTrayModel, im_X8_lays, se_X8_lays, ds_X8_lays, Or.inl (tg1 (List.mem_of_getElem? (i := 1200) (by decide +kernel)) rfl)⟩
set_option maxRecDepth 100000 in
theorem co_X8_301 : CO RX8 301 yX8_hasRoom cX8_hasRoom 2 (some .boolean) 1 := ⟨cd_X8_hasRoom, in_LetterTrayModel, im_X8_hasRoom, se_X8_hasRoom, ds_X8_hasRoom, Or.inl (tg1 (List.mem_of_getElem? (i := 1208) (by decide +kernel)) rfl)⟩
set_option maxRecDepth 100000 in
theorem co_X8_304 : CO RX8 304 yX8_takesUp cX8_takesUp 5 none 1 := ⟨cd_X8_takesUp, in_LetterTrayModel, im_X8_takesUp, se_X8_takesUp, ds_X8_takesUp, Or.inl (tg1 (List.mem_of_getElem? (i := 1212) (by decide +kernel)) rfl)⟩
set_option maxRecDepth 100000 in
theorem co_X8_309 : CO RX8 309 yX8_byDraws cX8_byDraws 3 none 0 := ⟨cd_X8_byDraws, in_LetterTrayModel, im_X8_byDraws, se_X8_byDraws, ds_X8_byDraws, Or.inl (tg1 (List.mem_of_getElem? (i := 1221) (by decide +kernel)) rfl)⟩
set_option maxRecDepth 100000 in
theorem co_X8_314 : CO RX8 314 yX8_rightOf cX8_rightOf 5 (some .int) 2 := ⟨cd_X8_rightOf, in_LetterTrayModel, im_X8_rightOf, se_X8_rightOf, ds_X8_rightOf, Or.inl (tg1 (List.mem_of_getElem? (i := 1234) (by decide +kernel)) rfl)⟩
set_option maxRecDepth 100000 in
theorem co_X8_317 : CO RX8 317 yX8_moreOf cX8_moreOf 7 (some .int) 2 := ⟨cd_X8_moreOf, in_LetterTrayModel, im_X8_moreOf, se_X8_moreOf, ds_X8_moreOf, Or.inl (tg1 (List.mem_of_getElem? (i := 1238) (by decide +kernel)) rfl)⟩
set_option maxRecDepth 100000 in
theorem co_X8_328 : CO RX8 328 yX8_couldBe cX8_couldBe 5 (some .int) 0 := ⟨cd_X8_couldBe, in_LetterTrayModel, im_X8_couldBe, se_X8_couldBe, ds_X8_couldBe, Or.inl (tg1 (List.mem_of_getElem? (i := 1262) (by decide +kernel)) rfl)⟩
set_option maxRecDepth 100000 in
theorem co_X8_331 : SO RX8 331 yX8_ones cX8_ones 3 (some .int) 1 := ⟨cd_X8_ones, in_LetterTrayModel, st_X8_ones, ds_X8_ones, tg1 (List.mem_of_getElem? (i := 1263) (by decide +kernel)) rfl⟩
set_option maxRecDepth 100000 in
theorem co_X8_334 : CO RX8 334 yX8_partBy cX8_partBy 7 (some .int) 2 := ⟨cd_X8_partBy, in_LetterTrayModel, im_X8_partBy, se_X8_partBy, ds_X8_partBy, Or.inl (tg1 (List.mem_of_getElem? (i := 1266) (by decide +kernel)) rfl)⟩
set_option maxRecDepth 100000 in
theorem co_X8_337 : CO RX8 337 yX8_canSet cX8_canSet 3 (some .int) 0 := ⟨cd_X8_canSet, in_LetterTrayModel, im_X8_canSet, se_X8_canSet, ds_X8_canSet, Or.inl (tg1 (List.mem_of_getElem? (i := 1298) (by decide +kernel)) rfl)⟩
set_option maxRecDepth 100000 in
theorem co_X8_340 : CO RX8 340 yX8_bestNow cX8_bestNow 3 (some .int) 0 := ⟨cd_X8_bestNow, in_LetterTrayModel, im_X8_bestNow, se_X8_bestNow, ds_X8_bestNow, Or.inl (tg1 (List.mem_of_getElem? (i := 1302) (by decide +kernel)) rfl)⟩
set_option maxRecDepth 100000 in
theorem co_X8_343 : CO RX8 343 yX8_toldOfRows cX8_toldOfRows 2 (some .int) 1 := ⟨cd_X8_toldOfRows, in_LetterTrayModel, im_X8_toldOfRows, se_X8_toldOfRows, ds_X8_toldOfRows, Or.inl (tg1 (List.mem_of_getElem? (i := 1306) (by decide +kernel)) rfl)⟩
set_option maxRecDepth 100000 in
theorem co_X8_346 : CO RX8 346 yX8_unusedNow cX8_unusedNow 5 (some .int) 0 := ⟨cd_X8_unusedNow, in_LetterTrayModel, im_X8_unusedNow, se_X8_unusedNow, ds_X8_unusedNow, Or.inl (tg1 (List.mem_of_getElem? (i := 1310) (by decide +kernel)) rfl)⟩
set_option maxRecDepth 100000 in
theorem co_X8_349 : CO RX8 349 yX8_farthest cX8_farthest 5 (some .int) 0 := ⟨cd_X8_farthest, in_LetterTrayModel, im_X8_farthest, se_X8_farthest, ds_X8_farthest, Or.inl (tg1 (List.mem_of_getElem? (i := 1314) (by decide +kernel)) rfl)⟩
set_option maxRecDepth 100000 in
theorem ks_X7_70 : Cond.constant RX7 70 (-1000000002) ∈ tblG := tg1 (List.mem_of_getElem? (i := 281) (by decide +kernel)) rfl
set_option maxRecDepth 100000 in
theorem ks_X7_78 : Cond.constant RX7 78 (-1000000004) ∈ tblG := tg1 (List.mem_of_getElem? (i := 286) (by decide +kernel)) rfl
set_option maxRecDepth 100000 in
theorem ks_X7_170 : Cond.constant RX7 170 (-1000000001) ∈ tblG := tg1 (List.mem_of_getElem? (i := 549) (by decide +kernel)) rfl
set_option maxRecDepth 100000 in
theorem ks_X7_238 : Cond.constant RX7 238 (-1000000003) ∈ tblG := tg1 (List.mem_of_getElem? (i := 583) (by decide +kernel)) rfl
set_option maxRecDepth 100000 in
theorem ks_X7_239 : Cond.constant RX7 239 (90000) ∈ tblG := tg1 (List.mem_of_getElem? (i := 584) (by decide +kernel)) rfl
set_option maxRecDepth 100000 in
theorem ks_X7_279 : Cond.constantLong RX7 279 (1103515245) ∈ tblG := tg1 (List.mem_of_getElem? (i := 602) (by decide +kernel)) rfl
set_option maxRecDepth 100000 in
theorem ks_X7_281 : Cond.constantLong RX7 281 (12345) ∈ tblG := tg1 (List.mem_of_getElem? (i := 603) (by decide +kernel)) rfl
set_option maxRecDepth 100000 in
theorem ks_X7_283 : Cond.constantLong RX7 283 (2147483647) ∈ tblG := tg1 (List.mem_of_getElem? (i := 604) (by decide +kernel)) rfl
set_option maxRecDepth 100000 in
theorem ks_X7_285 : Cond.constant RX7 285 (65536) ∈ tblG := tg1 (List.mem_of_getElem? (i := 605) (by decide +kernel)) rfl
set_option maxRecDepth 100000 in
theorem ks_X7_307 : Cond.constantLong RX7 307 (1000000000) ∈ tblG := tg1 (List.mem_of_getElem? (i := 750) (by decide +kernel)) rfl
set_option maxRecDepth 100000 in
theorem ks_X7_309 : Cond.constantLong RX7 309 (100) ∈ tblG := tg1 (List.mem_of_getElem? (i := 751) (by decide +kernel)) rfl
set_option maxRecDepth 100000 in
theorem ks_X8_82 : Cond.constantLong RX8 82 (8) ∈ tblG := tg1 (List.mem_of_getElem? (i := 1033) (by decide +kernel)) rfl
set_option maxRecDepth 100000 in
theorem ks_X8_84 : Cond.constantLong RX8 84 (255) ∈ tblG := tg1 (List.mem_of_getElem? (i := 961) (by decide +kernel)) rfl
set_option maxRecDepth 100000 in
theorem ks_X8_86 : Cond.constant RX8 86 (-1000000002) ∈ tblG := tg1 (List.mem_of_getElem? (i := 965) (by decide +kernel)) rfl
set_option maxRecDepth 100000 in
theorem ks_X8_90 : Cond.constant RX8 90 (-1000000004) ∈ tblG := tg1 (List.mem_of_getElem? (i := 966) (by decide +kernel)) rfl
set_option maxRecDepth 100000 in
theorem ks_X8_105 : Cond.constantLong RX8 105 (48) ∈ tblG := tg1 (List.mem_of_getElem? (i := 995) (by decide +kernel)) rfl
set_option maxRecDepth 100000 in
theorem ks_X8_107 : Cond.constantLong RX8 107 (57) ∈ tblG := tg1 (List.mem_of_getElem? (i := 996) (by decide +kernel)) rfl
set_option maxRecDepth 100000 in
theorem ks_X8_119 : Cond.constantLong RX8 119 (97) ∈ tblG := tg1 (List.mem_of_getElem? (i := 1008) (by decide +kernel)) rfl
set_option maxRecDepth 100000 in
theorem ks_X8_121 : Cond.constantLong RX8 121 (104) ∈ tblG := tg1 (List.mem_of_getElem? (i := 1009) (by decide +kernel)) rfl
set_option maxRecDepth 100000 in
theorem ks_X8_192 : Cond.constantLong RX8 192 (2) ∈ tblG := tg1 (List.mem_of_getElem? (i := 1034) (by decide +kernel)) rfl
set_option maxRecDepth 100000 in
theorem ks_X8_197 : Cond.constant RX8 197 (-1000000001) ∈ tblG := tg1 (List.mem_of_getElem? (i := 1043) (by decide +kernel)) rfl
set_option maxRecDepth 100000 in
theorem ks_X8_207 : Cond.constantLong RX8 207 (5) ∈ tblG := tg1 (List.mem_of_getElem? (i := 1088) (by decide +kernel)) rfl
set_option maxRecDepth 100000 in
theorem ks_X8_244 : Cond.constantLong RX8 244 (7) ∈ tblG := tg1 (List.mem_of_getElem? (i := 1121) (by decide +kernel)) rfl
set_option maxRecDepth 100000 in
theorem ks_X8_265 : Cond.constantLong RX8 265 (9) ∈ tblG := tg1 (List.mem_of_getElem? (i := 1153) (by decide +kernel)) rfl
set_option maxRecDepth 100000 in
theorem ks_X8_270 : Cond.constantLong RX8 270 (1103515245) ∈ tblG := tg1 (List.mem_of_getElem? (i := 1172) (by decide +kernel)) rfl
set_option maxRecDepth 100000 in
theorem ks_X8_272 : Cond.constantLong RX8 272 (12345) ∈ tblG := tg1 (List.mem_of_getElem? (i := 1173) (by decide +kernel)) rfl
set_option maxRecDepth 100000 in
theorem ks_X8_274 : Cond.constantLong RX8 274 (2147483647) ∈ tblG := tg1 (List.mem_of_getElem? (i := 1174) (by decide +kernel)) rfl
set_option maxRecDepth 100000 in
theorem ks_X8_276 : Cond.constant RX8 276 (65536) ∈ tblG := tg1 (List.mem_of_getElem? (i := 1175) (by decide +kernel)) rfl
set_option maxRecDepth 100000 in
theorem ks_X8_287 : Cond.constant RX8 287 (-1000000003) ∈ tblG := tg1 (List.mem_of_getElem? (i := 1158) (by decide +kernel)) rfl
set_option maxRecDepth 100000 in
theorem ks_X8_288 : Cond.constant RX8 288 (90000) ∈ tblG := tg1 (List.mem_of_getElem? (i := 1159) (by decide +kernel)) rfl
set_option maxRecDepth 100000 in
theorem ks_X8_307 : Cond.constantLong RX8 307 (20) ∈ tblG := tg1 (List.mem_of_getElem? (i := 1220) (by decide +kernel)) rfl
set_option maxRecDepth 100000 in
theorem ks_X8_312 : Cond.constantLong RX8 312 (30) ∈ tblG := tg1 (List.mem_of_getElem? (i := 1229) (by decide +kernel)) rfl
set_option maxRecDepth 100000 in
theorem ks_X8_320 : Cond.constantLong RX8 320 (60) ∈ tblG := tg1 (List.mem_of_getElem? (i := 1246) (by decide +kernel)) rfl
set_option maxRecDepth 100000 in
theorem ks_X8_322 : Cond.constantLong RX8 322 (100) ∈ tblG := tg1 (List.mem_of_getElem? (i := 1247) (by decide +kernel)) rfl
set_option maxRecDepth 100000 in
theorem ks_X8_324 : Cond.constantLong RX8 324 (1000000000) ∈ tblG := tg1 (List.mem_of_getElem? (i := 1248) (by decide +kernel)) rfl
set_option maxRecDepth 100000 in
theorem ks_X8_326 : Cond.constantLong RX8 326 (6) ∈ tblG := tg1 (List.mem_of_getElem? (i := 1253) (by decide +kernel)) rfl
end
section
def bd2 {α β ω : Type} (x : Option (α × β)) (k : α → β → Option ω) : Option ω := match x with
  | none => none
  | some q => k q.1 q.2
theorem bd2_some {α β ω : Type} {x : Option (α × β)} {k : α → β → Option ω} {r : ω} (h : bd2 x k = some r) : ∃ a0 a1, x = some (a0, a1) ∧ k a0 a1 = some r := by
  cases x with
  | none => cases h
  | some q => exact ⟨q.1, q.2, rfl, h⟩
theorem p2_inj {α β : Type} {a0 : α} {a1 : β} {b0 : α} {b1 : β} (h : some (a0, a1) = some (b0, b1)) : a0 = b0 ∧ a1 = b1 := by
  cases h; exact ⟨rfl, rfl⟩
def bd3 {α β γ ω : Type} (x : Option (α × β × γ)) (k : α → β → γ → Option ω) : Option ω := match x with
  | none => none
  | some q => k q.1 q.2.1 q.2.2
theorem bd3_some {α β γ ω : Type} {x : Option (α × β × γ)} {k : α → β → γ → Option ω} {r : ω} (h : bd3 x k = some r) : ∃ a0 a1 a2, x = some (a0, a1, a2) ∧ k a0 a1 a2 = some r := by
  cases x with
  | none => cases h
  | some q => exact ⟨q.1, q.2.1, q.2.2, rfl, h⟩
theorem p3_inj {α β γ : Type} {a0 : α} {a1 : β} {a2 : γ} {b0 : α} {b1 : β} {b2 : γ} (h : some (a0, a1, a2) = some (b0, b1, b2)) : a0 = b0 ∧ a1 = b1 ∧ a2 = b2 := by
  cases h; exact ⟨rfl, rfl, rfl⟩
def bd4 {α β γ δ ω : Type} (x : Option (α × β × γ × δ)) (k : α → β → γ → δ → Option ω) : Option ω := match x with
  | none => none
  | some q => k q.1 q.2.1 q.2.2.1 q.2.2.2
theorem bd4_some {α β γ δ ω : Type} {x : Option (α × β × γ × δ)} {k : α → β → γ → δ → Option ω} {r : ω} (h : bd4 x k = some r) : ∃ a0 a1 a2 a3, x = some (a0, a1, a2, a3) ∧ k a0 a1 a2 a3 = some r := by
  cases x with
  | none => cases h
  | some q => exact ⟨q.1, q.2.1, q.2.2.1, q.2.2.2, rfl, h⟩
theorem p4_inj {α β γ δ : Type} {a0 : α} {a1 : β} {a2 : γ} {a3 : δ} {b0 : α} {b1 : β} {b2 : γ} {b3 : δ} (h : some (a0, a1, a2, a3) = some (b0, b1, b2, b3)) : a0 = b0 ∧ a1 = b1 ∧ a2 = b2 ∧ a3 = b3 := by
  cases h; exact ⟨rfl, rfl, rfl, rfl⟩
def bd5 {α β γ δ ε ω : Type} (x : Option (α × β × γ × δ × ε)) (k : α → β → γ → δ → ε → Option ω) : Option ω := match x with
  | none => none
  | some q => k q.1 q.2.1 q.2.2.1 q.2.2.2.1 q.2.2.2.2
theorem bd5_some {α β γ δ ε ω : Type} {x : Option (α × β × γ × δ × ε)} {k : α → β → γ → δ → ε → Option ω} {r : ω} (h : bd5 x k = some r) : ∃ a0 a1 a2 a3 a4, x = some (a0, a1, a2, a3, a4) ∧ k a0 a1 a2 a3 a4 = some r := by
  cases x with
  | none => cases h
  | some q => exact ⟨q.1, q.2.1, q.2.2.1, q.2.2.2.1, q.2.2.2.2, rfl, h⟩
theorem p5_inj {α β γ δ ε : Type} {a0 : α} {a1 : β} {a2 : γ} {a3 : δ} {a4 : ε} {b0 : α} {b1 : β} {b2 : γ} {b3 : δ} {b4 : ε} (h : some (a0, a1, a2, a3, a4) = some (b0, b1, b2, b3, b4)) : a0 = b0 ∧ a1 = b1 ∧ a2 = b2 ∧ a3 = b3 ∧ a4 = b4 := by
  cases h; exact ⟨rfl, rfl, rfl, rfl, rfl⟩
def bd6 {α β γ δ ε ζ ω : Type} (x : Option (α × β × γ × δ × ε × ζ)) (k : α → β → γ → δ → ε → ζ → Option ω) : Option ω := match x with
  | none => none
  | some q => k q.1 q.2.1 q.2.2.1 q.2.2.2.1 q.2.2.2.2.1 q.2.2.2.2.2
theorem bd6_some {α β γ δ ε ζ ω : Type} {x : Option (α × β × γ × δ × ε × ζ)} {k : α → β → γ → δ → ε → ζ → Option ω} {r : ω} (h : bd6 x k = some r) : ∃ a0 a1 a2 a3 a4 a5, x = some (a0, a1, a2, a3, a4, a5) ∧ k a0 a1 a2 a3 a4 a5 = some r := by
  cases x with
  | none => cases h
  | some q => exact ⟨q.1, q.2.1, q.2.2.1, q.2.2.2.1, q.2.2.2.2.1, q.2.2.2.2.2, rfl, h⟩
theorem p6_inj {α β γ δ ε ζ : Type} {a0 : α} {a1 : β} {a2 : γ} {a3 : δ} {a4 : ε} {a5 : ζ} {b0 : α} {b1 : β} {b2 : γ} {b3 : δ} {b4 : ε} {b5 : ζ} (h : some (a0, a1, a2, a3, a4, a5) = some (b0, b1, b2, b3, b4, b5)) : a0 = b0 ∧ a1 = b1 ∧ a2 = b2 ∧ a3 = b3 ∧ a4 = b4 ∧ a5 = b5 := by
  cases h; exact ⟨rfl, rfl, rfl, rfl, rfl, rfl⟩
def bd7 {α β γ δ ε ζ η ω : Type} (x : Option (α × β × γ × δ × ε × ζ × η)) (k : α → β → γ → δ → ε → ζ → η → Option ω) : Option ω := match x with
  | none => none
  | some q => k q.1 q.2.1 q.2.2.1 q.2.2.2.1 q.2.2.2.2.1 q.2.2.2.2.2.1 q.2.2.2.2.2.2
theorem bd7_some {α β γ δ ε ζ η ω : Type} {x : Option (α × β × γ × δ × ε × ζ × η)} {k : α → β → γ → δ → ε → ζ → η → Option ω} {r : ω} (h : bd7 x k = some r) : ∃ a0 a1 a2 a3 a4 a5 a6, x = some (a0, a1, a2, a3, a4, a5, a6) ∧ k a0 a1 a2 a3 a4 a5 a6 = some r := by
  cases x with
  | none => cases h
  | some q => exact ⟨q.1, q.2.1, q.2.2.1, q.2.2.2.1, q.2.2.2.2.1, q.2.2.2.2.2.1, q.2.2.2.2.2.2, rfl, h⟩
theorem p7_inj {α β γ δ ε ζ η : Type} {a0 : α} {a1 : β} {a2 : γ} {a3 : δ} {a4 : ε} {a5 : ζ} {a6 : η} {b0 : α} {b1 : β} {b2 : γ} {b3 : δ} {b4 : ε} {b5 : ζ} {b6 : η} (h : some (a0, a1, a2, a3, a4, a5, a6) = some (b0, b1, b2, b3, b4, b5, b6)) : a0 = b0 ∧ a1 = b1 ∧ a2 = b2 ∧ a3 = b3 ∧ a4 = b4 ∧ a5 = b5 ∧ a6 = b6 := by
  cases h; exact ⟨rfl, rfl, rfl, rfl, rfl, rfl, rfl⟩
def bd8 {α β γ δ ε ζ η θ ω : Type} (x : Option (α × β × γ × δ × ε × ζ × η × θ)) (k : α → β → γ → δ → ε → ζ → η → θ → Option ω) : Option ω := match x with
  | none => none
  | some q => k q.1 q.2.1 q.2.2.1 q.2.2.2.1 q.2.2.2.2.1 q.2.2.2.2.2.1 q.2.2.2.2.2.2.1 q.2.2.2.2.2.2.2
theorem bd8_some {α β γ δ ε ζ η θ ω : Type} {x : Option (α × β × γ × δ × ε × ζ × η × θ)} {k : α → β → γ → δ → ε → ζ → η → θ → Option ω} {r : ω} (h : bd8 x k = some r) : ∃ a0 a1 a2 a3 a4 a5 a6 a7, x = some (a0, a1, a2, a3, a4, a5, a6, a7) ∧ k a0 a1 a2 a3 a4 a5 a6 a7 = some r := by
  cases x with
  | none => cases h
  | some q => exact ⟨q.1, q.2.1, q.2.2.1, q.2.2.2.1, q.2.2.2.2.1, q.2.2.2.2.2.1, q.2.2.2.2.2.2.1, q.2.2.2.2.2.2.2, rfl, h⟩
theorem p8_inj {α β γ δ ε ζ η θ : Type} {a0 : α} {a1 : β} {a2 : γ} {a3 : δ} {a4 : ε} {a5 : ζ} {a6 : η} {a7 : θ} {b0 : α} {b1 : β} {b2 : γ} {b3 : δ} {b4 : ε} {b5 : ζ} {b6 : η} {b7 : θ} (h : some (a0, a1, a2, a3, a4, a5, a6, a7) = some (b0, b1, b2, b3, b4, b5, b6, b7)) : a0 = b0 ∧ a1 = b1 ∧ a2 = b2 ∧ a3 = b3 ∧ a4 = b4 ∧ a5 = b5 ∧ a6 = b6 ∧ a7 = b7 := by
  cases h; exact ⟨rfl, rfl, rfl, rfl, rfl, rfl, rfl, rfl⟩
def bd9 {α β γ δ ε ζ η θ ι ω : Type} (x : Option (α × β × γ × δ × ε × ζ × η × θ × ι)) (k : α → β → γ → δ → ε → ζ → η → θ → ι → Option ω) : Option ω := match x with
  | none => none
  | some q => k q.1 q.2.1 q.2.2.1 q.2.2.2.1 q.2.2.2.2.1 q.2.2.2.2.2.1 q.2.2.2.2.2.2.1 q.2.2.2.2.2.2.2.1 q.2.2.2.2.2.2.2.2
theorem bd9_some {α β γ δ ε ζ η θ ι ω : Type} {x : Option (α × β × γ × δ × ε × ζ × η × θ × ι)} {k : α → β → γ → δ → ε → ζ → η → θ → ι → Option ω} {r : ω} (h : bd9 x k = some r) : ∃ a0 a1 a2 a3 a4 a5 a6 a7 a8, x = some (a0, a1, a2, a3, a4, a5, a6, a7, a8) ∧ k a0 a1 a2 a3 a4 a5 a6 a7 a8 = some r := by
  cases x with
  | none => cases h
  | some q => exact ⟨q.1, q.2.1, q.2.2.1, q.2.2.2.1, q.2.2.2.2.1, q.2.2.2.2.2.1, q.2.2.2.2.2.2.1, q.2.2.2.2.2.2.2.1, q.2.2.2.2.2.2.2.2, rfl, h⟩
theorem p9_inj {α β γ δ ε ζ η θ ι : Type} {a0 : α} {a1 : β} {a2 : γ} {a3 : δ} {a4 : ε} {a5 : ζ} {a6 : η} {a7 : θ} {a8 : ι} {b0 : α} {b1 : β} {b2 : γ} {b3 : δ} {b4 : ε} {b5 : ζ} {b6 : η} {b7 : θ} {b8 : ι} (h : some (a0, a1, a2, a3, a4, a5, a6, a7, a8) = some (b0, b1, b2, b3, b4, b5, b6, b7, b8)) : a0 = b0 ∧ a1 = b1 ∧ a2 = b2 ∧ a3 = b3 ∧ a4 = b4 ∧ a5 = b5 ∧ a6 = b6 ∧ a7 = b7 ∧ a8 = b8 := by
  cases h; exact ⟨rfl, rfl, rfl, rfl, rfl, rfl, rfl, rfl, rfl⟩
def bd10 {α β γ δ ε ζ η θ ι κ ω : Type} (x : Option (α × β × γ × δ × ε × ζ × η × θ × ι × κ)) (k : α → β → γ → δ → ε → ζ → η → θ → ι → κ → Option ω) : Option ω := match x with
  | none => none
  | some q => k q.1 q.2.1 q.2.2.1 q.2.2.2.1 q.2.2.2.2.1 q.2.2.2.2.2.1 q.2.2.2.2.2.2.1 q.2.2.2.2.2.2.2.1 q.2.2.2.2.2.2.2.2.1 q.2.2.2.2.2.2.2.2.2
theorem bd10_some {α β γ δ ε ζ η θ ι κ ω : Type} {x : Option (α × β × γ × δ × ε × ζ × η × θ × ι × κ)} {k : α → β → γ → δ → ε → ζ → η → θ → ι → κ → Option ω} {r : ω} (h : bd10 x k = some r) : ∃ a0 a1 a2 a3 a4 a5 a6 a7 a8 a9, x = some (a0, a1, a2, a3, a4, a5, a6, a7, a8, a9) ∧ k a0 a1 a2 a3 a4 a5 a6 a7 a8 a9 = some r := by
  cases x with
  | none => cases h
  | some q => exact ⟨q.1, q.2.1, q.2.2.1, q.2.2.2.1, q.2.2.2.2.1, q.2.2.2.2.2.1, q.2.2.2.2.2.2.1, q.2.2.2.2.2.2.2.1, q.2.2.2.2.2.2.2.2.1, q.2.2.2.2.2.2.2.2.2, rfl, h⟩
theorem p10_inj {α β γ δ ε ζ η θ ι κ : Type} {a0 : α} {a1 : β} {a2 : γ} {a3 : δ} {a4 : ε} {a5 : ζ} {a6 : η} {a7 : θ} {a8 : ι} {a9 : κ} {b0 : α} {b1 : β} {b2 : γ} {b3 : δ} {b4 : ε} {b5 : ζ} {b6 : η} {b7 : θ} {b8 : ι} {b9 : κ} (h : some (a0, a1, a2, a3, a4, a5, a6, a7, a8, a9) = some (b0, b1, b2, b3, b4, b5, b6, b7, b8, b9)) : a0 = b0 ∧ a1 = b1 ∧ a2 = b2 ∧ a3 = b3 ∧ a4 = b4 ∧ a5 = b5 ∧ a6 = b6 ∧ a7 = b7 ∧ a8 = b8 ∧ a9 = b9 := by
  cases h; exact ⟨rfl, rfl, rfl, rfl, rfl, rfl, rfl, rfl, rfl, rfl⟩
def imin (x y : Int32) : Int32 := if y < x then y else x
def imax (x y : Int32) : Int32 := if x < y then y else x
theorem nm_mem {α : Type} {G : GT} {S : Shp} {mr : Rfs} {X : Mem} {H : Heap} {locs : List Loc} {k : Mem → Option α} {r : α} (hR : RM G S mr X H locs) (hf : nm X k = some r) : ∃ y, RM G S mr y H locs ∧ k y = some r := ⟨X, hR, hf⟩
theorem nm_at {α β : Type} {x : α} {k : α → Option β} {r : β} (hf : nm x k = some r) : ∃ y, y = x ∧ k y = some r := ⟨x, rfl, hf⟩
section XN
variable {p : Program} {l : Launch} {e : Env} {R : Room} {s : State} {m : MethodId} {args : Array Value} {below : List Frame} {meth : Method} {c : Code} {H : Heap} {locs : List Loc} {cells slots : Nat} {Q : State → Prop}
variable {cc : ByteArray} {pc : Nat} {ls : Array Slot} {rest : List Value} {G : GT} {S : Shp} {mr : Rfs} {mi : Mem} {own : String} {nL : Nat}
theorem x_nmi {α : Type} {X : Int32} {k : Int32 → Option α} {r : α} (hf : nm X k = some r) (kk : ∀ y, k y = some r → W p l e R s m args below meth c H locs cells slots Q (F0 m pc ls (.int y :: rest))) : W p l e R s m args below meth c H locs cells slots Q (F0 m pc ls (.int X :: rest)) := kk X hf
theorem x_nml {α : Type} {X : Int64} {k : Int64 → Option α} {r : α} (hf : nm X k = some r) (kk : ∀ y, k y = some r → W p l e R s m args below meth c H locs cells slots Q (F0 m pc ls (.long y :: rest))) : W p l e R s m args below meth c H locs cells slots Q (F0 m pc ls (.long X :: rest)) := kk X hf
theorem x_min (C : Cx G p s m c args own cc nL) {idx : Nat} {x y : Int32} (hl : Cond.methodLink own idx Lib.Math.min.name ∈ tblG) (hls : ls.size = nL) (hfr : 1 ≤ R.frames) (hlo : (rest.map fun v => v.category).sum + 13 ≤ R.locals) (hf : cells ≤ R.cells ∧ slots ≤ R.slots) (hd : decode cc pc = .ok (.invokestatic idx, 3))
    (kk : W p l e R s m args below meth c H locs cells slots Q (F0 m (pc + 3) ls (.int (imin x y) :: rest))) : W p l e R s m args below meth c H locs cells slots Q (F0 m pc ls (.int y :: .int x :: rest)) :=
  va_mmin C.1 C.2.1 (C.2.2.1.trans hls.symm) C.2.2.2.1 (C.2.2.2.2.1 _ hl) (C.2.2.2.2.1 _ mm_min.1) (C.2.2.2.2.1 _ in_java_lang_Math) (C.2.2.2.2.1 _ mm_min.2) hfr hlo hf.1 hf.2 hd kk
theorem x_max (C : Cx G p s m c args own cc nL) {idx : Nat} {x y : Int32} (hl : Cond.methodLink own idx Lib.Math.max.name ∈ tblG) (hls : ls.size = nL) (hfr : 1 ≤ R.frames) (hlo : (rest.map fun v => v.category).sum + 13 ≤ R.locals) (hf : cells ≤ R.cells ∧ slots ≤ R.slots) (hd : decode cc pc = .ok (.invokestatic idx, 3))
    (kk : W p l e R s m args below meth c H locs cells slots Q (F0 m (pc + 3) ls (.int (imax x y) :: rest))) : W p l e R s m args below meth c H locs cells slots Q (F0 m pc ls (.int y :: .int x :: rest)) :=
  va_mmax C.1 C.2.1 (C.2.2.1.trans hls.symm) C.2.2.2.1 (C.2.2.2.2.1 _ hl) (C.2.2.2.2.1 _ mm_max.1) (C.2.2.2.2.1 _ in_java_lang_Math) (C.2.2.2.2.1 _ mm_max.2) hfr hlo hf.1 hf.2 hd kk
theorem x_tsIn (hx : p.tables.exec = Jvm.exec) (hb : c.code = cc) {dflt lo hi : Int} {offs : Array Int} {len : Nat} {x : Int32} {off : Int} {tgt : Nat} (hd : decode cc pc = .ok (.tableswitch dflt lo hi offs, len)) {k : Int32} (ek : x = k) (h1 : ¬ k.toInt < lo) (h2 : ¬ hi < k.toInt) (ho : offs[(k.toInt - lo).toNat]? = some off) (ht : (pc : Int) + off = (tgt : Int))
    (kk : W p l e R s m args below meth c H locs cells slots Q (F0 m tgt ls rest)) : W p l e R s m args below meth c H locs cells slots Q (F0 m pc ls (.int x :: rest)) := by
  subst ek
  exact lv_tableIn hx hb hd h1 h2 ho ht kk
theorem x_lsIn (hx : p.tables.exec = Jvm.exec) (hb : c.code = cc) {dflt : Int} {ps : Array (Int × Int)} {len : Nat} {x : Int32} {off : Int} {tgt : Nat} (hd : decode cc pc = .ok (.lookupswitch dflt ps, len)) {k : Int32} (ek : x = k) (hp : (ps.toList.zip (ps.toList.drop 1)).all (fun (a, next) => a.1 < next.1) = true) (ho : Op.lookupswitch.offset ps.toList dflt k.toInt = off) (ht : (pc : Int) + off = (tgt : Int))
    (kk : W p l e R s m args below meth c H locs cells slots Q (F0 m tgt ls rest)) : W p l e R s m args below meth c H locs cells slots Q (F0 m pc ls (.int x :: rest)) := by
  subst ek
  exact lv_lookup hx hb hd hp ho ht kk
end XN
set_option maxRecDepth 100000 in
theorem ks_J6_265 : Cond.constant RJ6 265 1431655765 ∈ tblG := tg1 (List.mem_of_getElem? (i := 786) (by decide +kernel)) rfl
set_option maxRecDepth 100000 in
theorem ks_J6_266 : Cond.constant RJ6 266 858993459 ∈ tblG := tg1 (List.mem_of_getElem? (i := 787) (by decide +kernel)) rfl
set_option maxRecDepth 100000 in
theorem ks_J6_267 : Cond.constant RJ6 267 252645135 ∈ tblG := tg1 (List.mem_of_getElem? (i := 788) (by decide +kernel)) rfl
end
section
theorem lp_zero {σ ρ : Type} (body : σ → Option (σ ⊕ ρ)) (s : σ) {r : ρ} : ¬ lp body 0 s = some r := fun h => by cases h
def isQb (w sp rw : Nat) : Bool := (w == 179 || w == 190) && (sp == 179 || sp == 190) && (rw == 179 || rw == 190)
theorem isQ_of {w sp rw : Nat} (h : isQb w sp rw = true) : isQ w sp rw := by
  unfold isQb at h
  simp only [Bool.and_eq_true, Bool.or_eq_true, beq_iff_eq] at h
  exact ⟨h.1.1, h.1.2, h.2⟩
theorem RM.S {G : GT} {S : Shp} {mr : Rfs} {mi : Mem} {H : Heap} {locs : List Loc} (h : RM G S mr mi H locs) (hz : G.2.2.2.2.size = G.2.2.2.1) : va_S (fun q => G.2.2.2.1 ≤ q) G.2.2.2.2 H locs :=
  ⟨by rw [h.1, hz]; exact Nat.le_add_right _ _, fun q _ h2 => h.2.1 q (Nat.not_le.mp h2), h.2.2.2⟩
theorem x_meth2 {l : Launch} {G : GT} {y : MethodName} {cc : ByteArray} {nL : Nat} {rt : Option FieldType} {d mc ms : Nat} {av : List Value} {S : Shp} {mr : Rfs} {mi : Mem} {r : Option Value} {S' : Shp} {mr' : Rfs} {mi' : Mem} {own : String} {lv : List (Nat × Value)} (hy : plainName y.cls = true) (hown : y.cls = own) (hlv : lv_args 0 av = lv) (hn : (lg_sl av).length ≤ nL)
    (body : ∀ (p : Program) (e : Env) (s : State) (m : MethodId) (below : List Frame) (meth : Method) (c : Code), Cx G p s m c av.toArray own cc nL → meth.sig.returnType = rt → meth.locks = false → ∀ ls : Array Slot, lv_has ls nL lv → ∀ (H : Heap) (locs : List Loc), RM G S mr mi H locs →
      W p l e (rmD d mc ms) s m av.toArray below meth c H locs 0 0 (MQ below (QX G r S' mr' mi') av.toArray s mc ms (fun q => G.2.2.2.1 ≤ q)) (F0 m 0 ls [])) : MX l G y cc nL rt d mc ms av S mr mi r S' mr' mi' :=
  x_method hy hown hlv hn (fun p e s m below meth c C hr hlk _ ls hl _ hR => body p e s m below meth c C hr hlk ls hl _ _ hR)
end
section
/-! ===== making cells: the shape's functions stay, the number of cells grows ===== -/
theorem RM.push {G : GT} {n n' : Nat} {kdf lnf : Nat → Nat} {mr : Rfs} {mi : Mem} {H H' : Heap} {locs : List Loc} (h : RM G (n, kdf, lnf) mr mi H locs) (hn : n' = n + 1) (z : H'.size = G.2.2.2.1 + n + 1) (oq : ∀ q : Nat, q < G.2.2.2.1 + n → H'[q]? = H[q]?) (hc : cellR G (n', kdf, lnf) mr mi n H') : RM G (n', kdf, lnf) mr mi H' locs := by
  subst hn
  refine ⟨by rw [z]; show _ = _ + (n + 1); omega, fun q hq => (oq q (by omega)).trans (h.2.1 q hq), fun k hk => ?_, h.2.2.2⟩
  by_cases e : k = n
  · subst e; exact hc
  · have hk : k < n + 1 := hk
    have := h.2.2.1 k (show k < n by omega)
    exact cellR.kept this rfl rfl (oq _ (by omega))
theorem okT : ∀ ci, ci < 9 → ∀ k, k < cF ci → (match cTy ci k with | .int => true | .boolean => true | .array _ => true | .object _ => true | _ => false) = true := by decide +kernel
theorem dv_fv {B ci k : Nat} (hci : ci < 9) (hk : k < cF ci) : defaultValue (cTy ci k) = fv B ci k none 0 := by
  have h := okT ci hci k hk
  unfold fv isR
  cases ht : cTy ci k <;> rw [ht] at h <;> first | rfl | cases h
/-- values above n are as new cells have them -/
def Fz (n : Nat) (mr : Rfs) (mi : Mem) : Prop := ∀ k, n ≤ k → (∀ j, mr k j = none) ∧ ∀ j, mi k j = 0
theorem Fz.up {n n' : Nat} {mr : Rfs} {mi : Mem} (h : Fz n mr mi) (hn : n ≤ n') : Fz n' mr mi := fun k hk => h k (by omega)
theorem Fz.sr {n a k : Nat} {v : Option Nat} {mr : Rfs} {mi : Mem} (h : Fz n mr mi) (ha : a < n) : Fz n (sr mr a k v) mi := fun q hq => by
  rw [sr_ne (show q ≠ a by omega)]; exact h q hq
theorem Fz.st {n a k : Nat} {v : Int32} {mr : Rfs} {mi : Mem} (h : Fz n mr mi) (ha : a < n) : Fz n mr (st mi a k v) := fun q hq => by
  rw [st_ne (show q ≠ a by omega)]; exact h q hq
theorem st_same {mi : Mem} {a k : Nat} {v : Int32} (h : mi a k = v) : st mi a k v = mi := by
  funext b
  by_cases e : b = a
  · subst e
    rw [st_eq]
    funext j
    by_cases f : j = k
    · subst f; rw [if_pos rfl]; exact h.symm
    · rw [if_neg f]
  · rw [st_ne e]
section XA
variable {p : Program} {l : Launch} {e : Env} {R : Room} {s : State} {m : MethodId} {args : Array Value} {below : List Frame} {meth : Method} {c : Code} {H : Heap} {locs : List Loc} {cells slots : Nat} {Q : State → Prop}
variable {cc : ByteArray} {pc : Nat} {ls : Array Slot} {rest : List Value} {G : GT} {n n' : Nat} {kdf lnf : Nat → Nat} {mr : Rfs} {mi : Mem} {own : String} {nL : Nat}
/-- newarray: int (9), char (10), boolean (11) -/
theorem x_newa {atype : ArrayType} {kd t0 : Nat} {N : Nat} {v : Int32} (C : Cx G p s m c args own cc nL) (hR : RM G (n, kdf, lnf) mr mi H locs) (hz : (∀ j, mr n j = none) ∧ ∀ j, mi n j = 0) (hk : kdf n = kd ∧ lnf n = N) (hn : n' = n + 1) (ht : (atype = .int ∧ kd = 9) ∨ (atype = .char ∧ kd = 10) ∨ (atype = .boolean ∧ kd = 11)) (harr : Cond.arrayClass (newarray.typeOf atype) ∈ tblG) (hv : ¬ v < 0 ∧ v.toNatClampNeg = N ∧ N ≤ 100000) (hcs : cells + 1 ≤ R.cells ∧ slots + N ≤ R.slots) (hd : decode cc pc = .ok (.newarray atype, 2))
    (kk : ∀ H1 : Heap, RM G (n', kdf, lnf) mr mi H1 locs → W p l e R s m args below meth c H1 locs (cells + 1) (slots + N) Q (F0 m (pc + 2) ls (.ref (G.2.2.2.1 + n) :: rest))) : W p l e R s m args below meth c H locs cells slots Q (F0 m pc ls (.int v :: rest)) := by
  obtain ⟨hx, hb, -, -, hts, hK⟩ := C
  have hbytes : N * componentBytes (newarray.typeOf atype) ≤ 536870912 := by
    have : componentBytes (newarray.typeOf atype) ≤ 8 := by cases atype <;> decide
    calc N * componentBytes (newarray.typeOf atype) ≤ 100000 * 8 := Nat.mul_le_mul hv.2.2 this
      _ ≤ 536870912 := by decide
  refine va_newaK hx hb (hts _ harr) (g := F0 m pc ls (.int v :: rest)) rfl hd rfl hv.1 hv.2.1 hbytes hcs.1 hcs.2 hR.1 fun H1 cA e1 z1 o1 hAr hNm => ?_
  refine kk H1 (hR.push hn z1 o1 ⟨fun h => ?_, fun h => ?_⟩)
  · exfalso
    have h : kdf n < 9 := h
    rw [hk.1] at h
    rcases ht with ⟨-, rfl⟩ | ⟨-, rfl⟩ | ⟨-, rfl⟩ <;> omega
  · show H1[G.2.2.2.1 + n]? = some (arrV (G.2.2.1 (kdf n)) (lnf n) (fun j => av G.2.2.2.1 (kdf n) (mr n j) (mi n j)))
    have e2 : (fun j => av G.2.2.2.1 (kdf n) (mr n j) (mi n j)) = (fun _ => Value.int 0) := by
      funext j
      rw [hz.2 j, hk.1]
      rcases ht with ⟨-, rfl⟩ | ⟨-, rfl⟩ | ⟨-, rfl⟩ <;> rfl
    rw [e2, hk.1, hk.2]
    rcases ht with ⟨rfl, rfl⟩ | ⟨rfl, rfl⟩ | ⟨rfl, rfl⟩
    · have : cA = G.2.2.1 9 := Option.some.inj (hNm.symm.trans (hK.1.2 0 _ rfl).2)
      rw [← this]; exact e1
    · have : cA = G.2.2.1 10 := Option.some.inj (hNm.symm.trans (hK.1.2 1 _ rfl).2)
      rw [← this]; exact e1
    · have : cA = G.2.2.1 11 := Option.some.inj (hNm.symm.trans (hK.1.2 2 _ rfl).2)
      rw [← this]; exact e1
/-- anewarray: Desk (12), Image (13) -/
theorem x_anew {kd t0 idx : Nat} {N : Nat} {v : Int32} {K : String} (C : Cx G p s m c args own cc nL) (hR : RM G (n, kdf, lnf) mr mi H locs) (hz : (∀ j, mr n j = none) ∧ ∀ j, mi n j = 0) (hk : kdf n = kd ∧ lnf n = N) (hn : n' = n + 1) (ht : (K = RX0 ∧ kd = 12) ∨ (K = RX2 ∧ kd = 13)) (hcl : Cond.classLink own idx K ∈ tblG) (hover : (Cond.arrayOver (.object K)).before args s = true) (hv : ¬ v < 0 ∧ v.toNatClampNeg = N ∧ N ≤ 100000) (hcs : cells + 1 ≤ R.cells ∧ slots + N ≤ R.slots) (hd : decode cc pc = .ok (.anewarray idx, 3))
    (kk : ∀ H1 : Heap, RM G (n', kdf, lnf) mr mi H1 locs → W p l e R s m args below meth c H1 locs (cells + 1) (slots + N) Q (F0 m (pc + 3) ls (.ref (G.2.2.2.1 + n) :: rest))) : W p l e R s m args below meth c H locs cells slots Q (F0 m pc ls (.int v :: rest)) := by
  obtain ⟨hx, hb, -, hown, hts, hK⟩ := C
  obtain ⟨hv1, hv2, hv3⟩ := hv
  subst hv2
  refine W.anew hx hb hown (hts _ hcl) hover (g := F0 m pc ls (.int v :: rest)) rfl hd rfl hv1 (by omega) hcs.1 hcs.2 fun cA kA comp f1 f2 f3 f4 => ?_
  generalize hH1 : H.push ({ cls := cA, slots := Array.replicate v.toNatClampNeg .null, vm := .none } : Cell) = H1
  have z1 : H1.size = G.2.2.2.1 + n + 1 := by rw [← hH1, Array.size_push, hR.1]
  have e1 : H1[G.2.2.2.1 + n]? = some (arrV cA v.toNatClampNeg (fun _ => .null)) := by
    have : G.2.2.2.1 + n = H.size := hR.1.symm
    rw [this, ← hH1, Array.getElem?_push_size, ← arrV_new]
  have o1 : ∀ q : Nat, q < G.2.2.2.1 + n → H1[q]? = H[q]? := fun q hq => by
    have : H.size = G.2.2.2.1 + n := hR.1
    rw [← hH1, Array.getElem?_push, if_neg (by omega)]
  have hsz : H.size = G.2.2.2.1 + n := hR.1
  rw [hsz]
  refine kk H1 (hR.push hn z1 o1 ⟨fun h => ?_, fun h => ?_⟩)
  · exfalso
    have h : kdf n < 9 := h
    rw [hk.1] at h
    rcases ht with ⟨-, rfl⟩ | ⟨-, rfl⟩ <;> omega
  · show H1[G.2.2.2.1 + n]? = some (arrV (G.2.2.1 (kdf n)) (lnf n) (fun j => av G.2.2.2.1 (kdf n) (mr n j) (mi n j)))
    have e2 : (fun j => av G.2.2.2.1 (kdf n) (mr n j) (mi n j)) = (fun _ => Value.null) := by
      funext j
      rw [hz.1 j, hk.1]
      rcases ht with ⟨-, rfl⟩ | ⟨-, rfl⟩ <;> rfl
    rw [e2, hk.1, hk.2]
    rcases ht with ⟨rfl, rfl⟩ | ⟨rfl, rfl⟩
    · obtain ⟨_, _, _, _, _, h4⟩ := (hK.1.2 3 _ rfl).2
      have : cA = G.2.2.1 12 := Option.some.inj (f1.symm.trans h4)
      rw [← this]; exact e1
    · obtain ⟨_, _, _, _, _, h4⟩ := (hK.1.2 4 _ rfl).2
      have : cA = G.2.2.1 13 := Option.some.inj (f1.symm.trans h4)
      rw [← this]; exact e1
/-- new -/
theorem x_new {ci idx : Nat} (C : Cx G p s m c args own cc nL) (hR : RM G (n, kdf, lnf) mr mi H locs) (hci : ci < 9) (hz : (∀ j, mr n j = none) ∧ ∀ j, mi n j = 0) (hk : kdf n = ci) (hn : n' = n + 1) (hw : Cond.classLink own idx (cN ci) ∈ tblG ∧ Cond.instantiable (cN ci) (cF ci) ∈ tblG ∧ Cond.initialized (cN ci) ∈ tblG) (hcs : cells + 1 ≤ R.cells ∧ slots + cF ci ≤ R.slots) (hd : decode cc pc = .ok (.new idx, 3))
    (kk : ∀ H1 : Heap, RM G (n', kdf, lnf) mr mi H1 locs → W p l e R s m args below meth c H1 locs (cells + 1) (slots + cF ci) Q (F0 m (pc + 3) ls (.ref (G.2.2.2.1 + n) :: rest))) : W p l e R s m args below meth c H locs cells slots Q (F0 m pc ls rest) := by
  obtain ⟨hx, hb, -, hown, hts, hK⟩ := C
  have hKn := hK.1.1 ci _ (cl_at ci hci)
  refine W.newcK hx hb hown (hts _ hw.1) (hts _ hw.2.1) (hts _ hw.2.2) (g := F0 m pc ls rest) rfl hd hcs.1 hcs.2 hKn.2.1 hR.1 fun H1 kC hkC e1 z1 o1 => ?_
  refine kk H1 (hR.push hn z1 o1 ⟨fun h => ?_, fun h => ?_⟩)
  · show t_OB (G.2.2.2.1 + n) (G.1 (kdf n)) (cF (kdf n)) (G.2.1 (kdf n)) H1 (fun j => fv G.2.2.2.1 (kdf n) j (mr n j) (mi n j))
    rw [hk]
    refine (u_born (cTy ci) hts (cl_in ci hci) hKn hkC e1 (cl_ty ci hci)).to fun j hj => ?_
    rw [hz.1 j, hz.2 j]
    exact dv_fv hci hj
  · exfalso
    have h : 9 ≤ kdf n := h
    rw [hk] at h
    omega
/-- a final field, in its constructor -/
theorem x_putF {S : Shp} {a idx ci k b : Nat} (C : Cx G p s m c args own cc nL) (hR : RM G S mr mi H locs) (hF : FO own idx ci k) (hfin : (cT ci k).2.2.2 = true) (hnm : meth.name = "<init>") (hdecl : (cT ci k).1 = own) (hlk : Cond.fieldLink own idx (cT ci k).1 (cT ci k).2.1 (cT ci k).2.2.1 ∈ tblG) (hty : isR ci k = true) (ha : a < S.1 ∧ S.2.1 a = ci) (hd : decode cc pc = .ok (.putfield idx, 3))
    (kk : ∀ (H1 : Heap) (locs1 : List Loc), RM G S (sr mr a k (some b)) mi H1 locs1 → W p l e R s m args below meth c H1 locs1 cells slots Q (F0 m (pc + 3) ls rest)) : W p l e R s m args below meth c H locs cells slots Q (F0 m pc ls (.ref (G.2.2.2.1 + b) :: .ref (G.2.2.2.1 + a) :: rest)) := by
  obtain ⟨hx, hb, -, hown, hts, hK⟩ := C
  obtain ⟨hci, hk, -⟩ := hF
  obtain ⟨ha, hk2⟩ := ha
  have hnr : narrow (cTy ci k) (.ref (G.2.2.2.1 + b)) = .ref (G.2.2.2.1 + b) ∧ fits (cTy ci k) (.ref (G.2.2.2.1 + b)) = true := by
    unfold isR at hty
    cases ht : cTy ci k <;> rw [ht] at hty <;> first | exact ⟨rfl, rfl⟩ | cases hty
  have hc := (hR.2.2.1 a ha).1 (by rw [hk2]; exact hci)
  rw [hk2] at hc
  obtain ⟨cell, q1, q2, q3, q4⟩ := hc
  have hap := va_apart (own := own) hts (cl_in ci hci) (cTy ci) (cl_ty ci hci) (cl_nm ci hci) hK.1 (cl_at ci hci)
  obtain ⟨hS, hfc, kC, hkC, hkind⟩ := hK.1.1 ci _ (cl_at ci hci)
  obtain ⟨cf, kf, fi, f, hi, hsl⟩ := hS k hk
  have hst := (u_facts hfc hkC (u_lays hts (cl_in ci hci) hk) hi).1
  have hlay := hts _ (cl_in ci hci _ (u_in_lay hk))
  unfold u_lay at hlay
  rw [if_pos hfin] at hlay
  have hcf : m.cls = cf := by
    obtain ⟨_, _, c', _, _, _, -, -, hf', -, -, -, hown2, -⟩ := Cond.laysFinal_spec hlay
    have e1 : c' = cf := by have := hi.symm.trans hf'; simp at this; exact this.1.symm
    have e2 : (cT ci k).1 = own := hdecl
    rw [show ((cN ci, cT ci, cF ci).snd.fst k).fst = own from e2] at hown2
    rw [← e1]; exact Option.some.inj (hown.symm.trans hown2)
  have h6 := u_fits hfc hkC hkind (Or.inr hlay) hi (cl_ty ci hci k hk) hnr.1 hnr.2
  refine W.putFinK hx hb hown (hts _ hlk) hi hst hcf hnm (by rw [q2]; exact h6) q1 q3 (by rw [hsl]; exact k2_hasslot (q4 k hk)) rfl rfl hd fun H' e1 e2 e3 => ?_
  rw [hsl] at e1
  refine kk H' _ (hR.upd e2 e3 (fun q h => ⟨sr_ne h, rfl⟩) ⟨fun h9 => ?_, fun h9 => absurd h9 (by rw [hk2]; omega)⟩ (locs1 hR.2.2.2))
  rw [hk2]
  exact t_OB.to (V := updV (fun j => fv G.2.2.2.1 ci j (mr a j) (mi a j)) k (.ref (G.2.2.2.1 + b))) ⟨_, e1, q2, q3, t_set q4 hap hk _⟩ (fun j _ => x_put_r hty j)
/-- aastore of an object into its row -/
theorem x_aast {S : Shp} {a b kd ci t0 : Nat} {i : Int32} (C : Cx G p s m c args own cc nL) (hR : RM G S mr mi H locs) (hkd : (kd = 12 ∧ ci = 0) ∨ (kd = 13 ∧ ci = 2)) (ha : a < S.1 ∧ S.2.1 a = kd) (hb2 : b < S.1 ∧ S.2.1 b = ci) (hin : inB i (S.2.2 a) = true) (hd : decode cc pc = .ok (.aastore, 1))
    (kk : ∀ (H1 : Heap) (locs1 : List Loc), RM G S (sr mr a (ix i) (some b)) mi H1 locs1 → W p l e R s m args below meth c H1 locs1 cells slots Q (F0 m (pc + 1) ls rest)) : W p l e R s m args below meth c H locs cells slots Q (F0 m pc ls (.ref (G.2.2.2.1 + b) :: .int i :: .ref (G.2.2.2.1 + a) :: rest)) := by
  obtain ⟨hx, hb, -, -, -, hK⟩ := C
  have h9 : 9 ≤ kd := by rcases hkd with ⟨rfl, -⟩ | ⟨rfl, -⟩ <;> decide
  have h12 : ¬ kd < 12 := by rcases hkd with ⟨rfl, -⟩ | ⟨rfl, -⟩ <;> decide
  have hci : ci < 9 := by rcases hkd with ⟨-, rfl⟩ | ⟨-, rfl⟩ <;> decide
  obtain ⟨cellV, g1, g2, g3, -⟩ := (hR.2.2.1 b hb2.1).1 (by rw [hb2.2]; exact hci)
  rw [hb2.2] at g2
  have hcls := (hK.1.1 ci _ (cl_at ci hci)).2
  have hRA : ∃ (kA : Class) (comp : ClassId) (C0 : String), s.vm.classes[G.2.2.1 kd]? = some kA ∧ kA.kind = .array comp (.object C0) ∧ s.vm.findClass (cN ci) = some comp := by
    rcases hkd with ⟨rfl, rfl⟩ | ⟨rfl, rfl⟩
    · obtain ⟨kA, comp, k1, k2, k3, -⟩ := (hK.1.2 3 _ rfl).2
      exact ⟨kA, comp, _, k1, k2, k3⟩
    · obtain ⟨kA, comp, k1, k2, k3, -⟩ := (hK.1.2 4 _ rfl).2
      exact ⟨kA, comp, _, k1, k2, k3⟩
  obtain ⟨kA, comp, C0, k1, k2, k3⟩ := hRA
  have hcomp : comp = G.1 ci := Option.some.inj (k3.symm.trans hcls.1)
  subst hcomp
  obtain ⟨kC, hkC, -⟩ := hcls.2
  refine W.aast hx hb (x_arr hR ha h9) (fun q h => by cases h) (fun h => by cases h) k1 k2 rfl hkC ⟨fun q => inB_vp hin (Or.inl q), by rw [arrV_size]; exact inB_lt hin⟩ g1 (fun q h => by rw [g3] at h; cases h) (by rw [g2]; exact hkC) (by rw [g2]; exact va_assign hcls) rfl rfl hd fun H1 e1 z oq => ?_
  refine kk H1 _ (hR.upd z oq (fun k h => ⟨sr_ne h, rfl⟩) ⟨fun h => absurd h (by rw [ha.2]; omega), fun _ => ?_⟩ (locs1 hR.2.2.2))
  rw [e1, arrV_store, ha.2]
  congr 2
  funext q
  rw [sr_pt]
  by_cases hq : q = ix i
  · subst hq; rw [if_pos rfl, av_r h12]; simp [updV, va_rf]
  · rw [if_neg hq]; simp [updV, hq]
theorem x_obj {a idx : Nat} (C : Cx G p s m c args own cc nL) (hw : Cond.methodLink own idx objectInit ∈ tblG ∧ Cond.instanceMethod objectInit ∈ tblG ∧ Cond.code objectInit ⟨#[0xb1]⟩ 1 none ∈ tblG) (hls : ls.size = nL) (hfr : 1 ≤ R.frames) (hlo : (rest.map fun v => v.category).sum + 12 ≤ R.locals) (hd : decode cc pc = .ok (.invokespecial idx, 3))
    (kk : W p l e R s m args below meth c H locs cells slots Q (F0 m (pc + 3) ls rest)) : W p l e R s m args below meth c H locs cells slots Q (F0 m pc ls (.ref (G.2.2.2.1 + a) :: rest)) := by
  obtain ⟨hx, hb, hml, hown, hts, -⟩ := C
  exact W.objInit hx hb hown (hts _ hw.1) (hts _ hw.2.1) (hts _ hw.2.2) (g := F0 m pc ls (.ref (G.2.2.2.1 + a) :: rest)) rfl (by rw [hml]; exact hls) rfl hd hfr (by show 2 * 0 + _ + 12 ≤ _; omega) kk
end XA
/-- the same store by other words -/
theorem RM.congr {G : GT} {n : Nat} {kdf lnf : Nat → Nat} {mr mr' : Rfs} {mi mi' : Mem} {H : Heap} {locs : List Loc} (h : RM G (n, kdf, lnf) mr mi H locs) (h1 : ∀ k, k < n → ∀ j, j < 64 → mr' k j = mr k j) (h2 : ∀ k, k < n → ∀ j, mi' k j = mi k j) (h3 : ∀ k, k < n → (kdf k < 9 ∨ kdf k < 12 ∨ lnf k ≤ 64)) : RM G (n, kdf, lnf) mr' mi' H locs := by
  refine ⟨h.1, h.2.1, fun k hk => ?_, h.2.2.2⟩
  have hc := h.2.2.1 k hk
  refine ⟨fun h9 => ?_, fun h9 => ?_⟩
  · refine (hc.1 h9).to fun j hj => ?_
    have hcf : cF (kdf k) ≤ 64 := by
      have : ∀ ci, ci < 9 → cF ci ≤ 64 := by decide
      exact this _ h9
    have hj : j < cF (kdf k) := hj
    rw [h1 k hk j (by omega), h2 k hk j]
  · have := hc.2 h9
    rw [this]
    congr 1
    have h9' : 9 ≤ kdf k := h9
    show arrV _ (lnf k) _ = arrV _ (lnf k) _
    rcases h3 k hk with h4 | h4 | h4
    · omega
    · congr 1
      funext j
      rw [av_i h4, av_i h4, h2 k hk j]
    · unfold arrV
      congr 1
      apply Array.ext
      · simp
      · intro i hi _
        simp only [Array.size_ofFn] at hi
        simp only [Array.getElem_ofFn]
        rw [h1 k hk i (by omega), h2 k hk i]
end
section
set_option maxRecDepth 100000 in
theorem ac_int : Cond.arrayClass (newarray.typeOf .int) ∈ tblG := tg1 (List.mem_of_getElem? (i := 83) (by decide +kernel)) rfl
set_option maxRecDepth 100000 in
theorem ac_char : Cond.arrayClass (newarray.typeOf .char) ∈ tblG := tg1 (List.mem_of_getElem? (i := 46) (by decide +kernel)) rfl
set_option maxRecDepth 100000 in
theorem ac_boolean : Cond.arrayClass (newarray.typeOf .boolean) ∈ tblG := tg1 (List.mem_of_getElem? (i := 956) (by decide +kernel)) rfl
set_option maxRecDepth 100000 in
theorem ao_0 : Cond.arrayOver (.object RX0) ∈ nestT := tn1 (List.mem_of_getElem? (i := 91) (by decide +kernel)) rfl
set_option maxRecDepth 100000 in
theorem ao_2 : Cond.arrayOver (.object RX2) ∈ nestT := tn1 (List.mem_of_getElem? (i := 105) (by decide +kernel)) rfl
set_option maxRecDepth 100000 in
theorem ob_in : Cond.instanceMethod objectInit ∈ tblG ∧ Cond.code objectInit ⟨#[0xb1]⟩ 1 none ∈ tblG := ⟨tg1 (List.mem_of_getElem? (i := 20) (by decide +kernel)) rfl, tg1 (List.mem_of_getElem? (i := 21) (by decide +kernel)) rfl⟩
set_option maxRecDepth 100000 in
theorem ni_0 : Cond.instantiable (cN 0) (cF 0) ∈ tblG ∧ Cond.initialized (cN 0) ∈ tblG := ⟨tg1 (List.mem_of_getElem? (i := 48) (by decide +kernel)) rfl, in_LetterTray_Desk⟩
set_option maxRecDepth 100000 in
theorem ni_1 : Cond.instantiable (cN 1) (cF 1) ∈ tblG ∧ Cond.initialized (cN 1) ∈ tblG := ⟨tg1 (List.mem_of_getElem? (i := 85) (by decide +kernel)) rfl, in_LetterTray_History⟩
set_option maxRecDepth 100000 in
theorem ni_2 : Cond.instantiable (cN 2) (cF 2) ∈ tblG ∧ Cond.initialized (cN 2) ∈ tblG := ⟨tg1 (List.mem_of_getElem? (i := 106) (by decide +kernel)) rfl, in_LetterTray_Image⟩
set_option maxRecDepth 100000 in
theorem ni_3 : Cond.instantiable (cN 3) (cF 3) ∈ tblG ∧ Cond.initialized (cN 3) ∈ tblG := ⟨tg1 (List.mem_of_getElem? (i := 23) (by decide +kernel)) rfl, in_LetterTray_Reader⟩
set_option maxRecDepth 100000 in
theorem ni_4 : Cond.instantiable (cN 4) (cF 4) ∈ tblG ∧ Cond.initialized (cN 4) ∈ tblG := ⟨tg1 (List.mem_of_getElem? (i := 219) (by decide +kernel)) rfl, in_LetterTray_Rows⟩
set_option maxRecDepth 100000 in
theorem ni_5 : Cond.instantiable (cN 5) (cF 5) ∈ tblG ∧ Cond.initialized (cN 5) ∈ tblG := ⟨tg1 (List.mem_of_getElem? (i := 127) (by decide +kernel)) rfl, in_LetterTray_Talk⟩
set_option maxRecDepth 100000 in
theorem ni_6 : Cond.instantiable (cN 6) (cF 6) ∈ tblG ∧ Cond.initialized (cN 6) ∈ tblG := ⟨tg1 (List.mem_of_getElem? (i := 157) (by decide +kernel)) rfl, in_LetterTray_Words⟩
set_option maxRecDepth 100000 in
theorem ni_7 : Cond.instantiable (cN 7) (cF 7) ∈ tblG ∧ Cond.initialized (cN 7) ∈ tblG := ⟨tg1 (List.mem_of_getElem? (i := 15) (by decide +kernel)) rfl, in_LetterTray⟩
set_option maxRecDepth 100000 in
theorem ni_8 : Cond.instantiable (cN 8) (cF 8) ∈ tblG ∧ Cond.initialized (cN 8) ∈ tblG := ⟨tg1 (List.mem_of_getElem? (i := 833) (by decide +kernel)) rfl, in_LetterTrayModel⟩
set_option maxRecDepth 100000 in
theorem ob_X0 : Cond.methodLink RX0 3 objectInit ∈ tblG ∧ Cond.instanceMethod objectInit ∈ tblG ∧ Cond.code objectInit ⟨#[0xb1]⟩ 1 none ∈ tblG := ⟨tg1 (List.mem_of_getElem? (i := 52) (by decide +kernel)) rfl, ob_in⟩
set_option maxRecDepth 100000 in
theorem fl_X0_9 : Cond.fieldLink RX0 9 (cT 0 0).1 (cT 0 0).2.1 (cT 0 0).2.2.1 ∈ tblG := tg1 (List.mem_of_getElem? (i := 53) (by decide +kernel)) rfl
set_option maxRecDepth 100000 in
theorem fl_X0_15 : Cond.fieldLink RX0 15 (cT 0 1).1 (cT 0 1).2.1 (cT 0 1).2.2.1 ∈ tblG := tg1 (List.mem_of_getElem? (i := 55) (by decide +kernel)) rfl
set_option maxRecDepth 100000 in
theorem fl_X0_18 : Cond.fieldLink RX0 18 (cT 0 2).1 (cT 0 2).2.1 (cT 0 2).2.2.1 ∈ tblG := tg1 (List.mem_of_getElem? (i := 57) (by decide +kernel)) rfl
set_option maxRecDepth 100000 in
theorem fl_X0_21 : Cond.fieldLink RX0 21 (cT 0 3).1 (cT 0 3).2.1 (cT 0 3).2.2.1 ∈ tblG := tg1 (List.mem_of_getElem? (i := 60) (by decide +kernel)) rfl
set_option maxRecDepth 100000 in
theorem ob_X6 : Cond.methodLink RX6 3 objectInit ∈ tblG ∧ Cond.instanceMethod objectInit ∈ tblG ∧ Cond.code objectInit ⟨#[0xb1]⟩ 1 none ∈ tblG := ⟨tg1 (List.mem_of_getElem? (i := 161) (by decide +kernel)) rfl, ob_in⟩
set_option maxRecDepth 100000 in
theorem fl_X6_9 : Cond.fieldLink RX6 9 (cT 6 0).1 (cT 6 0).2.1 (cT 6 0).2.2.1 ∈ tblG := tg1 (List.mem_of_getElem? (i := 162) (by decide +kernel)) rfl
set_option maxRecDepth 100000 in
theorem fl_X6_15 : Cond.fieldLink RX6 15 (cT 6 1).1 (cT 6 1).2.1 (cT 6 1).2.2.1 ∈ tblG := tg1 (List.mem_of_getElem? (i := 165) (by decide +kernel)) rfl
set_option maxRecDepth 100000 in
theorem fl_X6_18 : Cond.fieldLink RX6 18 (cT 6 2).1 (cT 6 2).2.1 (cT 6 2).2.2.1 ∈ tblG := tg1 (List.mem_of_getElem? (i := 168) (by decide +kernel)) rfl
set_option maxRecDepth 100000 in
theorem fl_X6_21 : Cond.fieldLink RX6 21 (cT 6 3).1 (cT 6 3).2.1 (cT 6 3).2.2.1 ∈ tblG := tg1 (List.mem_of_getElem? (i := 170) (by decide +kernel)) rfl
set_option maxRecDepth 100000 in
theorem fl_X6_24 : Cond.fieldLink RX6 24 (cT 6 4).1 (cT 6 4).2.1 (cT 6 4).2.2.1 ∈ tblG := tg1 (List.mem_of_getElem? (i := 172) (by decide +kernel)) rfl
set_option maxRecDepth 100000 in
theorem fl_X6_27 : Cond.fieldLink RX6 27 (cT 6 5).1 (cT 6 5).2.1 (cT 6 5).2.2.1 ∈ tblG := tg1 (List.mem_of_getElem? (i := 176) (by decide +kernel)) rfl
set_option maxRecDepth 100000 in
theorem fl_X6_30 : Cond.fieldLink RX6 30 (cT 6 6).1 (cT 6 6).2.1 (cT 6 6).2.2.1 ∈ tblG := tg1 (List.mem_of_getElem? (i := 177) (by decide +kernel)) rfl
set_option maxRecDepth 100000 in
theorem fl_X6_33 : Cond.fieldLink RX6 33 (cT 6 7).1 (cT 6 7).2.1 (cT 6 7).2.2.1 ∈ tblG := tg1 (List.mem_of_getElem? (i := 178) (by decide +kernel)) rfl
set_option maxRecDepth 100000 in
theorem fl_X6_36 : Cond.fieldLink RX6 36 (cT 6 8).1 (cT 6 8).2.1 (cT 6 8).2.2.1 ∈ tblG := tg1 (List.mem_of_getElem? (i := 179) (by decide +kernel)) rfl
set_option maxRecDepth 100000 in
theorem fl_X6_39 : Cond.fieldLink RX6 39 (cT 6 9).1 (cT 6 9).2.1 (cT 6 9).2.2.1 ∈ tblG := tg1 (List.mem_of_getElem? (i := 180) (by decide +kernel)) rfl
set_option maxRecDepth 100000 in
theorem ob_X3 : Cond.methodLink RX3 3 objectInit ∈ tblG ∧ Cond.instanceMethod objectInit ∈ tblG ∧ Cond.code objectInit ⟨#[0xb1]⟩ 1 none ∈ tblG := ⟨tg1 (List.mem_of_getElem? (i := 27) (by decide +kernel)) rfl, ob_in⟩
set_option maxRecDepth 100000 in
theorem fl_X3_9 : Cond.fieldLink RX3 9 (cT 3 0).1 (cT 3 0).2.1 (cT 3 0).2.2.1 ∈ tblG := tg1 (List.mem_of_getElem? (i := 28) (by decide +kernel)) rfl
set_option maxRecDepth 100000 in
theorem ob_X5 : Cond.methodLink RX5 3 objectInit ∈ tblG ∧ Cond.instanceMethod objectInit ∈ tblG ∧ Cond.code objectInit ⟨#[0xb1]⟩ 1 none ∈ tblG := ⟨tg1 (List.mem_of_getElem? (i := 131) (by decide +kernel)) rfl, ob_in⟩
set_option maxRecDepth 100000 in
theorem fl_X5_9 : Cond.fieldLink RX5 9 (cT 5 0).1 (cT 5 0).2.1 (cT 5 0).2.2.1 ∈ tblG := tg1 (List.mem_of_getElem? (i := 132) (by decide +kernel)) rfl
set_option maxRecDepth 100000 in
theorem fl_X5_15 : Cond.fieldLink RX5 15 (cT 5 1).1 (cT 5 1).2.1 (cT 5 1).2.2.1 ∈ tblG := tg1 (List.mem_of_getElem? (i := 133) (by decide +kernel)) rfl
set_option maxRecDepth 100000 in
theorem fl_X5_18 : Cond.fieldLink RX5 18 (cT 5 2).1 (cT 5 2).2.1 (cT 5 2).2.2.1 ∈ tblG := tg1 (List.mem_of_getElem? (i := 134) (by decide +kernel)) rfl
set_option maxRecDepth 100000 in
theorem fl_X5_21 : Cond.fieldLink RX5 21 (cT 5 3).1 (cT 5 3).2.1 (cT 5 3).2.2.1 ∈ tblG := tg1 (List.mem_of_getElem? (i := 135) (by decide +kernel)) rfl
set_option maxRecDepth 100000 in
theorem fl_X5_24 : Cond.fieldLink RX5 24 (cT 5 4).1 (cT 5 4).2.1 (cT 5 4).2.2.1 ∈ tblG := tg1 (List.mem_of_getElem? (i := 136) (by decide +kernel)) rfl
set_option maxRecDepth 100000 in
theorem ob_X4 : Cond.methodLink RX4 3 objectInit ∈ tblG ∧ Cond.instanceMethod objectInit ∈ tblG ∧ Cond.code objectInit ⟨#[0xb1]⟩ 1 none ∈ tblG := ⟨tg1 (List.mem_of_getElem? (i := 223) (by decide +kernel)) rfl, ob_in⟩
set_option maxRecDepth 100000 in
theorem fl_X4_9 : Cond.fieldLink RX4 9 (cT 4 0).1 (cT 4 0).2.1 (cT 4 0).2.2.1 ∈ tblG := tg1 (List.mem_of_getElem? (i := 224) (by decide +kernel)) rfl
set_option maxRecDepth 100000 in
theorem fl_X4_15 : Cond.fieldLink RX4 15 (cT 4 1).1 (cT 4 1).2.1 (cT 4 1).2.2.1 ∈ tblG := tg1 (List.mem_of_getElem? (i := 225) (by decide +kernel)) rfl
set_option maxRecDepth 100000 in
theorem fl_X4_18 : Cond.fieldLink RX4 18 (cT 4 2).1 (cT 4 2).2.1 (cT 4 2).2.2.1 ∈ tblG := tg1 (List.mem_of_getElem? (i := 226) (by decide +kernel)) rfl
set_option maxRecDepth 100000 in
theorem fl_X4_21 : Cond.fieldLink RX4 21 (cT 4 3).1 (cT 4 3).2.1 (cT 4 3).2.2.1 ∈ tblG := tg1 (List.mem_of_getElem? (i := 227) (by decide +kernel)) rfl
set_option maxRecDepth 100000 in
theorem ob_X2 : Cond.methodLink RX2 1 objectInit ∈ tblG ∧ Cond.instanceMethod objectInit ∈ tblG ∧ Cond.code objectInit ⟨#[0xb1]⟩ 1 none ∈ tblG := ⟨tg1 (List.mem_of_getElem? (i := 110) (by decide +kernel)) rfl, ob_in⟩
set_option maxRecDepth 100000 in
theorem cl_X2_7 : Cond.classLink RX2 7 (cN 0) ∈ tblG := tg1 (List.mem_of_getElem? (i := 111) (by decide +kernel)) rfl
set_option maxRecDepth 100000 in
theorem fl_X2_10 : Cond.fieldLink RX2 10 (cT 2 0).1 (cT 2 0).2.1 (cT 2 0).2.2.1 ∈ tblG := tg1 (List.mem_of_getElem? (i := 113) (by decide +kernel)) rfl
set_option maxRecDepth 100000 in
theorem ob_X1 : Cond.methodLink RX1 3 objectInit ∈ tblG ∧ Cond.instanceMethod objectInit ∈ tblG ∧ Cond.code objectInit ⟨#[0xb1]⟩ 1 none ∈ tblG := ⟨tg1 (List.mem_of_getElem? (i := 89) (by decide +kernel)) rfl, ob_in⟩
set_option maxRecDepth 100000 in
theorem cl_X1_9 : Cond.classLink RX1 9 (cN 0) ∈ tblG := tg1 (List.mem_of_getElem? (i := 90) (by decide +kernel)) rfl
set_option maxRecDepth 100000 in
theorem fl_X1_11 : Cond.fieldLink RX1 11 (cT 1 0).1 (cT 1 0).2.1 (cT 1 0).2.2.1 ∈ tblG := tg1 (List.mem_of_getElem? (i := 93) (by decide +kernel)) rfl
set_option maxRecDepth 100000 in
theorem ob_X7 : Cond.methodLink RX7 1 objectInit ∈ tblG ∧ Cond.instanceMethod objectInit ∈ tblG ∧ Cond.code objectInit ⟨#[0xb1]⟩ 1 none ∈ tblG := ⟨tg1 (List.mem_of_getElem? (i := 19) (by decide +kernel)) rfl, ob_in⟩
set_option maxRecDepth 100000 in
theorem cl_X7_7 : Cond.classLink RX7 7 (cN 3) ∈ tblG := tg1 (List.mem_of_getElem? (i := 22) (by decide +kernel)) rfl
set_option maxRecDepth 100000 in
theorem fl_X7_10 : Cond.fieldLink RX7 10 (cT 7 0).1 (cT 7 0).2.1 (cT 7 0).2.2.1 ∈ tblG := tg1 (List.mem_of_getElem? (i := 246) (by decide +kernel)) rfl
set_option maxRecDepth 100000 in
theorem cl_X7_16 : Cond.classLink RX7 16 (cN 0) ∈ tblG := tg1 (List.mem_of_getElem? (i := 47) (by decide +kernel)) rfl
set_option maxRecDepth 100000 in
theorem fl_X7_19 : Cond.fieldLink RX7 19 (cT 7 1).1 (cT 7 1).2.1 (cT 7 1).2.2.1 ∈ tblG := tg1 (List.mem_of_getElem? (i := 247) (by decide +kernel)) rfl
set_option maxRecDepth 100000 in
theorem cl_X7_23 : Cond.classLink RX7 23 (cN 1) ∈ tblG := tg1 (List.mem_of_getElem? (i := 84) (by decide +kernel)) rfl
set_option maxRecDepth 100000 in
theorem fl_X7_26 : Cond.fieldLink RX7 26 (cT 7 2).1 (cT 7 2).2.1 (cT 7 2).2.2.1 ∈ tblG := tg1 (List.mem_of_getElem? (i := 248) (by decide +kernel)) rfl
set_option maxRecDepth 100000 in
theorem cl_X7_30 : Cond.classLink RX7 30 (cN 2) ∈ tblG := tg1 (List.mem_of_getElem? (i := 104) (by decide +kernel)) rfl
set_option maxRecDepth 100000 in
theorem fl_X7_32 : Cond.fieldLink RX7 32 (cT 7 3).1 (cT 7 3).2.1 (cT 7 3).2.2.1 ∈ tblG := tg1 (List.mem_of_getElem? (i := 249) (by decide +kernel)) rfl
set_option maxRecDepth 100000 in
theorem cl_X7_37 : Cond.classLink RX7 37 (cN 5) ∈ tblG := tg1 (List.mem_of_getElem? (i := 126) (by decide +kernel)) rfl
set_option maxRecDepth 100000 in
theorem fl_X7_40 : Cond.fieldLink RX7 40 (cT 7 5).1 (cT 7 5).2.1 (cT 7 5).2.2.1 ∈ tblG := tg1 (List.mem_of_getElem? (i := 251) (by decide +kernel)) rfl
set_option maxRecDepth 100000 in
theorem cl_X7_44 : Cond.classLink RX7 44 (cN 6) ∈ tblG := tg1 (List.mem_of_getElem? (i := 156) (by decide +kernel)) rfl
set_option maxRecDepth 100000 in
theorem cl_X7_54 : Cond.classLink RX7 54 (cN 4) ∈ tblG := tg1 (List.mem_of_getElem? (i := 218) (by decide +kernel)) rfl
set_option maxRecDepth 100000 in
theorem fl_X7_59 : Cond.fieldLink RX7 59 (cT 7 4).1 (cT 7 4).2.1 (cT 7 4).2.2.1 ∈ tblG := tg1 (List.mem_of_getElem? (i := 250) (by decide +kernel)) rfl
set_option maxRecDepth 100000 in
theorem ob_X8 : Cond.methodLink RX8 1 objectInit ∈ tblG ∧ Cond.instanceMethod objectInit ∈ tblG ∧ Cond.code objectInit ⟨#[0xb1]⟩ 1 none ∈ tblG := ⟨tg1 (List.mem_of_getElem? (i := 837) (by decide +kernel)) rfl, ob_in⟩
set_option maxRecDepth 100000 in
theorem fl_X8_7 : Cond.fieldLink RX8 7 (cT 8 0).1 (cT 8 0).2.1 (cT 8 0).2.2.1 ∈ tblG := tg1 (List.mem_of_getElem? (i := 838) (by decide +kernel)) rfl
set_option maxRecDepth 100000 in
theorem fl_X8_13 : Cond.fieldLink RX8 13 (cT 8 1).1 (cT 8 1).2.1 (cT 8 1).2.2.1 ∈ tblG := tg1 (List.mem_of_getElem? (i := 839) (by decide +kernel)) rfl
set_option maxRecDepth 100000 in
theorem fl_X8_16 : Cond.fieldLink RX8 16 (cT 8 2).1 (cT 8 2).2.1 (cT 8 2).2.2.1 ∈ tblG := tg1 (List.mem_of_getElem? (i := 840) (by decide +kernel)) rfl
set_option maxRecDepth 100000 in
theorem fl_X8_19 : Cond.fieldLink RX8 19 (cT 8 3).1 (cT 8 3).2.1 (cT 8 3).2.2.1 ∈ tblG := tg1 (List.mem_of_getElem? (i := 841) (by decide +kernel)) rfl
set_option maxRecDepth 100000 in
theorem fl_X8_22 : Cond.fieldLink RX8 22 (cT 8 4).1 (cT 8 4).2.1 (cT 8 4).2.2.1 ∈ tblG := tg1 (List.mem_of_getElem? (i := 842) (by decide +kernel)) rfl
set_option maxRecDepth 100000 in
theorem fl_X8_25 : Cond.fieldLink RX8 25 (cT 8 7).1 (cT 8 7).2.1 (cT 8 7).2.2.1 ∈ tblG := tg1 (List.mem_of_getElem? (i := 845) (by decide +kernel)) rfl
set_option maxRecDepth 100000 in
theorem fl_X8_28 : Cond.fieldLink RX8 28 (cT 8 9).1 (cT 8 9).2.1 (cT 8 9).2.2.1 ∈ tblG := tg1 (List.mem_of_getElem? (i := 847) (by decide +kernel)) rfl
set_option maxRecDepth 100000 in
theorem fl_X8_31 : Cond.fieldLink RX8 31 (cT 8 11).1 (cT 8 11).2.1 (cT 8 11).2.2.1 ∈ tblG := tg1 (List.mem_of_getElem? (i := 849) (by decide +kernel)) rfl
set_option maxRecDepth 100000 in
theorem fl_X8_34 : Cond.fieldLink RX8 34 (cT 8 17).1 (cT 8 17).2.1 (cT 8 17).2.2.1 ∈ tblG := tg1 (List.mem_of_getElem? (i := 855) (by decide +kernel)) rfl
set_option maxRecDepth 100000 in
theorem fl_X8_37 : Cond.fieldLink RX8 37 (cT 8 18).1 (cT 8 18).2.1 (cT 8 18).2.2.1 ∈ tblG := tg1 (List.mem_of_getElem? (i := 856) (by decide +kernel)) rfl
set_option maxRecDepth 100000 in
theorem fl_X8_40 : Cond.fieldLink RX8 40 (cT 8 19).1 (cT 8 19).2.1 (cT 8 19).2.2.1 ∈ tblG := tg1 (List.mem_of_getElem? (i := 857) (by decide +kernel)) rfl
set_option maxRecDepth 100000 in
theorem fl_X8_43 : Cond.fieldLink RX8 43 (cT 8 20).1 (cT 8 20).2.1 (cT 8 20).2.2.1 ∈ tblG := tg1 (List.mem_of_getElem? (i := 858) (by decide +kernel)) rfl
set_option maxRecDepth 100000 in
theorem fl_X8_46 : Cond.fieldLink RX8 46 (cT 8 21).1 (cT 8 21).2.1 (cT 8 21).2.2.1 ∈ tblG := tg1 (List.mem_of_getElem? (i := 859) (by decide +kernel)) rfl
set_option maxRecDepth 100000 in
theorem fl_X8_49 : Cond.fieldLink RX8 49 (cT 8 24).1 (cT 8 24).2.1 (cT 8 24).2.2.1 ∈ tblG := tg1 (List.mem_of_getElem? (i := 862) (by decide +kernel)) rfl
set_option maxRecDepth 100000 in
theorem fl_X8_52 : Cond.fieldLink RX8 52 (cT 8 26).1 (cT 8 26).2.1 (cT 8 26).2.2.1 ∈ tblG := tg1 (List.mem_of_getElem? (i := 864) (by decide +kernel)) rfl
set_option maxRecDepth 100000 in
theorem fl_X8_55 : Cond.fieldLink RX8 55 (cT 8 32).1 (cT 8 32).2.1 (cT 8 32).2.2.1 ∈ tblG := tg1 (List.mem_of_getElem? (i := 870) (by decide +kernel)) rfl
set_option maxRecDepth 100000 in
theorem fl_X8_58 : Cond.fieldLink RX8 58 (cT 8 33).1 (cT 8 33).2.1 (cT 8 33).2.2.1 ∈ tblG := tg1 (List.mem_of_getElem? (i := 871) (by decide +kernel)) rfl
set_option maxRecDepth 100000 in
theorem fl_X8_61 : Cond.fieldLink RX8 61 (cT 8 35).1 (cT 8 35).2.1 (cT 8 35).2.2.1 ∈ tblG := tg1 (List.mem_of_getElem? (i := 873) (by decide +kernel)) rfl
set_option maxRecDepth 100000 in
theorem fl_X8_64 : Cond.fieldLink RX8 64 (cT 8 37).1 (cT 8 37).2.1 (cT 8 37).2.2.1 ∈ tblG := tg1 (List.mem_of_getElem? (i := 875) (by decide +kernel)) rfl
set_option maxRecDepth 100000 in
theorem fl_X8_67 : Cond.fieldLink RX8 67 (cT 8 38).1 (cT 8 38).2.1 (cT 8 38).2.2.1 ∈ tblG := tg1 (List.mem_of_getElem? (i := 876) (by decide +kernel)) rfl
set_option maxRecDepth 100000 in
theorem cl_L_7 : Cond.classLink RL 7 (cN 7) ∈ tblG := tg1 (List.mem_of_getElem? (i := 14) (by decide +kernel)) rfl
set_option maxRecDepth 100000 in
theorem cl_L_10 : Cond.classLink RL 10 (cN 8) ∈ tblG := tg1 (List.mem_of_getElem? (i := 832) (by decide +kernel)) rfl
theorem x_meth3 {l : Launch} {G : GT} {y : MethodName} {cc : ByteArray} {nL : Nat} {rt : Option FieldType} {d mc ms : Nat} {av : List Value} {S : Shp} {mr : Rfs} {mi : Mem} {r : Option Value} {S' : Shp} {mr' : Rfs} {mi' : Mem} {own : String} {lv : List (Nat × Value)} (hy : plainName y.cls = true) (hown : y.cls = own) (hlv : lv_args 0 av = lv) (hn : (lg_sl av).length ≤ nL)
    (body : ∀ (p : Program) (e : Env) (s : State) (m : MethodId) (below : List Frame) (meth : Method) (c : Code), Cx G p s m c av.toArray own cc nL → meth.sig.returnType = rt → meth.locks = false → meth.name = y.name → ∀ ls : Array Slot, lv_has ls nL lv → ∀ (H : Heap) (locs : List Loc), RM G S mr mi H locs →
      W p l e (rmD d mc ms) s m av.toArray below meth c H locs 0 0 (MQ below (QX G r S' mr' mi') av.toArray s mc ms (fun q => G.2.2.2.1 ≤ q)) (F0 m 0 ls [])) : MX l G y cc nL rt d mc ms av S mr mi r S' mr' mi' :=
  x_method hy hown hlv hn (fun p e s m below meth c C hr hlk hnm ls hl _ hR => body p e s m below meth c C hr hlk hnm ls hl _ _ hR)
def deskR (mr : Rfs) (a : Nat) : Rfs := sr (sr (sr (sr mr a 0 (some (a + 1))) a 1 (some (a + 2))) a 2 (some (a + 3))) a 3 (some (a + 4))
theorem deskR_ne {mr : Rfs} {a b : Nat} (h : b ≠ a) : deskR mr a b = mr b := by unfold deskR; rw [sr_ne h, sr_ne h, sr_ne h, sr_ne h]
theorem Fz.desk {a n : Nat} {mr : Rfs} {mi : Mem} (h : Fz n mr mi) (ha : a < n) : Fz n (deskR mr a) mi := fun k hk => by rw [deskR_ne (show k ≠ a by omega)]; exact h k hk
def wordsR (mr : Rfs) (a : Nat) : Rfs := sr (sr (sr (sr (sr (sr (sr (sr (sr (sr mr a 0 (some (a + 1))) a 1 (some (a + 2))) a 2 (some (a + 3))) a 3 (some (a + 4))) a 4 (some (a + 5))) a 5 (some (a + 6))) a 6 (some (a + 7))) a 7 (some (a + 8))) a 8 (some (a + 9))) a 9 (some (a + 10))
theorem wordsR_ne {mr : Rfs} {a b : Nat} (h : b ≠ a) : wordsR mr a b = mr b := by unfold wordsR; rw [sr_ne h, sr_ne h, sr_ne h, sr_ne h, sr_ne h, sr_ne h, sr_ne h, sr_ne h, sr_ne h, sr_ne h]
theorem Fz.words {a n : Nat} {mr : Rfs} {mi : Mem} (h : Fz n mr mi) (ha : a < n) : Fz n (wordsR mr a) mi := fun k hk => by rw [wordsR_ne (show k ≠ a by omega)]; exact h k hk
def imR (mr : Rfs) (a : Nat) : Rfs := sr (deskR mr (a + 1)) a 0 (some (a + 1))
theorem imR_ne {mr : Rfs} {a b : Nat} (h : b ≠ a) (h2 : b ≠ a + 1) : imR mr a b = mr b := by unfold imR; rw [sr_ne h, deskR_ne h2]
theorem Fz.im {a n : Nat} {mr : Rfs} {mi : Mem} (h : Fz n mr mi) (ha : a + 1 < n) : Fz n (imR mr a) mi := fun k hk => by rw [imR_ne (show k ≠ a by omega) (show k ≠ a + 1 by omega)]; exact h k hk
def hmr (mr : Rfs) : Nat → Rfs
  | 0 => sr mr 8 0 (some 9)
  | k + 1 => sr (deskR (hmr mr k) (10 + 5 * k)) 9 k (some (10 + 5 * k))
theorem hmr_ring (mr : Rfs) : ∀ k, hmr mr k 8 0 = some 9
  | 0 => by show sr mr 8 0 (some 9) 8 0 = _; rw [sr_eq]; rfl
  | k + 1 => by show sr (deskR (hmr mr k) (10 + 5 * k)) 9 k (some (10 + 5 * k)) 8 0 = _; rw [sr_ne (by decide), deskR_ne (by omega)]; exact hmr_ring mr k
theorem hmr_ne (mr : Rfs) {b : Nat} (h : b < 8) : ∀ k, hmr mr k b = mr b
  | 0 => sr_ne (by omega)
  | k + 1 => by show sr (deskR (hmr mr k) (10 + 5 * k)) 9 k (some (10 + 5 * k)) b = _; rw [sr_ne (by omega), deskR_ne (by omega)]; exact hmr_ne mr h k
theorem Fz.hmr {mr : Rfs} {mi : Mem} (h : Fz 10 mr mi) : ∀ k, Fz (10 + 5 * k) (hmr mr k) mi
  | 0 => Fz.sr h (by decide)
  | k + 1 => ((Fz.hmr h k).up (by omega)).desk (by omega) |>.sr (by omega)
theorem dX0_init_0 : decode cX0_init 0 = .ok (.aload_n 0, 1) := by decide +kernel
theorem dX0_init_1 : decode cX0_init 1 = .ok (.invokespecial 3, 3) := by decide +kernel
theorem dX0_init_4 : decode cX0_init 4 = .ok (.aload_n 0, 1) := by decide +kernel
theorem dX0_init_5 : decode cX0_init 5 = .ok (.bipush 9, 2) := by decide +kernel
theorem dX0_init_7 : decode cX0_init 7 = .ok (.newarray .int, 2) := by decide +kernel
theorem dX0_init_9 : decode cX0_init 9 = .ok (.putfield 9, 3) := by decide +kernel
theorem dX0_init_12 : decode cX0_init 12 = .ok (.aload_n 0, 1) := by decide +kernel
theorem dX0_init_13 : decode cX0_init 13 = .ok (.bipush 9, 2) := by decide +kernel
theorem dX0_init_15 : decode cX0_init 15 = .ok (.newarray .int, 2) := by decide +kernel
theorem dX0_init_17 : decode cX0_init 17 = .ok (.putfield 15, 3) := by decide +kernel
theorem dX0_init_20 : decode cX0_init 20 = .ok (.aload_n 0, 1) := by decide +kernel
theorem dX0_init_21 : decode cX0_init 21 = .ok (.bipush 8, 2) := by decide +kernel
theorem dX0_init_23 : decode cX0_init 23 = .ok (.newarray .int, 2) := by decide +kernel
theorem dX0_init_25 : decode cX0_init 25 = .ok (.putfield 18, 3) := by decide +kernel
theorem dX0_init_28 : decode cX0_init 28 = .ok (.aload_n 0, 1) := by decide +kernel
theorem dX0_init_29 : decode cX0_init 29 = .ok (.bipush 8, 2) := by decide +kernel
theorem dX0_init_31 : decode cX0_init 31 = .ok (.newarray .int, 2) := by decide +kernel
theorem dX0_init_33 : decode cX0_init 33 = .ok (.putfield 21, 3) := by decide +kernel
theorem dX0_init_36 : decode cX0_init 36 = .ok (.aload_n 0, 1) := by decide +kernel
theorem dX0_init_37 : decode cX0_init 37 = .ok (.iconst 0, 1) := by decide +kernel
theorem dX0_init_38 : decode cX0_init 38 = .ok (.putfield 24, 3) := by decide +kernel
theorem dX0_init_41 : decode cX0_init 41 = .ok (.aload_n 0, 1) := by decide +kernel
theorem dX0_init_42 : decode cX0_init 42 = .ok (.iconst 0, 1) := by decide +kernel
theorem dX0_init_43 : decode cX0_init 43 = .ok (.putfield 28, 3) := by decide +kernel
theorem dX0_init_46 : decode cX0_init 46 = .ok (.aload_n 0, 1) := by decide +kernel
theorem dX0_init_47 : decode cX0_init 47 = .ok (.iconst 0, 1) := by decide +kernel
theorem dX0_init_48 : decode cX0_init 48 = .ok (.putfield 31, 3) := by decide +kernel
theorem dX0_init_51 : decode cX0_init 51 = .ok (.return_, 1) := by decide +kernel
set_option maxHeartbeats 4000000 in
set_option maxRecDepth 100000 in
theorem m_X0_init {l : Launch} {G : GT} {a : Nat} {mr : Rfs} {mi : Mem} (ha : isD a) (hz : Fz a mr mi) : MX l G yX0_init cX0_init 1 none 1 4 34 [.ref (G.2.2.2.1 + a)] ((a + 1), kd0, ln0) mr mi none ((a + 5), kd0, ln0) (deskR mr a) mi := by
  refine x_meth3 (own := RX0) (lv := [(0, .ref (G.2.2.2.1 + a))]) (by decide) rfl rfl (Nat.le_of_ble_eq_true rfl) ?_
  intro p e s m below meth c C hr hlk hnm ls hl H locs hR
  have hx := C.1
  have hb := C.2.1
  have hz1 : Fz (a + 1) mr mi := hz.up (by omega)
  refine lv_aload_n hx hb dX0_init_0 rfl (lv_at hl 0 rfl) ?_
  refine x_obj C ob_X0 hl.1 (by decide) (Nat.le_of_ble_eq_true rfl) dX0_init_1 ?_
  refine lv_aload_n hx hb dX0_init_4 rfl (lv_at hl 0 rfl) ?_
  refine lv_bipush (v := 9) hx hb dX0_init_5 (by decide) ?_
  refine x_newa (atype := .int) (t0 := 0) (N := 9) (n := (a + 1)) (n' := (a + 2)) C hR (hz1 (a + 1) (by omega)) ⟨(kD0 ha).2, lD0 ha⟩ (by omega) (Or.inl ⟨rfl, rfl⟩) ac_int ⟨by decide, by decide, by decide⟩ ⟨by decide, by decide⟩ dX0_init_7 (fun H hR => ?_)
  refine x_putF C hR fo_X0_9 rfl hnm rfl fl_X0_9 rfl (show _ < _ ∧ _ from ⟨by omega, (kD ha).2⟩) dX0_init_9 (fun H locs hR => ?_)
  have hz1 := hz1.sr (a := a) (k := 0) (v := some (a + 1)) (by omega)
  refine lv_aload_n hx hb dX0_init_12 rfl (lv_at hl 0 rfl) ?_
  refine lv_bipush (v := 9) hx hb dX0_init_13 (by decide) ?_
  refine x_newa (atype := .int) (t0 := 0) (N := 9) (n := (a + 2)) (n' := (a + 3)) C hR (hz1 (a + 2) (by omega)) ⟨(kD1 ha).2, lD1 ha⟩ (by omega) (Or.inl ⟨rfl, rfl⟩) ac_int ⟨by decide, by decide, by decide⟩ ⟨by decide, by decide⟩ dX0_init_15 (fun H hR => ?_)
  refine x_putF C hR fo_X0_15 rfl hnm rfl fl_X0_15 rfl (show _ < _ ∧ _ from ⟨by omega, (kD ha).2⟩) dX0_init_17 (fun H locs hR => ?_)
  have hz1 := hz1.sr (a := a) (k := 1) (v := some (a + 2)) (by omega)
  refine lv_aload_n hx hb dX0_init_20 rfl (lv_at hl 0 rfl) ?_
  refine lv_bipush (v := 8) hx hb dX0_init_21 (by decide) ?_
  refine x_newa (atype := .int) (t0 := 0) (N := 8) (n := (a + 3)) (n' := (a + 4)) C hR (hz1 (a + 3) (by omega)) ⟨(kD2 ha).2, lD2 ha⟩ (by omega) (Or.inl ⟨rfl, rfl⟩) ac_int ⟨by decide, by decide, by decide⟩ ⟨by decide, by decide⟩ dX0_init_23 (fun H hR => ?_)
  refine x_putF C hR fo_X0_18 rfl hnm rfl fl_X0_18 rfl (show _ < _ ∧ _ from ⟨by omega, (kD ha).2⟩) dX0_init_25 (fun H locs hR => ?_)
  have hz1 := hz1.sr (a := a) (k := 2) (v := some (a + 3)) (by omega)
  refine lv_aload_n hx hb dX0_init_28 rfl (lv_at hl 0 rfl) ?_
  refine lv_bipush (v := 8) hx hb dX0_init_29 (by decide) ?_
  refine x_newa (atype := .int) (t0 := 0) (N := 8) (n := (a + 4)) (n' := (a + 5)) C hR (hz1 (a + 4) (by omega)) ⟨(kD3 ha).2, lD3 ha⟩ (by omega) (Or.inl ⟨rfl, rfl⟩) ac_int ⟨by decide, by decide, by decide⟩ ⟨by decide, by decide⟩ dX0_init_31 (fun H hR => ?_)
  refine x_putF C hR fo_X0_21 rfl hnm rfl fl_X0_21 rfl (show _ < _ ∧ _ from ⟨by omega, (kD ha).2⟩) dX0_init_33 (fun H locs hR => ?_)
  have hz1 := hz1.sr (a := a) (k := 3) (v := some (a + 4)) (by omega)
  refine lv_aload_n hx hb dX0_init_36 rfl (lv_at hl 0 rfl) ?_
  refine lv_iconst (v := 0) hx hb dX0_init_37 (by decide) ?_
  refine x_puti C hR fo_X0_24 rfl rfl (show _ < _ ∧ _ from ⟨by omega, (kD ha).2⟩) dX0_init_38 (fun H locs hR => ?_)
  rw [st_same ((hz a (by omega)).2 4)] at hR
  refine lv_aload_n hx hb dX0_init_41 rfl (lv_at hl 0 rfl) ?_
  refine lv_iconst (v := 0) hx hb dX0_init_42 (by decide) ?_
  refine x_puti C hR fo_X0_28 rfl rfl (show _ < _ ∧ _ from ⟨by omega, (kD ha).2⟩) dX0_init_43 (fun H locs hR => ?_)
  rw [st_same ((hz a (by omega)).2 5)] at hR
  refine lv_aload_n hx hb dX0_init_46 rfl (lv_at hl 0 rfl) ?_
  refine lv_iconst (v := 0) hx hb dX0_init_47 (by decide) ?_
  refine x_puti C hR fo_X0_31 rfl rfl (show _ < _ ∧ _ from ⟨by omega, (kD ha).2⟩) dX0_init_48 (fun H locs hR => ?_)
  rw [st_same ((hz a (by omega)).2 6)] at hR
  exact x_vret C hR hr hlk dX0_init_51
theorem dX6_init_0 : decode cX6_init 0 = .ok (.aload_n 0, 1) := by decide +kernel
theorem dX6_init_1 : decode cX6_init 1 = .ok (.invokespecial 3, 3) := by decide +kernel
theorem dX6_init_4 : decode cX6_init 4 = .ok (.aload_n 0, 1) := by decide +kernel
theorem dX6_init_5 : decode cX6_init 5 = .ok (.bipush 9, 2) := by decide +kernel
theorem dX6_init_7 : decode cX6_init 7 = .ok (.newarray .int, 2) := by decide +kernel
theorem dX6_init_9 : decode cX6_init 9 = .ok (.putfield 9, 3) := by decide +kernel
theorem dX6_init_12 : decode cX6_init 12 = .ok (.aload_n 0, 1) := by decide +kernel
theorem dX6_init_13 : decode cX6_init 13 = .ok (.bipush 9, 2) := by decide +kernel
theorem dX6_init_15 : decode cX6_init 15 = .ok (.newarray .int, 2) := by decide +kernel
theorem dX6_init_17 : decode cX6_init 17 = .ok (.putfield 15, 3) := by decide +kernel
theorem dX6_init_20 : decode cX6_init 20 = .ok (.aload_n 0, 1) := by decide +kernel
theorem dX6_init_21 : decode cX6_init 21 = .ok (.bipush 10, 2) := by decide +kernel
theorem dX6_init_23 : decode cX6_init 23 = .ok (.newarray .int, 2) := by decide +kernel
theorem dX6_init_25 : decode cX6_init 25 = .ok (.putfield 18, 3) := by decide +kernel
theorem dX6_init_28 : decode cX6_init 28 = .ok (.aload_n 0, 1) := by decide +kernel
theorem dX6_init_29 : decode cX6_init 29 = .ok (.bipush 10, 2) := by decide +kernel
theorem dX6_init_31 : decode cX6_init 31 = .ok (.newarray .int, 2) := by decide +kernel
theorem dX6_init_33 : decode cX6_init 33 = .ok (.putfield 21, 3) := by decide +kernel
theorem dX6_init_36 : decode cX6_init 36 = .ok (.aload_n 0, 1) := by decide +kernel
theorem dX6_init_37 : decode cX6_init 37 = .ok (.bipush 10, 2) := by decide +kernel
theorem dX6_init_39 : decode cX6_init 39 = .ok (.newarray .int, 2) := by decide +kernel
theorem dX6_init_41 : decode cX6_init 41 = .ok (.putfield 24, 3) := by decide +kernel
theorem dX6_init_44 : decode cX6_init 44 = .ok (.aload_n 0, 1) := by decide +kernel
theorem dX6_init_45 : decode cX6_init 45 = .ok (.bipush 60, 2) := by decide +kernel
theorem dX6_init_47 : decode cX6_init 47 = .ok (.newarray .int, 2) := by decide +kernel
theorem dX6_init_49 : decode cX6_init 49 = .ok (.putfield 27, 3) := by decide +kernel
theorem dX6_init_52 : decode cX6_init 52 = .ok (.aload_n 0, 1) := by decide +kernel
theorem dX6_init_53 : decode cX6_init 53 = .ok (.bipush 80, 2) := by decide +kernel
theorem dX6_init_55 : decode cX6_init 55 = .ok (.newarray .int, 2) := by decide +kernel
theorem dX6_init_57 : decode cX6_init 57 = .ok (.putfield 30, 3) := by decide +kernel
theorem dX6_init_60 : decode cX6_init 60 = .ok (.aload_n 0, 1) := by decide +kernel
theorem dX6_init_61 : decode cX6_init 61 = .ok (.bipush 100, 2) := by decide +kernel
theorem dX6_init_63 : decode cX6_init 63 = .ok (.newarray .int, 2) := by decide +kernel
theorem dX6_init_65 : decode cX6_init 65 = .ok (.putfield 33, 3) := by decide +kernel
theorem dX6_init_68 : decode cX6_init 68 = .ok (.aload_n 0, 1) := by decide +kernel
theorem dX6_init_69 : decode cX6_init 69 = .ok (.bipush 100, 2) := by decide +kernel
theorem dX6_init_71 : decode cX6_init 71 = .ok (.newarray .int, 2) := by decide +kernel
theorem dX6_init_73 : decode cX6_init 73 = .ok (.putfield 36, 3) := by decide +kernel
theorem dX6_init_76 : decode cX6_init 76 = .ok (.aload_n 0, 1) := by decide +kernel
theorem dX6_init_77 : decode cX6_init 77 = .ok (.bipush 100, 2) := by decide +kernel
theorem dX6_init_79 : decode cX6_init 79 = .ok (.newarray .int, 2) := by decide +kernel
theorem dX6_init_81 : decode cX6_init 81 = .ok (.putfield 39, 3) := by decide +kernel
theorem dX6_init_84 : decode cX6_init 84 = .ok (.aload_n 0, 1) := by decide +kernel
theorem dX6_init_85 : decode cX6_init 85 = .ok (.iconst 0, 1) := by decide +kernel
theorem dX6_init_86 : decode cX6_init 86 = .ok (.putfield 42, 3) := by decide +kernel
theorem dX6_init_89 : decode cX6_init 89 = .ok (.aload_n 0, 1) := by decide +kernel
theorem dX6_init_90 : decode cX6_init 90 = .ok (.iconst 0, 1) := by decide +kernel
theorem dX6_init_91 : decode cX6_init 91 = .ok (.putfield 46, 3) := by decide +kernel
theorem dX6_init_94 : decode cX6_init 94 = .ok (.aload_n 0, 1) := by decide +kernel
theorem dX6_init_95 : decode cX6_init 95 = .ok (.iconst 0, 1) := by decide +kernel
theorem dX6_init_96 : decode cX6_init 96 = .ok (.putfield 49, 3) := by decide +kernel
theorem dX6_init_99 : decode cX6_init 99 = .ok (.return_, 1) := by decide +kernel
set_option maxHeartbeats 4000000 in
set_option maxRecDepth 100000 in
theorem m_X6_init {l : Launch} {G : GT} {a : Nat} {mr : Rfs} {mi : Mem} (ha : isW a) (hz : Fz a mr mi) : MX l G yX6_init cX6_init 1 none 1 10 488 [.ref (G.2.2.2.1 + a)] ((a + 1), kd0, ln0) mr mi none ((a + 11), kd0, ln0) (wordsR mr a) mi := by
  refine x_meth3 (own := RX6) (lv := [(0, .ref (G.2.2.2.1 + a))]) (by decide) rfl rfl (Nat.le_of_ble_eq_true rfl) ?_
  intro p e s m below meth c C hr hlk hnm ls hl H locs hR
  have hx := C.1
  have hb := C.2.1
  have hz1 : Fz (a + 1) mr mi := hz.up (by omega)
  refine lv_aload_n hx hb dX6_init_0 rfl (lv_at hl 0 rfl) ?_
  refine x_obj C ob_X6 hl.1 (by decide) (Nat.le_of_ble_eq_true rfl) dX6_init_1 ?_
  refine lv_aload_n hx hb dX6_init_4 rfl (lv_at hl 0 rfl) ?_
  refine lv_bipush (v := 9) hx hb dX6_init_5 (by decide) ?_
  refine x_newa (atype := .int) (t0 := 0) (N := 9) (n := (a + 1)) (n' := (a + 2)) C hR (hz1 (a + 1) (by omega)) ⟨(kW0 ha).2, lW0 ha⟩ (by omega) (Or.inl ⟨rfl, rfl⟩) ac_int ⟨by decide, by decide, by decide⟩ ⟨by decide, by decide⟩ dX6_init_7 (fun H hR => ?_)
  refine x_putF C hR fo_X6_9 rfl hnm rfl fl_X6_9 rfl (show _ < _ ∧ _ from ⟨by omega, (kW ha).2⟩) dX6_init_9 (fun H locs hR => ?_)
  have hz1 := hz1.sr (a := a) (k := 0) (v := some (a + 1)) (by omega)
  refine lv_aload_n hx hb dX6_init_12 rfl (lv_at hl 0 rfl) ?_
  refine lv_bipush (v := 9) hx hb dX6_init_13 (by decide) ?_
  refine x_newa (atype := .int) (t0 := 0) (N := 9) (n := (a + 2)) (n' := (a + 3)) C hR (hz1 (a + 2) (by omega)) ⟨(kW1 ha).2, lW1 ha⟩ (by omega) (Or.inl ⟨rfl, rfl⟩) ac_int ⟨by decide, by decide, by decide⟩ ⟨by decide, by decide⟩ dX6_init_15 (fun H hR => ?_)
  refine x_putF C hR fo_X6_15 rfl hnm rfl fl_X6_15 rfl (show _ < _ ∧ _ from ⟨by omega, (kW ha).2⟩) dX6_init_17 (fun H locs hR => ?_)
  have hz1 := hz1.sr (a := a) (k := 1) (v := some (a + 2)) (by omega)
  refine lv_aload_n hx hb dX6_init_20 rfl (lv_at hl 0 rfl) ?_
  refine lv_bipush (v := 10) hx hb dX6_init_21 (by decide) ?_
  refine x_newa (atype := .int) (t0 := 0) (N := 10) (n := (a + 3)) (n' := (a + 4)) C hR (hz1 (a + 3) (by omega)) ⟨(kW2 ha).2, lW2 ha⟩ (by omega) (Or.inl ⟨rfl, rfl⟩) ac_int ⟨by decide, by decide, by decide⟩ ⟨by decide, by decide⟩ dX6_init_23 (fun H hR => ?_)
  refine x_putF C hR fo_X6_18 rfl hnm rfl fl_X6_18 rfl (show _ < _ ∧ _ from ⟨by omega, (kW ha).2⟩) dX6_init_25 (fun H locs hR => ?_)
  have hz1 := hz1.sr (a := a) (k := 2) (v := some (a + 3)) (by omega)
  refine lv_aload_n hx hb dX6_init_28 rfl (lv_at hl 0 rfl) ?_
  refine lv_bipush (v := 10) hx hb dX6_init_29 (by decide) ?_
  refine x_newa (atype := .int) (t0 := 0) (N := 10) (n := (a + 4)) (n' := (a + 5)) C hR (hz1 (a + 4) (by omega)) ⟨(kW3 ha).2, lW3 ha⟩ (by omega) (Or.inl ⟨rfl, rfl⟩) ac_int ⟨by decide, by decide, by decide⟩ ⟨by decide, by decide⟩ dX6_init_31 (fun H hR => ?_)
  refine x_putF C hR fo_X6_21 rfl hnm rfl fl_X6_21 rfl (show _ < _ ∧ _ from ⟨by omega, (kW ha).2⟩) dX6_init_33 (fun H locs hR => ?_)
  have hz1 := hz1.sr (a := a) (k := 3) (v := some (a + 4)) (by omega)
  refine lv_aload_n hx hb dX6_init_36 rfl (lv_at hl 0 rfl) ?_
  refine lv_bipush (v := 10) hx hb dX6_init_37 (by decide) ?_
  refine x_newa (atype := .int) (t0 := 0) (N := 10) (n := (a + 5)) (n' := (a + 6)) C hR (hz1 (a + 5) (by omega)) ⟨(kW4 ha).2, lW4 ha⟩ (by omega) (Or.inl ⟨rfl, rfl⟩) ac_int ⟨by decide, by decide, by decide⟩ ⟨by decide, by decide⟩ dX6_init_39 (fun H hR => ?_)
  refine x_putF C hR fo_X6_24 rfl hnm rfl fl_X6_24 rfl (show _ < _ ∧ _ from ⟨by omega, (kW ha).2⟩) dX6_init_41 (fun H locs hR => ?_)
  have hz1 := hz1.sr (a := a) (k := 4) (v := some (a + 5)) (by omega)
  refine lv_aload_n hx hb dX6_init_44 rfl (lv_at hl 0 rfl) ?_
  refine lv_bipush (v := 60) hx hb dX6_init_45 (by decide) ?_
  refine x_newa (atype := .int) (t0 := 0) (N := 60) (n := (a + 6)) (n' := (a + 7)) C hR (hz1 (a + 6) (by omega)) ⟨(kW5 ha).2, lW5 ha⟩ (by omega) (Or.inl ⟨rfl, rfl⟩) ac_int ⟨by decide, by decide, by decide⟩ ⟨by decide, by decide⟩ dX6_init_47 (fun H hR => ?_)
  refine x_putF C hR fo_X6_27 rfl hnm rfl fl_X6_27 rfl (show _ < _ ∧ _ from ⟨by omega, (kW ha).2⟩) dX6_init_49 (fun H locs hR => ?_)
  have hz1 := hz1.sr (a := a) (k := 5) (v := some (a + 6)) (by omega)
  refine lv_aload_n hx hb dX6_init_52 rfl (lv_at hl 0 rfl) ?_
  refine lv_bipush (v := 80) hx hb dX6_init_53 (by decide) ?_
  refine x_newa (atype := .int) (t0 := 0) (N := 80) (n := (a + 7)) (n' := (a + 8)) C hR (hz1 (a + 7) (by omega)) ⟨(kW6 ha).2, lW6 ha⟩ (by omega) (Or.inl ⟨rfl, rfl⟩) ac_int ⟨by decide, by decide, by decide⟩ ⟨by decide, by decide⟩ dX6_init_55 (fun H hR => ?_)
  refine x_putF C hR fo_X6_30 rfl hnm rfl fl_X6_30 rfl (show _ < _ ∧ _ from ⟨by omega, (kW ha).2⟩) dX6_init_57 (fun H locs hR => ?_)
  have hz1 := hz1.sr (a := a) (k := 6) (v := some (a + 7)) (by omega)
  refine lv_aload_n hx hb dX6_init_60 rfl (lv_at hl 0 rfl) ?_
  refine lv_bipush (v := 100) hx hb dX6_init_61 (by decide) ?_
  refine x_newa (atype := .int) (t0 := 0) (N := 100) (n := (a + 8)) (n' := (a + 9)) C hR (hz1 (a + 8) (by omega)) ⟨(kW7 ha).2, lW7 ha⟩ (by omega) (Or.inl ⟨rfl, rfl⟩) ac_int ⟨by decide, by decide, by decide⟩ ⟨by decide, by decide⟩ dX6_init_63 (fun H hR => ?_)
  refine x_putF C hR fo_X6_33 rfl hnm rfl fl_X6_33 rfl (show _ < _ ∧ _ from ⟨by omega, (kW ha).2⟩) dX6_init_65 (fun H locs hR => ?_)
  have hz1 := hz1.sr (a := a) (k := 7) (v := some (a + 8)) (by omega)
  refine lv_aload_n hx hb dX6_init_68 rfl (lv_at hl 0 rfl) ?_
  refine lv_bipush (v := 100) hx hb dX6_init_69 (by decide) ?_
  refine x_newa (atype := .int) (t0 := 0) (N := 100) (n := (a + 9)) (n' := (a + 10)) C hR (hz1 (a + 9) (by omega)) ⟨(kW8 ha).2, lW8 ha⟩ (by omega) (Or.inl ⟨rfl, rfl⟩) ac_int ⟨by decide, by decide, by decide⟩ ⟨by decide, by decide⟩ dX6_init_71 (fun H hR => ?_)
  refine x_putF C hR fo_X6_36 rfl hnm rfl fl_X6_36 rfl (show _ < _ ∧ _ from ⟨by omega, (kW ha).2⟩) dX6_init_73 (fun H locs hR => ?_)
  have hz1 := hz1.sr (a := a) (k := 8) (v := some (a + 9)) (by omega)
  refine lv_aload_n hx hb dX6_init_76 rfl (lv_at hl 0 rfl) ?_
  refine lv_bipush (v := 100) hx hb dX6_init_77 (by decide) ?_
  refine x_newa (atype := .int) (t0 := 0) (N := 100) (n := (a + 10)) (n' := (a + 11)) C hR (hz1 (a + 10) (by omega)) ⟨(kW9 ha).2, lW9 ha⟩ (by omega) (Or.inl ⟨rfl, rfl⟩) ac_int ⟨by decide, by decide, by decide⟩ ⟨by decide, by decide⟩ dX6_init_79 (fun H hR => ?_)
  refine x_putF C hR fo_X6_39 rfl hnm rfl fl_X6_39 rfl (show _ < _ ∧ _ from ⟨by omega, (kW ha).2⟩) dX6_init_81 (fun H locs hR => ?_)
  have hz1 := hz1.sr (a := a) (k := 9) (v := some (a + 10)) (by omega)
  refine lv_aload_n hx hb dX6_init_84 rfl (lv_at hl 0 rfl) ?_
  refine lv_iconst (v := 0) hx hb dX6_init_85 (by decide) ?_
  refine x_putz C hR (by decide) fo_X6_42 rfl rfl (show _ < _ ∧ _ from ⟨by omega, (kW ha).2⟩) dX6_init_86 (fun H locs hR => ?_)
  rw [st_same ((hz a (by omega)).2 10)] at hR
  refine lv_aload_n hx hb dX6_init_89 rfl (lv_at hl 0 rfl) ?_
  refine lv_iconst (v := 0) hx hb dX6_init_90 (by decide) ?_
  refine x_putz C hR (by decide) fo_X6_46 rfl rfl (show _ < _ ∧ _ from ⟨by omega, (kW ha).2⟩) dX6_init_91 (fun H locs hR => ?_)
  rw [st_same ((hz a (by omega)).2 11)] at hR
  refine lv_aload_n hx hb dX6_init_94 rfl (lv_at hl 0 rfl) ?_
  refine lv_iconst (v := 0) hx hb dX6_init_95 (by decide) ?_
  refine x_puti C hR fo_X6_49 rfl rfl (show _ < _ ∧ _ from ⟨by omega, (kW ha).2⟩) dX6_init_96 (fun H locs hR => ?_)
  rw [st_same ((hz a (by omega)).2 12)] at hR
  exact x_vret C hR hr hlk dX6_init_99
theorem dX3_init_0 : decode cX3_init 0 = .ok (.aload_n 0, 1) := by decide +kernel
theorem dX3_init_1 : decode cX3_init 1 = .ok (.invokespecial 3, 3) := by decide +kernel
theorem dX3_init_4 : decode cX3_init 4 = .ok (.aload_n 0, 1) := by decide +kernel
theorem dX3_init_5 : decode cX3_init 5 = .ok (.sipush 240, 3) := by decide +kernel
theorem dX3_init_8 : decode cX3_init 8 = .ok (.newarray .char, 2) := by decide +kernel
theorem dX3_init_10 : decode cX3_init 10 = .ok (.putfield 9, 3) := by decide +kernel
theorem dX3_init_13 : decode cX3_init 13 = .ok (.aload_n 0, 1) := by decide +kernel
theorem dX3_init_14 : decode cX3_init 14 = .ok (.iconst 0, 1) := by decide +kernel
theorem dX3_init_15 : decode cX3_init 15 = .ok (.putfield 15, 3) := by decide +kernel
theorem dX3_init_18 : decode cX3_init 18 = .ok (.aload_n 0, 1) := by decide +kernel
theorem dX3_init_19 : decode cX3_init 19 = .ok (.iconst 0, 1) := by decide +kernel
theorem dX3_init_20 : decode cX3_init 20 = .ok (.putfield 19, 3) := by decide +kernel
theorem dX3_init_23 : decode cX3_init 23 = .ok (.aload_n 0, 1) := by decide +kernel
theorem dX3_init_24 : decode cX3_init 24 = .ok (.iconst 0, 1) := by decide +kernel
theorem dX3_init_25 : decode cX3_init 25 = .ok (.putfield 22, 3) := by decide +kernel
theorem dX3_init_28 : decode cX3_init 28 = .ok (.aload_n 0, 1) := by decide +kernel
theorem dX3_init_29 : decode cX3_init 29 = .ok (.iconst (-1), 1) := by decide +kernel
theorem dX3_init_30 : decode cX3_init 30 = .ok (.putfield 25, 3) := by decide +kernel
theorem dX3_init_33 : decode cX3_init 33 = .ok (.return_, 1) := by decide +kernel
set_option maxHeartbeats 4000000 in
set_option maxRecDepth 100000 in
theorem m_X3_init {l : Launch} {G : GT}  {mr : Rfs} {mi : Mem}  (hz : Fz 1 mr mi) : MX l G yX3_init cX3_init 1 none 1 1 240 [.ref (G.2.2.2.1 + 1)] (2, kd0, ln0) mr mi none (3, kd0, ln0) (sr mr 1 0 (some 2)) (st mi 1 4 (-1)) := by
  refine x_meth3 (own := RX3) (lv := [(0, .ref (G.2.2.2.1 + 1))]) (by decide) rfl rfl (Nat.le_of_ble_eq_true rfl) ?_
  intro p e s m below meth c C hr hlk hnm ls hl H locs hR
  have hx := C.1
  have hb := C.2.1
  have hz1 : Fz 2 mr mi := hz.up (by omega)
  refine lv_aload_n hx hb dX3_init_0 rfl (lv_at hl 0 rfl) ?_
  refine x_obj C ob_X3 hl.1 (by decide) (Nat.le_of_ble_eq_true rfl) dX3_init_1 ?_
  refine lv_aload_n hx hb dX3_init_4 rfl (lv_at hl 0 rfl) ?_
  refine lv_sipush (v := 240) hx hb dX3_init_5 (by decide) ?_
  refine x_newa (atype := .char) (t0 := 0) (N := 240) (n := 2) (n' := 3) C hR (hz1 2 (by omega)) ⟨by decide +kernel, by decide +kernel⟩ (by omega) (Or.inr (Or.inl ⟨rfl, rfl⟩)) ac_char ⟨by decide, by decide, by decide⟩ ⟨by decide, by decide⟩ dX3_init_8 (fun H hR => ?_)
  refine x_putF C hR fo_X3_9 rfl hnm rfl fl_X3_9 rfl (show _ < _ ∧ _ from ⟨by omega, by decide +kernel⟩) dX3_init_10 (fun H locs hR => ?_)
  have hz1 := hz1.sr (a := 1) (k := 0) (v := some 2) (by omega)
  refine lv_aload_n hx hb dX3_init_13 rfl (lv_at hl 0 rfl) ?_
  refine lv_iconst (v := 0) hx hb dX3_init_14 (by decide) ?_
  refine x_puti C hR fo_X3_15 rfl rfl (show _ < _ ∧ _ from ⟨by omega, by decide +kernel⟩) dX3_init_15 (fun H locs hR => ?_)
  rw [st_same ((hz 1 (by omega)).2 1)] at hR
  refine lv_aload_n hx hb dX3_init_18 rfl (lv_at hl 0 rfl) ?_
  refine lv_iconst (v := 0) hx hb dX3_init_19 (by decide) ?_
  refine x_puti C hR fo_X3_19 rfl rfl (show _ < _ ∧ _ from ⟨by omega, by decide +kernel⟩) dX3_init_20 (fun H locs hR => ?_)
  rw [st_same ((hz 1 (by omega)).2 2)] at hR
  refine lv_aload_n hx hb dX3_init_23 rfl (lv_at hl 0 rfl) ?_
  refine lv_iconst (v := 0) hx hb dX3_init_24 (by decide) ?_
  refine x_puti C hR fo_X3_22 rfl rfl (show _ < _ ∧ _ from ⟨by omega, by decide +kernel⟩) dX3_init_25 (fun H locs hR => ?_)
  rw [st_same ((hz 1 (by omega)).2 3)] at hR
  refine lv_aload_n hx hb dX3_init_28 rfl (lv_at hl 0 rfl) ?_
  refine lv_iconst (v := (-1)) hx hb dX3_init_29 (by decide) ?_
  refine x_puti C hR fo_X3_25 rfl rfl (show _ < _ ∧ _ from ⟨by omega, by decide +kernel⟩) dX3_init_30 (fun H locs hR => ?_)
  have hz1 := hz1.st (a := 1) (k := 4) (v := (-1)) (by omega)
  exact x_vret C hR hr hlk dX3_init_33
def talkR (mr : Rfs) : Rfs := (sr (sr (sr (sr (sr mr 173 0 (some 174)) 173 1 (some 175)) 173 2 (some 176)) 173 3 (some 177)) 173 4 (some 178))
theorem talkR_ne {mr : Rfs} {b : Nat} (h : b ≠ 173) : talkR mr b = mr b := by unfold talkR; rw [sr_ne h, sr_ne h, sr_ne h, sr_ne h, sr_ne h]
theorem dX5_init_0 : decode cX5_init 0 = .ok (.aload_n 0, 1) := by decide +kernel
theorem dX5_init_1 : decode cX5_init 1 = .ok (.invokespecial 3, 3) := by decide +kernel
theorem dX5_init_4 : decode cX5_init 4 = .ok (.aload_n 0, 1) := by decide +kernel
theorem dX5_init_5 : decode cX5_init 5 = .ok (.bipush 6, 2) := by decide +kernel
theorem dX5_init_7 : decode cX5_init 7 = .ok (.newarray .int, 2) := by decide +kernel
theorem dX5_init_9 : decode cX5_init 9 = .ok (.putfield 9, 3) := by decide +kernel
theorem dX5_init_12 : decode cX5_init 12 = .ok (.aload_n 0, 1) := by decide +kernel
theorem dX5_init_13 : decode cX5_init 13 = .ok (.bipush 6, 2) := by decide +kernel
theorem dX5_init_15 : decode cX5_init 15 = .ok (.newarray .int, 2) := by decide +kernel
theorem dX5_init_17 : decode cX5_init 17 = .ok (.putfield 15, 3) := by decide +kernel
theorem dX5_init_20 : decode cX5_init 20 = .ok (.aload_n 0, 1) := by decide +kernel
theorem dX5_init_21 : decode cX5_init 21 = .ok (.bipush 6, 2) := by decide +kernel
theorem dX5_init_23 : decode cX5_init 23 = .ok (.newarray .int, 2) := by decide +kernel
theorem dX5_init_25 : decode cX5_init 25 = .ok (.putfield 18, 3) := by decide +kernel
theorem dX5_init_28 : decode cX5_init 28 = .ok (.aload_n 0, 1) := by decide +kernel
theorem dX5_init_29 : decode cX5_init 29 = .ok (.bipush 20, 2) := by decide +kernel
theorem dX5_init_31 : decode cX5_init 31 = .ok (.newarray .int, 2) := by decide +kernel
theorem dX5_init_33 : decode cX5_init 33 = .ok (.putfield 21, 3) := by decide +kernel
theorem dX5_init_36 : decode cX5_init 36 = .ok (.aload_n 0, 1) := by decide +kernel
theorem dX5_init_37 : decode cX5_init 37 = .ok (.bipush 20, 2) := by decide +kernel
theorem dX5_init_39 : decode cX5_init 39 = .ok (.newarray .int, 2) := by decide +kernel
theorem dX5_init_41 : decode cX5_init 41 = .ok (.putfield 24, 3) := by decide +kernel
theorem dX5_init_44 : decode cX5_init 44 = .ok (.aload_n 0, 1) := by decide +kernel
theorem dX5_init_45 : decode cX5_init 45 = .ok (.iconst 0, 1) := by decide +kernel
theorem dX5_init_46 : decode cX5_init 46 = .ok (.putfield 27, 3) := by decide +kernel
theorem dX5_init_49 : decode cX5_init 49 = .ok (.aload_n 0, 1) := by decide +kernel
theorem dX5_init_50 : decode cX5_init 50 = .ok (.iconst 0, 1) := by decide +kernel
theorem dX5_init_51 : decode cX5_init 51 = .ok (.putfield 31, 3) := by decide +kernel
theorem dX5_init_54 : decode cX5_init 54 = .ok (.return_, 1) := by decide +kernel
set_option maxHeartbeats 4000000 in
set_option maxRecDepth 100000 in
theorem m_X5_init {l : Launch} {G : GT}  {mr : Rfs} {mi : Mem}  (hz : Fz 173 mr mi) : MX l G yX5_init cX5_init 1 none 1 5 58 [.ref (G.2.2.2.1 + 173)] (174, kd0, ln0) mr mi none (179, kd0, ln0) (talkR mr) mi := by
  refine x_meth3 (own := RX5) (lv := [(0, .ref (G.2.2.2.1 + 173))]) (by decide) rfl rfl (Nat.le_of_ble_eq_true rfl) ?_
  intro p e s m below meth c C hr hlk hnm ls hl H locs hR
  have hx := C.1
  have hb := C.2.1
  have hz1 : Fz 174 mr mi := hz.up (by omega)
  refine lv_aload_n hx hb dX5_init_0 rfl (lv_at hl 0 rfl) ?_
  refine x_obj C ob_X5 hl.1 (by decide) (Nat.le_of_ble_eq_true rfl) dX5_init_1 ?_
  refine lv_aload_n hx hb dX5_init_4 rfl (lv_at hl 0 rfl) ?_
  refine lv_bipush (v := 6) hx hb dX5_init_5 (by decide) ?_
  refine x_newa (atype := .int) (t0 := 0) (N := 6) (n := 174) (n' := 175) C hR (hz1 174 (by omega)) ⟨by decide +kernel, by decide +kernel⟩ (by omega) (Or.inl ⟨rfl, rfl⟩) ac_int ⟨by decide, by decide, by decide⟩ ⟨by decide, by decide⟩ dX5_init_7 (fun H hR => ?_)
  refine x_putF C hR fo_X5_9 rfl hnm rfl fl_X5_9 rfl (show _ < _ ∧ _ from ⟨by omega, by decide +kernel⟩) dX5_init_9 (fun H locs hR => ?_)
  have hz1 := hz1.sr (a := 173) (k := 0) (v := some 174) (by omega)
  refine lv_aload_n hx hb dX5_init_12 rfl (lv_at hl 0 rfl) ?_
  refine lv_bipush (v := 6) hx hb dX5_init_13 (by decide) ?_
  refine x_newa (atype := .int) (t0 := 0) (N := 6) (n := 175) (n' := 176) C hR (hz1 175 (by omega)) ⟨by decide +kernel, by decide +kernel⟩ (by omega) (Or.inl ⟨rfl, rfl⟩) ac_int ⟨by decide, by decide, by decide⟩ ⟨by decide, by decide⟩ dX5_init_15 (fun H hR => ?_)
  refine x_putF C hR fo_X5_15 rfl hnm rfl fl_X5_15 rfl (show _ < _ ∧ _ from ⟨by omega, by decide +kernel⟩) dX5_init_17 (fun H locs hR => ?_)
  have hz1 := hz1.sr (a := 173) (k := 1) (v := some 175) (by omega)
  refine lv_aload_n hx hb dX5_init_20 rfl (lv_at hl 0 rfl) ?_
  refine lv_bipush (v := 6) hx hb dX5_init_21 (by decide) ?_
  refine x_newa (atype := .int) (t0 := 0) (N := 6) (n := 176) (n' := 177) C hR (hz1 176 (by omega)) ⟨by decide +kernel, by decide +kernel⟩ (by omega) (Or.inl ⟨rfl, rfl⟩) ac_int ⟨by decide, by decide, by decide⟩ ⟨by decide, by decide⟩ dX5_init_23 (fun H hR => ?_)
  refine x_putF C hR fo_X5_18 rfl hnm rfl fl_X5_18 rfl (show _ < _ ∧ _ from ⟨by omega, by decide +kernel⟩) dX5_init_25 (fun H locs hR => ?_)
  have hz1 := hz1.sr (a := 173) (k := 2) (v := some 176) (by omega)
  refine lv_aload_n hx hb dX5_init_28 rfl (lv_at hl 0 rfl) ?_
  refine lv_bipush (v := 20) hx hb dX5_init_29 (by decide) ?_
  refine x_newa (atype := .int) (t0 := 0) (N := 20) (n := 177) (n' := 178) C hR (hz1 177 (by omega)) ⟨by decide +kernel, by decide +kernel⟩ (by omega) (Or.inl ⟨rfl, rfl⟩) ac_int ⟨by decide, by decide, by decide⟩ ⟨by decide, by decide⟩ dX5_init_31 (fun H hR => ?_)
  refine x_putF C hR fo_X5_21 rfl hnm rfl fl_X5_21 rfl (show _ < _ ∧ _ from ⟨by omega, by decide +kernel⟩) dX5_init_33 (fun H locs hR => ?_)
  have hz1 := hz1.sr (a := 173) (k := 3) (v := some 177) (by omega)
  refine lv_aload_n hx hb dX5_init_36 rfl (lv_at hl 0 rfl) ?_
  refine lv_bipush (v := 20) hx hb dX5_init_37 (by decide) ?_
  refine x_newa (atype := .int) (t0 := 0) (N := 20) (n := 178) (n' := 179) C hR (hz1 178 (by omega)) ⟨by decide +kernel, by decide +kernel⟩ (by omega) (Or.inl ⟨rfl, rfl⟩) ac_int ⟨by decide, by decide, by decide⟩ ⟨by decide, by decide⟩ dX5_init_39 (fun H hR => ?_)
  refine x_putF C hR fo_X5_24 rfl hnm rfl fl_X5_24 rfl (show _ < _ ∧ _ from ⟨by omega, by decide +kernel⟩) dX5_init_41 (fun H locs hR => ?_)
  have hz1 := hz1.sr (a := 173) (k := 4) (v := some 178) (by omega)
  refine lv_aload_n hx hb dX5_init_44 rfl (lv_at hl 0 rfl) ?_
  refine lv_iconst (v := 0) hx hb dX5_init_45 (by decide) ?_
  refine x_puti C hR fo_X5_27 rfl rfl (show _ < _ ∧ _ from ⟨by omega, by decide +kernel⟩) dX5_init_46 (fun H locs hR => ?_)
  rw [st_same ((hz 173 (by omega)).2 5)] at hR
  refine lv_aload_n hx hb dX5_init_49 rfl (lv_at hl 0 rfl) ?_
  refine lv_iconst (v := 0) hx hb dX5_init_50 (by decide) ?_
  refine x_puti C hR fo_X5_31 rfl rfl (show _ < _ ∧ _ from ⟨by omega, by decide +kernel⟩) dX5_init_51 (fun H locs hR => ?_)
  rw [st_same ((hz 173 (by omega)).2 6)] at hR
  exact x_vret C hR hr hlk dX5_init_54
def rowsR (mr : Rfs) : Rfs := (sr (sr (sr (sr (sr mr 201 0 (some 202)) 201 1 (some 203)) 201 2 (some 204)) 201 3 (some 205)) 201 6 (some 179))
theorem rowsR_ne {mr : Rfs} {b : Nat} (h : b ≠ 201) : rowsR mr b = mr b := by unfold rowsR; rw [sr_ne h, sr_ne h, sr_ne h, sr_ne h, sr_ne h]
theorem dX4_init_0 : decode cX4_init 0 = .ok (.aload_n 0, 1) := by decide +kernel
theorem dX4_init_1 : decode cX4_init 1 = .ok (.invokespecial 3, 3) := by decide +kernel
theorem dX4_init_4 : decode cX4_init 4 = .ok (.aload_n 0, 1) := by decide +kernel
theorem dX4_init_5 : decode cX4_init 5 = .ok (.bipush 9, 2) := by decide +kernel
theorem dX4_init_7 : decode cX4_init 7 = .ok (.newarray .int, 2) := by decide +kernel
theorem dX4_init_9 : decode cX4_init 9 = .ok (.putfield 9, 3) := by decide +kernel
theorem dX4_init_12 : decode cX4_init 12 = .ok (.aload_n 0, 1) := by decide +kernel
theorem dX4_init_13 : decode cX4_init 13 = .ok (.bipush 9, 2) := by decide +kernel
theorem dX4_init_15 : decode cX4_init 15 = .ok (.newarray .int, 2) := by decide +kernel
theorem dX4_init_17 : decode cX4_init 17 = .ok (.putfield 15, 3) := by decide +kernel
theorem dX4_init_20 : decode cX4_init 20 = .ok (.aload_n 0, 1) := by decide +kernel
theorem dX4_init_21 : decode cX4_init 21 = .ok (.sipush 1728, 3) := by decide +kernel
theorem dX4_init_24 : decode cX4_init 24 = .ok (.newarray .int, 2) := by decide +kernel
theorem dX4_init_26 : decode cX4_init 26 = .ok (.putfield 18, 3) := by decide +kernel
theorem dX4_init_29 : decode cX4_init 29 = .ok (.aload_n 0, 1) := by decide +kernel
theorem dX4_init_30 : decode cX4_init 30 = .ok (.sipush 1728, 3) := by decide +kernel
theorem dX4_init_33 : decode cX4_init 33 = .ok (.newarray .int, 2) := by decide +kernel
theorem dX4_init_35 : decode cX4_init 35 = .ok (.putfield 21, 3) := by decide +kernel
theorem dX4_init_38 : decode cX4_init 38 = .ok (.aload_n 0, 1) := by decide +kernel
theorem dX4_init_39 : decode cX4_init 39 = .ok (.iconst 1, 1) := by decide +kernel
theorem dX4_init_40 : decode cX4_init 40 = .ok (.putfield 24, 3) := by decide +kernel
theorem dX4_init_43 : decode cX4_init 43 = .ok (.aload_n 0, 1) := by decide +kernel
theorem dX4_init_44 : decode cX4_init 44 = .ok (.iconst 0, 1) := by decide +kernel
theorem dX4_init_45 : decode cX4_init 45 = .ok (.putfield 28, 3) := by decide +kernel
theorem dX4_init_48 : decode cX4_init 48 = .ok (.aload_n 0, 1) := by decide +kernel
theorem dX4_init_49 : decode cX4_init 49 = .ok (.aload_n 1, 1) := by decide +kernel
theorem dX4_init_50 : decode cX4_init 50 = .ok (.putfield 32, 3) := by decide +kernel
theorem dX4_init_53 : decode cX4_init 53 = .ok (.return_, 1) := by decide +kernel
set_option maxHeartbeats 4000000 in
set_option maxRecDepth 100000 in
theorem m_X4_init {l : Launch} {G : GT}  {mr : Rfs} {mi : Mem}  (hz : Fz 201 mr mi) : MX l G yX4_init cX4_init 2 none 1 4 3474 [.ref (G.2.2.2.1 + 201), .ref (G.2.2.2.1 + 179)] (202, kd0, ln0) mr mi none (206, kd0, ln0) (rowsR mr) (st mi 201 4 1) := by
  refine x_meth3 (own := RX4) (lv := [(0, .ref (G.2.2.2.1 + 201)), (1, .ref (G.2.2.2.1 + 179))]) (by decide) rfl rfl (Nat.le_of_ble_eq_true rfl) ?_
  intro p e s m below meth c C hr hlk hnm ls hl H locs hR
  have hx := C.1
  have hb := C.2.1
  have hz1 : Fz 202 mr mi := hz.up (by omega)
  refine lv_aload_n hx hb dX4_init_0 rfl (lv_at hl 0 rfl) ?_
  refine x_obj C ob_X4 hl.1 (by decide) (Nat.le_of_ble_eq_true rfl) dX4_init_1 ?_
  refine lv_aload_n hx hb dX4_init_4 rfl (lv_at hl 0 rfl) ?_
  refine lv_bipush (v := 9) hx hb dX4_init_5 (by decide) ?_
  refine x_newa (atype := .int) (t0 := 0) (N := 9) (n := 202) (n' := 203) C hR (hz1 202 (by omega)) ⟨by decide +kernel, by decide +kernel⟩ (by omega) (Or.inl ⟨rfl, rfl⟩) ac_int ⟨by decide, by decide, by decide⟩ ⟨by decide, by decide⟩ dX4_init_7 (fun H hR => ?_)
  refine x_putF C hR fo_X4_9 rfl hnm rfl fl_X4_9 rfl (show _ < _ ∧ _ from ⟨by omega, by decide +kernel⟩) dX4_init_9 (fun H locs hR => ?_)
  have hz1 := hz1.sr (a := 201) (k := 0) (v := some 202) (by omega)
  refine lv_aload_n hx hb dX4_init_12 rfl (lv_at hl 0 rfl) ?_
  refine lv_bipush (v := 9) hx hb dX4_init_13 (by decide) ?_
  refine x_newa (atype := .int) (t0 := 0) (N := 9) (n := 203) (n' := 204) C hR (hz1 203 (by omega)) ⟨by decide +kernel, by decide +kernel⟩ (by omega) (Or.inl ⟨rfl, rfl⟩) ac_int ⟨by decide, by decide, by decide⟩ ⟨by decide, by decide⟩ dX4_init_15 (fun H hR => ?_)
  refine x_putF C hR fo_X4_15 rfl hnm rfl fl_X4_15 rfl (show _ < _ ∧ _ from ⟨by omega, by decide +kernel⟩) dX4_init_17 (fun H locs hR => ?_)
  have hz1 := hz1.sr (a := 201) (k := 1) (v := some 203) (by omega)
  refine lv_aload_n hx hb dX4_init_20 rfl (lv_at hl 0 rfl) ?_
  refine lv_sipush (v := 1728) hx hb dX4_init_21 (by decide) ?_
  refine x_newa (atype := .int) (t0 := 0) (N := 1728) (n := 204) (n' := 205) C hR (hz1 204 (by omega)) ⟨by decide +kernel, by decide +kernel⟩ (by omega) (Or.inl ⟨rfl, rfl⟩) ac_int ⟨by decide, by decide, by decide⟩ ⟨by decide, by decide⟩ dX4_init_24 (fun H hR => ?_)
  refine x_putF C hR fo_X4_18 rfl hnm rfl fl_X4_18 rfl (show _ < _ ∧ _ from ⟨by omega, by decide +kernel⟩) dX4_init_26 (fun H locs hR => ?_)
  have hz1 := hz1.sr (a := 201) (k := 2) (v := some 204) (by omega)
  refine lv_aload_n hx hb dX4_init_29 rfl (lv_at hl 0 rfl) ?_
  refine lv_sipush (v := 1728) hx hb dX4_init_30 (by decide) ?_
  refine x_newa (atype := .int) (t0 := 0) (N := 1728) (n := 205) (n' := 206) C hR (hz1 205 (by omega)) ⟨by decide +kernel, by decide +kernel⟩ (by omega) (Or.inl ⟨rfl, rfl⟩) ac_int ⟨by decide, by decide, by decide⟩ ⟨by decide, by decide⟩ dX4_init_33 (fun H hR => ?_)
  refine x_putF C hR fo_X4_21 rfl hnm rfl fl_X4_21 rfl (show _ < _ ∧ _ from ⟨by omega, by decide +kernel⟩) dX4_init_35 (fun H locs hR => ?_)
  have hz1 := hz1.sr (a := 201) (k := 3) (v := some 205) (by omega)
  refine lv_aload_n hx hb dX4_init_38 rfl (lv_at hl 0 rfl) ?_
  refine lv_iconst (v := 1) hx hb dX4_init_39 (by decide) ?_
  refine x_puti C hR fo_X4_24 rfl rfl (show _ < _ ∧ _ from ⟨by omega, by decide +kernel⟩) dX4_init_40 (fun H locs hR => ?_)
  have hz1 := hz1.st (a := 201) (k := 4) (v := 1) (by omega)
  refine lv_aload_n hx hb dX4_init_43 rfl (lv_at hl 0 rfl) ?_
  refine lv_iconst (v := 0) hx hb dX4_init_44 (by decide) ?_
  refine x_putz C hR (by decide) fo_X4_28 rfl rfl (show _ < _ ∧ _ from ⟨by omega, by decide +kernel⟩) dX4_init_45 (fun H locs hR => ?_)
  rw [st_same (by rw [st_pt, if_neg (by decide)]; exact (hz 201 (by omega)).2 5)] at hR
  refine lv_aload_n hx hb dX4_init_48 rfl (lv_at hl 0 rfl) ?_
  refine lv_aload_n hx hb dX4_init_49 rfl (lv_at hl 1 rfl) ?_
  refine x_putr C hR fo_X4_32 rfl rfl (show _ < _ ∧ _ from ⟨by omega, by decide +kernel⟩) dX4_init_50 (fun H locs hR => ?_)
  have hz1 := hz1.sr (a := 201) (k := 6) (v := some 179) (by omega)
  exact x_vret C hR hr hlk dX4_init_53
theorem dX2_init_0 : decode cX2_init 0 = .ok (.aload_n 0, 1) := by decide +kernel
theorem dX2_init_1 : decode cX2_init 1 = .ok (.invokespecial 1, 3) := by decide +kernel
theorem dX2_init_4 : decode cX2_init 4 = .ok (.aload_n 0, 1) := by decide +kernel
theorem dX2_init_5 : decode cX2_init 5 = .ok (.new 7, 3) := by decide +kernel
theorem dX2_init_8 : decode cX2_init 8 = .ok (.dup, 1) := by decide +kernel
theorem dX2_init_9 : decode cX2_init 9 = .ok (.invokespecial 9, 3) := by decide +kernel
theorem dX2_init_12 : decode cX2_init 12 = .ok (.putfield 10, 3) := by decide +kernel
theorem dX2_init_15 : decode cX2_init 15 = .ok (.aload_n 0, 1) := by decide +kernel
theorem dX2_init_16 : decode cX2_init 16 = .ok (.iconst 0, 1) := by decide +kernel
theorem dX2_init_17 : decode cX2_init 17 = .ok (.putfield 16, 3) := by decide +kernel
theorem dX2_init_20 : decode cX2_init 20 = .ok (.aload_n 0, 1) := by decide +kernel
theorem dX2_init_21 : decode cX2_init 21 = .ok (.iconst 0, 1) := by decide +kernel
theorem dX2_init_22 : decode cX2_init 22 = .ok (.putfield 20, 3) := by decide +kernel
theorem dX2_init_25 : decode cX2_init 25 = .ok (.return_, 1) := by decide +kernel
set_option maxHeartbeats 4000000 in
set_option maxRecDepth 100000 in
theorem m_X2_init {l : Launch} {G : GT} {a : Nat} {mr : Rfs} {mi : Mem} (ha : isI a) (hz : Fz a mr mi) : MX l G yX2_init cX2_init 1 none 2 5 41 [.ref (G.2.2.2.1 + a)] ((a + 1), kd0, ln0) mr mi none ((a + 6), kd0, ln0) (imR mr a) mi := by
  refine x_meth3 (own := RX2) (lv := [(0, .ref (G.2.2.2.1 + a))]) (by decide) rfl rfl (Nat.le_of_ble_eq_true rfl) ?_
  intro p e s m below meth c C hr hlk hnm ls hl H locs hR
  have hx := C.1
  have hb := C.2.1
  have hz1 : Fz (a + 1) mr mi := hz.up (by omega)
  refine lv_aload_n hx hb dX2_init_0 rfl (lv_at hl 0 rfl) ?_
  refine x_obj C ob_X2 hl.1 (by decide) (Nat.le_of_ble_eq_true rfl) dX2_init_1 ?_
  refine lv_aload_n hx hb dX2_init_4 rfl (lv_at hl 0 rfl) ?_
  refine x_new (ci := 0) (n := (a + 1)) (n' := (a + 2)) C hR (by decide) (hz1 (a + 1) (by omega)) (kD (dI ha)).2 (by omega) ⟨cl_X2_7, ni_0⟩ ⟨by decide, by decide⟩ dX2_init_5 (fun H hR => ?_)
  refine lv_dup hx hb dX2_init_8 rfl ?_
  refine x_callI (mc := 4) (ms := 34) (rest := [.ref (G.2.2.2.1 + (a + 1)), .ref (G.2.2.2.1 + a)]) C hR co_X2_9 (m_X0_init (dI ha) (hz1.up (by omega))) rfl rfl (Nat.le_of_ble_eq_true rfl) hl.1 ⟨by decide, by decide⟩ ⟨by decide, by decide⟩ dX2_init_9 (fun H locs hR => ?_)
  have hz1 : Fz (a + 6) (deskR (mr) (a + 1)) (mi) := (hz1.up (by omega)).desk (by omega)
  refine x_putF C hR fo_X2_10 rfl hnm rfl fl_X2_10 rfl (show _ < _ ∧ _ from ⟨by omega, (kI ha).2⟩) dX2_init_12 (fun H locs hR => ?_)
  have hz1 := hz1.sr (a := a) (k := 0) (v := some (a + 1)) (by omega)
  refine lv_aload_n hx hb dX2_init_15 rfl (lv_at hl 0 rfl) ?_
  refine lv_iconst (v := 0) hx hb dX2_init_16 (by decide) ?_
  refine x_puti C hR fo_X2_16 rfl rfl (show _ < _ ∧ _ from ⟨by omega, (kI ha).2⟩) dX2_init_17 (fun H locs hR => ?_)
  rw [st_same ((hz a (by omega)).2 1)] at hR
  refine lv_aload_n hx hb dX2_init_20 rfl (lv_at hl 0 rfl) ?_
  refine lv_iconst (v := 0) hx hb dX2_init_21 (by decide) ?_
  refine x_putz C hR (by decide) fo_X2_20 rfl rfl (show _ < _ ∧ _ from ⟨by omega, (kI ha).2⟩) dX2_init_22 (fun H locs hR => ?_)
  rw [st_same ((hz a (by omega)).2 2)] at hR
  exact x_vret C hR hr hlk dX2_init_25
theorem dX1_init_0 : decode cX1_init 0 = .ok (.aload_n 0, 1) := by decide +kernel
theorem dX1_init_1 : decode cX1_init 1 = .ok (.invokespecial 3, 3) := by decide +kernel
theorem dX1_init_4 : decode cX1_init 4 = .ok (.aload_n 0, 1) := by decide +kernel
theorem dX1_init_5 : decode cX1_init 5 = .ok (.bipush 30, 2) := by decide +kernel
theorem dX1_init_7 : decode cX1_init 7 = .ok (.anewarray 9, 3) := by decide +kernel
theorem dX1_init_10 : decode cX1_init 10 = .ok (.putfield 11, 3) := by decide +kernel
theorem dX1_init_13 : decode cX1_init 13 = .ok (.aload_n 0, 1) := by decide +kernel
theorem dX1_init_14 : decode cX1_init 14 = .ok (.iconst 0, 1) := by decide +kernel
theorem dX1_init_15 : decode cX1_init 15 = .ok (.putfield 17, 3) := by decide +kernel
theorem dX1_init_18 : decode cX1_init 18 = .ok (.aload_n 0, 1) := by decide +kernel
theorem dX1_init_19 : decode cX1_init 19 = .ok (.iconst 0, 1) := by decide +kernel
theorem dX1_init_20 : decode cX1_init 20 = .ok (.putfield 21, 3) := by decide +kernel
theorem dX1_init_23 : decode cX1_init 23 = .ok (.iconst 0, 1) := by decide +kernel
theorem dX1_init_24 : decode cX1_init 24 = .ok (.istore_n 1, 1) := by decide +kernel
theorem dX1_init_25 : decode cX1_init 25 = .ok (.iload_n 1, 1) := by decide +kernel
theorem dX1_init_26 : decode cX1_init 26 = .ok (.bipush 30, 2) := by decide +kernel
theorem dX1_init_28 : decode cX1_init 28 = .ok (.if_icmp .ge 22, 3) := by decide +kernel
theorem dX1_init_31 : decode cX1_init 31 = .ok (.aload_n 0, 1) := by decide +kernel
theorem dX1_init_32 : decode cX1_init 32 = .ok (.getfield 11, 3) := by decide +kernel
theorem dX1_init_35 : decode cX1_init 35 = .ok (.iload_n 1, 1) := by decide +kernel
theorem dX1_init_36 : decode cX1_init 36 = .ok (.new 9, 3) := by decide +kernel
theorem dX1_init_39 : decode cX1_init 39 = .ok (.dup, 1) := by decide +kernel
theorem dX1_init_40 : decode cX1_init 40 = .ok (.invokespecial 24, 3) := by decide +kernel
theorem dX1_init_43 : decode cX1_init 43 = .ok (.aastore, 1) := by decide +kernel
theorem dX1_init_44 : decode cX1_init 44 = .ok (.iinc 1 1, 3) := by decide +kernel
theorem dX1_init_47 : decode cX1_init 47 = .ok (.goto (-22), 3) := by decide +kernel
theorem dX1_init_50 : decode cX1_init 50 = .ok (.return_, 1) := by decide +kernel
set_option maxHeartbeats 4000000 in
set_option maxRecDepth 100000 in
theorem m_X1_init {l : Launch} {G : GT}  {mr : Rfs} {mi : Mem}  (hz : Fz 8 mr mi) : MX l G yX1_init cX1_init 2 none 2 151 1260 [.ref (G.2.2.2.1 + 8)] (9, kd0, ln0) mr mi none (160, kd0, ln0) (hmr mr 30) mi := by
  refine x_meth3 (own := RX1) (lv := [(0, .ref (G.2.2.2.1 + 8))]) (by decide) rfl rfl (Nat.le_of_ble_eq_true rfl) ?_
  intro p e s m below meth c C hr hlk hnm ls hl H locs hR
  have hx := C.1
  have hb := C.2.1
  have hz1 : Fz 9 mr mi := hz.up (by omega)
  refine lv_aload_n hx hb dX1_init_0 rfl (lv_at hl 0 rfl) ?_
  refine x_obj C ob_X1 hl.1 (by decide) (Nat.le_of_ble_eq_true rfl) dX1_init_1 ?_
  refine lv_aload_n hx hb dX1_init_4 rfl (lv_at hl 0 rfl) ?_
  refine lv_bipush (v := 30) hx hb dX1_init_5 (by decide) ?_
  refine x_anew (K := RX0) (t0 := 0) (N := 30) (n := 9) (n' := 10) C hR (hz1 9 (by omega)) ⟨by decide +kernel, by decide +kernel⟩ (by omega) (Or.inl ⟨rfl, rfl⟩) cl_X1_9 (va_AO.use (C.2.2.2.2.2.2 _ ao_0)) ⟨by decide, by decide, by decide⟩ ⟨by decide, by decide⟩ dX1_init_7 (fun H hR => ?_)
  refine x_putF C hR fo_X1_11 rfl hnm rfl fl_X1_11 rfl (show _ < _ ∧ _ from ⟨by omega, by decide +kernel⟩) dX1_init_10 (fun H locs hR => ?_)
  have hz1 := hz1.sr (a := 8) (k := 0) (v := some 9) (by omega)
  have hR : RM G (10, kd0, ln0) (hmr mr 0) (mi) H locs := hR
  have hz1 : Fz 10 (hmr mr 0) (mi) := hz1.up (by omega)
  refine lv_aload_n hx hb dX1_init_13 rfl (lv_at hl 0 rfl) ?_
  refine lv_iconst (v := 0) hx hb dX1_init_14 (by decide) ?_
  refine x_puti C hR fo_X1_17 rfl rfl (show _ < _ ∧ _ from ⟨by omega, by decide +kernel⟩) dX1_init_15 (fun H locs hR => ?_)
  rw [st_same ((hz 8 (by omega)).2 1)] at hR
  refine lv_aload_n hx hb dX1_init_18 rfl (lv_at hl 0 rfl) ?_
  refine lv_iconst (v := 0) hx hb dX1_init_19 (by decide) ?_
  refine x_puti C hR fo_X1_21 rfl rfl (show _ < _ ∧ _ from ⟨by omega, by decide +kernel⟩) dX1_init_20 (fun H locs hR => ?_)
  rw [st_same ((hz 8 (by omega)).2 2)] at hR
  refine lv_iconst (v := 0) hx hb dX1_init_23 (by decide) ?_
  refine lv_istore_n (lv' := [(1, .int 0), (0, .ref (G.2.2.2.1 + 8))]) hx hb dX1_init_24 rfl hl (by decide) rfl (fun ls hl => ?_)
  refine lv_iload_n hx hb dX1_init_25 rfl (lv_at hl 0 rfl) ?_
  refine lv_bipush (v := 30) hx hb dX1_init_26 (by decide) ?_
  refine lv_icmp_ge (tgt := 50) hx hb dX1_init_28 (by decide) (fun c => absurd c (by decide)) (fun _ => ?_)
  refine lv_aload_n hx hb dX1_init_31 rfl (lv_at hl 1 rfl) ?_
  refine x_getr (b := 9) C hR fo_X1_11 rfl (show _ < _ ∧ _ from ⟨by omega, by decide +kernel⟩) (hmr_ring mr 0) dX1_init_32 ?_
  refine lv_iload_n hx hb dX1_init_35 rfl (lv_at hl 0 rfl) ?_
  refine x_new (ci := 0) (n := 10) (n' := 11) C hR (by decide) (hz1 10 (by omega)) (by decide +kernel) (by omega) ⟨cl_X1_9, ni_0⟩ ⟨by decide, by decide⟩ dX1_init_36 (fun H hR => ?_)
  refine lv_dup hx hb dX1_init_39 rfl ?_
  refine x_callI (mc := 4) (ms := 34) (rest := [.ref (G.2.2.2.1 + 10), .int 0, .ref (G.2.2.2.1 + 9)]) C hR co_X1_24 (m_X0_init (show isD 10 by unfold isD; decide) (hz1.up (by omega))) rfl rfl (Nat.le_of_ble_eq_true rfl) hl.1 ⟨by decide, by decide⟩ ⟨by decide, by decide⟩ dX1_init_40 (fun H locs hR => ?_)
  have hz1 : Fz 15 (deskR (hmr mr 0) 10) (mi) := (hz1.up (by omega)).desk (by omega)
  refine x_aast (kd := 12) (ci := 0) (t0 := 0) C hR (Or.inl ⟨rfl, rfl⟩) (show _ < _ ∧ _ from ⟨by omega, by decide +kernel⟩) (show _ < _ ∧ _ from ⟨by omega, by decide +kernel⟩) (show inB 0 (ln0 9) = true by decide +kernel) dX1_init_43 (fun H locs hR => ?_)
  have hR : RM G (15, kd0, ln0) (hmr mr 1) (mi) H locs := hR
  have hz1 : Fz 15 (hmr mr 1) (mi) := (Fz.hmr (hz.up (by omega)) 1)
  refine lv_iinc (v := 1) (lv' := [(1, .int 1), (0, .ref (G.2.2.2.1 + 8))]) hx hb dX1_init_44 hl (k := 0) rfl (by decide) (by decide) rfl (fun ls hl => ?_)
  refine lv_goto (tgt := 25) hx hb dX1_init_47 (by decide) ?_
  refine lv_iload_n hx hb dX1_init_25 rfl (lv_at hl 0 rfl) ?_
  refine lv_bipush (v := 30) hx hb dX1_init_26 (by decide) ?_
  refine lv_icmp_ge (tgt := 50) hx hb dX1_init_28 (by decide) (fun c => absurd c (by decide)) (fun _ => ?_)
  refine lv_aload_n hx hb dX1_init_31 rfl (lv_at hl 1 rfl) ?_
  refine x_getr (b := 9) C hR fo_X1_11 rfl (show _ < _ ∧ _ from ⟨by omega, by decide +kernel⟩) (hmr_ring mr 1) dX1_init_32 ?_
  refine lv_iload_n hx hb dX1_init_35 rfl (lv_at hl 0 rfl) ?_
  refine x_new (ci := 0) (n := 15) (n' := 16) C hR (by decide) (hz1 15 (by omega)) (by decide +kernel) (by omega) ⟨cl_X1_9, ni_0⟩ ⟨by decide, by decide⟩ dX1_init_36 (fun H hR => ?_)
  refine lv_dup hx hb dX1_init_39 rfl ?_
  refine x_callI (mc := 4) (ms := 34) (rest := [.ref (G.2.2.2.1 + 15), .int 1, .ref (G.2.2.2.1 + 9)]) C hR co_X1_24 (m_X0_init (show isD 15 by unfold isD; decide) (hz1.up (by omega))) rfl rfl (Nat.le_of_ble_eq_true rfl) hl.1 ⟨by decide, by decide⟩ ⟨by decide, by decide⟩ dX1_init_40 (fun H locs hR => ?_)
  have hz1 : Fz 20 (deskR (hmr mr 1) 15) (mi) := (hz1.up (by omega)).desk (by omega)
  refine x_aast (kd := 12) (ci := 0) (t0 := 0) C hR (Or.inl ⟨rfl, rfl⟩) (show _ < _ ∧ _ from ⟨by omega, by decide +kernel⟩) (show _ < _ ∧ _ from ⟨by omega, by decide +kernel⟩) (show inB 1 (ln0 9) = true by decide +kernel) dX1_init_43 (fun H locs hR => ?_)
  have hR : RM G (20, kd0, ln0) (hmr mr 2) (mi) H locs := hR
  have hz1 : Fz 20 (hmr mr 2) (mi) := (Fz.hmr (hz.up (by omega)) 2)
  refine lv_iinc (v := 2) (lv' := [(1, .int 2), (0, .ref (G.2.2.2.1 + 8))]) hx hb dX1_init_44 hl (k := 0) rfl (by decide) (by decide) rfl (fun ls hl => ?_)
  refine lv_goto (tgt := 25) hx hb dX1_init_47 (by decide) ?_
  refine lv_iload_n hx hb dX1_init_25 rfl (lv_at hl 0 rfl) ?_
  refine lv_bipush (v := 30) hx hb dX1_init_26 (by decide) ?_
  refine lv_icmp_ge (tgt := 50) hx hb dX1_init_28 (by decide) (fun c => absurd c (by decide)) (fun _ => ?_)
  refine lv_aload_n hx hb dX1_init_31 rfl (lv_at hl 1 rfl) ?_
  refine x_getr (b := 9) C hR fo_X1_11 rfl (show _ < _ ∧ _ from ⟨by omega, by decide +kernel⟩) (hmr_ring mr 2) dX1_init_32 ?_
  refine lv_iload_n hx hb dX1_init_35 rfl (lv_at hl 0 rfl) ?_
  refine x_new (ci := 0) (n := 20) (n' := 21) C hR (by decide) (hz1 20 (by omega)) (by decide +kernel) (by omega) ⟨cl_X1_9, ni_0⟩ ⟨by decide, by decide⟩ dX1_init_36 (fun H hR => ?_)
  refine lv_dup hx hb dX1_init_39 rfl ?_
  refine x_callI (mc := 4) (ms := 34) (rest := [.ref (G.2.2.2.1 + 20), .int 2, .ref (G.2.2.2.1 + 9)]) C hR co_X1_24 (m_X0_init (show isD 20 by unfold isD; decide) (hz1.up (by omega))) rfl rfl (Nat.le_of_ble_eq_true rfl) hl.1 ⟨by decide, by decide⟩ ⟨by decide, by decide⟩ dX1_init_40 (fun H locs hR => ?_)
  have hz1 : Fz 25 (deskR (hmr mr 2) 20) (mi) := (hz1.up (by omega)).desk (by omega)
  refine x_aast (kd := 12) (ci := 0) (t0 := 0) C hR (Or.inl ⟨rfl, rfl⟩) (show _ < _ ∧ _ from ⟨by omega, by decide +kernel⟩) (show _ < _ ∧ _ from ⟨by omega, by decide +kernel⟩) (show inB 2 (ln0 9) = true by decide +kernel) dX1_init_43 (fun H locs hR => ?_)
  have hR : RM G (25, kd0, ln0) (hmr mr 3) (mi) H locs := hR
  have hz1 : Fz 25 (hmr mr 3) (mi) := (Fz.hmr (hz.up (by omega)) 3)
  refine lv_iinc (v := 3) (lv' := [(1, .int 3), (0, .ref (G.2.2.2.1 + 8))]) hx hb dX1_init_44 hl (k := 0) rfl (by decide) (by decide) rfl (fun ls hl => ?_)
  refine lv_goto (tgt := 25) hx hb dX1_init_47 (by decide) ?_
  refine lv_iload_n hx hb dX1_init_25 rfl (lv_at hl 0 rfl) ?_
  refine lv_bipush (v := 30) hx hb dX1_init_26 (by decide) ?_
  refine lv_icmp_ge (tgt := 50) hx hb dX1_init_28 (by decide) (fun c => absurd c (by decide)) (fun _ => ?_)
  refine lv_aload_n hx hb dX1_init_31 rfl (lv_at hl 1 rfl) ?_
  refine x_getr (b := 9) C hR fo_X1_11 rfl (show _ < _ ∧ _ from ⟨by omega, by decide +kernel⟩) (hmr_ring mr 3) dX1_init_32 ?_
  refine lv_iload_n hx hb dX1_init_35 rfl (lv_at hl 0 rfl) ?_
  refine x_new (ci := 0) (n := 25) (n' := 26) C hR (by decide) (hz1 25 (by omega)) (by decide +kernel) (by omega) ⟨cl_X1_9, ni_0⟩ ⟨by decide, by decide⟩ dX1_init_36 (fun H hR => ?_)
  refine lv_dup hx hb dX1_init_39 rfl ?_
  refine x_callI (mc := 4) (ms := 34) (rest := [.ref (G.2.2.2.1 + 25), .int 3, .ref (G.2.2.2.1 + 9)]) C hR co_X1_24 (m_X0_init (show isD 25 by unfold isD; decide) (hz1.up (by omega))) rfl rfl (Nat.le_of_ble_eq_true rfl) hl.1 ⟨by decide, by decide⟩ ⟨by decide, by decide⟩ dX1_init_40 (fun H locs hR => ?_)
  have hz1 : Fz 30 (deskR (hmr mr 3) 25) (mi) := (hz1.up (by omega)).desk (by omega)
  refine x_aast (kd := 12) (ci := 0) (t0 := 0) C hR (Or.inl ⟨rfl, rfl⟩) (show _ < _ ∧ _ from ⟨by omega, by decide +kernel⟩) (show _ < _ ∧ _ from ⟨by omega, by decide +kernel⟩) (show inB 3 (ln0 9) = true by decide +kernel) dX1_init_43 (fun H locs hR => ?_)
  have hR : RM G (30, kd0, ln0) (hmr mr 4) (mi) H locs := hR
  have hz1 : Fz 30 (hmr mr 4) (mi) := (Fz.hmr (hz.up (by omega)) 4)
  refine lv_iinc (v := 4) (lv' := [(1, .int 4), (0, .ref (G.2.2.2.1 + 8))]) hx hb dX1_init_44 hl (k := 0) rfl (by decide) (by decide) rfl (fun ls hl => ?_)
  refine lv_goto (tgt := 25) hx hb dX1_init_47 (by decide) ?_
  refine lv_iload_n hx hb dX1_init_25 rfl (lv_at hl 0 rfl) ?_
  refine lv_bipush (v := 30) hx hb dX1_init_26 (by decide) ?_
  refine lv_icmp_ge (tgt := 50) hx hb dX1_init_28 (by decide) (fun c => absurd c (by decide)) (fun _ => ?_)
  refine lv_aload_n hx hb dX1_init_31 rfl (lv_at hl 1 rfl) ?_
  refine x_getr (b := 9) C hR fo_X1_11 rfl (show _ < _ ∧ _ from ⟨by omega, by decide +kernel⟩) (hmr_ring mr 4) dX1_init_32 ?_
  refine lv_iload_n hx hb dX1_init_35 rfl (lv_at hl 0 rfl) ?_
  refine x_new (ci := 0) (n := 30) (n' := 31) C hR (by decide) (hz1 30 (by omega)) (by decide +kernel) (by omega) ⟨cl_X1_9, ni_0⟩ ⟨by decide, by decide⟩ dX1_init_36 (fun H hR => ?_)
  refine lv_dup hx hb dX1_init_39 rfl ?_
  refine x_callI (mc := 4) (ms := 34) (rest := [.ref (G.2.2.2.1 + 30), .int 4, .ref (G.2.2.2.1 + 9)]) C hR co_X1_24 (m_X0_init (show isD 30 by unfold isD; decide) (hz1.up (by omega))) rfl rfl (Nat.le_of_ble_eq_true rfl) hl.1 ⟨by decide, by decide⟩ ⟨by decide, by decide⟩ dX1_init_40 (fun H locs hR => ?_)
  have hz1 : Fz 35 (deskR (hmr mr 4) 30) (mi) := (hz1.up (by omega)).desk (by omega)
  refine x_aast (kd := 12) (ci := 0) (t0 := 0) C hR (Or.inl ⟨rfl, rfl⟩) (show _ < _ ∧ _ from ⟨by omega, by decide +kernel⟩) (show _ < _ ∧ _ from ⟨by omega, by decide +kernel⟩) (show inB 4 (ln0 9) = true by decide +kernel) dX1_init_43 (fun H locs hR => ?_)
  have hR : RM G (35, kd0, ln0) (hmr mr 5) (mi) H locs := hR
  have hz1 : Fz 35 (hmr mr 5) (mi) := (Fz.hmr (hz.up (by omega)) 5)
  refine lv_iinc (v := 5) (lv' := [(1, .int 5), (0, .ref (G.2.2.2.1 + 8))]) hx hb dX1_init_44 hl (k := 0) rfl (by decide) (by decide) rfl (fun ls hl => ?_)
  refine lv_goto (tgt := 25) hx hb dX1_init_47 (by decide) ?_
  refine lv_iload_n hx hb dX1_init_25 rfl (lv_at hl 0 rfl) ?_
  refine lv_bipush (v := 30) hx hb dX1_init_26 (by decide) ?_
  refine lv_icmp_ge (tgt := 50) hx hb dX1_init_28 (by decide) (fun c => absurd c (by decide)) (fun _ => ?_)
  refine lv_aload_n hx hb dX1_init_31 rfl (lv_at hl 1 rfl) ?_
  refine x_getr (b := 9) C hR fo_X1_11 rfl (show _ < _ ∧ _ from ⟨by omega, by decide +kernel⟩) (hmr_ring mr 5) dX1_init_32 ?_
  refine lv_iload_n hx hb dX1_init_35 rfl (lv_at hl 0 rfl) ?_
  refine x_new (ci := 0) (n := 35) (n' := 36) C hR (by decide) (hz1 35 (by omega)) (by decide +kernel) (by omega) ⟨cl_X1_9, ni_0⟩ ⟨by decide, by decide⟩ dX1_init_36 (fun H hR => ?_)
  refine lv_dup hx hb dX1_init_39 rfl ?_
  refine x_callI (mc := 4) (ms := 34) (rest := [.ref (G.2.2.2.1 + 35), .int 5, .ref (G.2.2.2.1 + 9)]) C hR co_X1_24 (m_X0_init (show isD 35 by unfold isD; decide) (hz1.up (by omega))) rfl rfl (Nat.le_of_ble_eq_true rfl) hl.1 ⟨by decide, by decide⟩ ⟨by decide, by decide⟩ dX1_init_40 (fun H locs hR => ?_)
  have hz1 : Fz 40 (deskR (hmr mr 5) 35) (mi) := (hz1.up (by omega)).desk (by omega)
  refine x_aast (kd := 12) (ci := 0) (t0 := 0) C hR (Or.inl ⟨rfl, rfl⟩) (show _ < _ ∧ _ from ⟨by omega, by decide +kernel⟩) (show _ < _ ∧ _ from ⟨by omega, by decide +kernel⟩) (show inB 5 (ln0 9) = true by decide +kernel) dX1_init_43 (fun H locs hR => ?_)
  have hR : RM G (40, kd0, ln0) (hmr mr 6) (mi) H locs := hR
  have hz1 : Fz 40 (hmr mr 6) (mi) := (Fz.hmr (hz.up (by omega)) 6)
  refine lv_iinc (v := 6) (lv' := [(1, .int 6), (0, .ref (G.2.2.2.1 + 8))]) hx hb dX1_init_44 hl (k := 0) rfl (by decide) (by decide) rfl (fun ls hl => ?_)
  refine lv_goto (tgt := 25) hx hb dX1_init_47 (by decide) ?_
  refine lv_iload_n hx hb dX1_init_25 rfl (lv_at hl 0 rfl) ?_
  refine lv_bipush (v := 30) hx hb dX1_init_26 (by decide) ?_
  refine lv_icmp_ge (tgt := 50) hx hb dX1_init_28 (by decide) (fun c => absurd c (by decide)) (fun _ => ?_)
  refine lv_aload_n hx hb dX1_init_31 rfl (lv_at hl 1 rfl) ?_
  refine x_getr (b := 9) C hR fo_X1_11 rfl (show _ < _ ∧ _ from ⟨by omega, by decide +kernel⟩) (hmr_ring mr 6) dX1_init_32 ?_
  refine lv_iload_n hx hb dX1_init_35 rfl (lv_at hl 0 rfl) ?_
  refine x_new (ci := 0) (n := 40) (n' := 41) C hR (by decide) (hz1 40 (by omega)) (by decide +kernel) (by omega) ⟨cl_X1_9, ni_0⟩ ⟨by decide, by decide⟩ dX1_init_36 (fun H hR => ?_)
  refine lv_dup hx hb dX1_init_39 rfl ?_
  refine x_callI (mc := 4) (ms := 34) (rest := [.ref (G.2.2.2.1 + 40), .int 6, .ref (G.2.2.2.1 + 9)]) C hR co_X1_24 (m_X0_init (show isD 40 by unfold isD; decide) (hz1.up (by omega))) rfl rfl (Nat.le_of_ble_eq_true rfl) hl.1 ⟨by decide, by decide⟩ ⟨by decide, by decide⟩ dX1_init_40 (fun H locs hR => ?_)
  have hz1 : Fz 45 (deskR (hmr mr 6) 40) (mi) := (hz1.up (by omega)).desk (by omega)
  refine x_aast (kd := 12) (ci := 0) (t0 := 0) C hR (Or.inl ⟨rfl, rfl⟩) (show _ < _ ∧ _ from ⟨by omega, by decide +kernel⟩) (show _ < _ ∧ _ from ⟨by omega, by decide +kernel⟩) (show inB 6 (ln0 9) = true by decide +kernel) dX1_init_43 (fun H locs hR => ?_)
  have hR : RM G (45, kd0, ln0) (hmr mr 7) (mi) H locs := hR
  have hz1 : Fz 45 (hmr mr 7) (mi) := (Fz.hmr (hz.up (by omega)) 7)
  refine lv_iinc (v := 7) (lv' := [(1, .int 7), (0, .ref (G.2.2.2.1 + 8))]) hx hb dX1_init_44 hl (k := 0) rfl (by decide) (by decide) rfl (fun ls hl => ?_)
  refine lv_goto (tgt := 25) hx hb dX1_init_47 (by decide) ?_
  refine lv_iload_n hx hb dX1_init_25 rfl (lv_at hl 0 rfl) ?_
  refine lv_bipush (v := 30) hx hb dX1_init_26 (by decide) ?_
  refine lv_icmp_ge (tgt := 50) hx hb dX1_init_28 (by decide) (fun c => absurd c (by decide)) (fun _ => ?_)
  refine lv_aload_n hx hb dX1_init_31 rfl (lv_at hl 1 rfl) ?_
  refine x_getr (b := 9) C hR fo_X1_11 rfl (show _ < _ ∧ _ from ⟨by omega, by decide +kernel⟩) (hmr_ring mr 7) dX1_init_32 ?_
  refine lv_iload_n hx hb dX1_init_35 rfl (lv_at hl 0 rfl) ?_
  refine x_new (ci := 0) (n := 45) (n' := 46) C hR (by decide) (hz1 45 (by omega)) (by decide +kernel) (by omega) ⟨cl_X1_9, ni_0⟩ ⟨by decide, by decide⟩ dX1_init_36 (fun H hR => ?_)
  refine lv_dup hx hb dX1_init_39 rfl ?_
  refine x_callI (mc := 4) (ms := 34) (rest := [.ref (G.2.2.2.1 + 45), .int 7, .ref (G.2.2.2.1 + 9)]) C hR co_X1_24 (m_X0_init (show isD 45 by unfold isD; decide) (hz1.up (by omega))) rfl rfl (Nat.le_of_ble_eq_true rfl) hl.1 ⟨by decide, by decide⟩ ⟨by decide, by decide⟩ dX1_init_40 (fun H locs hR => ?_)
  have hz1 : Fz 50 (deskR (hmr mr 7) 45) (mi) := (hz1.up (by omega)).desk (by omega)
  refine x_aast (kd := 12) (ci := 0) (t0 := 0) C hR (Or.inl ⟨rfl, rfl⟩) (show _ < _ ∧ _ from ⟨by omega, by decide +kernel⟩) (show _ < _ ∧ _ from ⟨by omega, by decide +kernel⟩) (show inB 7 (ln0 9) = true by decide +kernel) dX1_init_43 (fun H locs hR => ?_)
  have hR : RM G (50, kd0, ln0) (hmr mr 8) (mi) H locs := hR
  have hz1 : Fz 50 (hmr mr 8) (mi) := (Fz.hmr (hz.up (by omega)) 8)
  refine lv_iinc (v := 8) (lv' := [(1, .int 8), (0, .ref (G.2.2.2.1 + 8))]) hx hb dX1_init_44 hl (k := 0) rfl (by decide) (by decide) rfl (fun ls hl => ?_)
  refine lv_goto (tgt := 25) hx hb dX1_init_47 (by decide) ?_
  refine lv_iload_n hx hb dX1_init_25 rfl (lv_at hl 0 rfl) ?_
  refine lv_bipush (v := 30) hx hb dX1_init_26 (by decide) ?_
  refine lv_icmp_ge (tgt := 50) hx hb dX1_init_28 (by decide) (fun c => absurd c (by decide)) (fun _ => ?_)
  refine lv_aload_n hx hb dX1_init_31 rfl (lv_at hl 1 rfl) ?_
  refine x_getr (b := 9) C hR fo_X1_11 rfl (show _ < _ ∧ _ from ⟨by omega, by decide +kernel⟩) (hmr_ring mr 8) dX1_init_32 ?_
  refine lv_iload_n hx hb dX1_init_35 rfl (lv_at hl 0 rfl) ?_
  refine x_new (ci := 0) (n := 50) (n' := 51) C hR (by decide) (hz1 50 (by omega)) (by decide +kernel) (by omega) ⟨cl_X1_9, ni_0⟩ ⟨by decide, by decide⟩ dX1_init_36 (fun H hR => ?_)
  refine lv_dup hx hb dX1_init_39 rfl ?_
  refine x_callI (mc := 4) (ms := 34) (rest := [.ref (G.2.2.2.1 + 50), .int 8, .ref (G.2.2.2.1 + 9)]) C hR co_X1_24 (m_X0_init (show isD 50 by unfold isD; decide) (hz1.up (by omega))) rfl rfl (Nat.le_of_ble_eq_true rfl) hl.1 ⟨by decide, by decide⟩ ⟨by decide, by decide⟩ dX1_init_40 (fun H locs hR => ?_)
  have hz1 : Fz 55 (deskR (hmr mr 8) 50) (mi) := (hz1.up (by omega)).desk (by omega)
  refine x_aast (kd := 12) (ci := 0) (t0 := 0) C hR (Or.inl ⟨rfl, rfl⟩) (show _ < _ ∧ _ from ⟨by omega, by decide +kernel⟩) (show _ < _ ∧ _ from ⟨by omega, by decide +kernel⟩) (show inB 8 (ln0 9) = true by decide +kernel) dX1_init_43 (fun H locs hR => ?_)
  have hR : RM G (55, kd0, ln0) (hmr mr 9) (mi) H locs := hR
  have hz1 : Fz 55 (hmr mr 9) (mi) := (Fz.hmr (hz.up (by omega)) 9)
  refine lv_iinc (v := 9) (lv' := [(1, .int 9), (0, .ref (G.2.2.2.1 + 8))]) hx hb dX1_init_44 hl (k := 0) rfl (by decide) (by decide) rfl (fun ls hl => ?_)
  refine lv_goto (tgt := 25) hx hb dX1_init_47 (by decide) ?_
  refine lv_iload_n hx hb dX1_init_25 rfl (lv_at hl 0 rfl) ?_
  refine lv_bipush (v := 30) hx hb dX1_init_26 (by decide) ?_
  refine lv_icmp_ge (tgt := 50) hx hb dX1_init_28 (by decide) (fun c => absurd c (by decide)) (fun _ => ?_)
  refine lv_aload_n hx hb dX1_init_31 rfl (lv_at hl 1 rfl) ?_
  refine x_getr (b := 9) C hR fo_X1_11 rfl (show _ < _ ∧ _ from ⟨by omega, by decide +kernel⟩) (hmr_ring mr 9) dX1_init_32 ?_
  refine lv_iload_n hx hb dX1_init_35 rfl (lv_at hl 0 rfl) ?_
  refine x_new (ci := 0) (n := 55) (n' := 56) C hR (by decide) (hz1 55 (by omega)) (by decide +kernel) (by omega) ⟨cl_X1_9, ni_0⟩ ⟨by decide, by decide⟩ dX1_init_36 (fun H hR => ?_)
  refine lv_dup hx hb dX1_init_39 rfl ?_
  refine x_callI (mc := 4) (ms := 34) (rest := [.ref (G.2.2.2.1 + 55), .int 9, .ref (G.2.2.2.1 + 9)]) C hR co_X1_24 (m_X0_init (show isD 55 by unfold isD; decide) (hz1.up (by omega))) rfl rfl (Nat.le_of_ble_eq_true rfl) hl.1 ⟨by decide, by decide⟩ ⟨by decide, by decide⟩ dX1_init_40 (fun H locs hR => ?_)
  have hz1 : Fz 60 (deskR (hmr mr 9) 55) (mi) := (hz1.up (by omega)).desk (by omega)
  refine x_aast (kd := 12) (ci := 0) (t0 := 0) C hR (Or.inl ⟨rfl, rfl⟩) (show _ < _ ∧ _ from ⟨by omega, by decide +kernel⟩) (show _ < _ ∧ _ from ⟨by omega, by decide +kernel⟩) (show inB 9 (ln0 9) = true by decide +kernel) dX1_init_43 (fun H locs hR => ?_)
  have hR : RM G (60, kd0, ln0) (hmr mr 10) (mi) H locs := hR
  have hz1 : Fz 60 (hmr mr 10) (mi) := (Fz.hmr (hz.up (by omega)) 10)
  refine lv_iinc (v := 10) (lv' := [(1, .int 10), (0, .ref (G.2.2.2.1 + 8))]) hx hb dX1_init_44 hl (k := 0) rfl (by decide) (by decide) rfl (fun ls hl => ?_)
  refine lv_goto (tgt := 25) hx hb dX1_init_47 (by decide) ?_
  refine lv_iload_n hx hb dX1_init_25 rfl (lv_at hl 0 rfl) ?_
  refine lv_bipush (v := 30) hx hb dX1_init_26 (by decide) ?_
  refine lv_icmp_ge (tgt := 50) hx hb dX1_init_28 (by decide) (fun c => absurd c (by decide)) (fun _ => ?_)
  refine lv_aload_n hx hb dX1_init_31 rfl (lv_at hl 1 rfl) ?_
  refine x_getr (b := 9) C hR fo_X1_11 rfl (show _ < _ ∧ _ from ⟨by omega, by decide +kernel⟩) (hmr_ring mr 10) dX1_init_32 ?_
  refine lv_iload_n hx hb dX1_init_35 rfl (lv_at hl 0 rfl) ?_
  refine x_new (ci := 0) (n := 60) (n' := 61) C hR (by decide) (hz1 60 (by omega)) (by decide +kernel) (by omega) ⟨cl_X1_9, ni_0⟩ ⟨by decide, by decide⟩ dX1_init_36 (fun H hR => ?_)
  refine lv_dup hx hb dX1_init_39 rfl ?_
  refine x_callI (mc := 4) (ms := 34) (rest := [.ref (G.2.2.2.1 + 60), .int 10, .ref (G.2.2.2.1 + 9)]) C hR co_X1_24 (m_X0_init (show isD 60 by unfold isD; decide) (hz1.up (by omega))) rfl rfl (Nat.le_of_ble_eq_true rfl) hl.1 ⟨by decide, by decide⟩ ⟨by decide, by decide⟩ dX1_init_40 (fun H locs hR => ?_)
  have hz1 : Fz 65 (deskR (hmr mr 10) 60) (mi) := (hz1.up (by omega)).desk (by omega)
  refine x_aast (kd := 12) (ci := 0) (t0 := 0) C hR (Or.inl ⟨rfl, rfl⟩) (show _ < _ ∧ _ from ⟨by omega, by decide +kernel⟩) (show _ < _ ∧ _ from ⟨by omega, by decide +kernel⟩) (show inB 10 (ln0 9) = true by decide +kernel) dX1_init_43 (fun H locs hR => ?_)
  have hR : RM G (65, kd0, ln0) (hmr mr 11) (mi) H locs := hR
  have hz1 : Fz 65 (hmr mr 11) (mi) := (Fz.hmr (hz.up (by omega)) 11)
  refine lv_iinc (v := 11) (lv' := [(1, .int 11), (0, .ref (G.2.2.2.1 + 8))]) hx hb dX1_init_44 hl (k := 0) rfl (by decide) (by decide) rfl (fun ls hl => ?_)
  refine lv_goto (tgt := 25) hx hb dX1_init_47 (by decide) ?_
  refine lv_iload_n hx hb dX1_init_25 rfl (lv_at hl 0 rfl) ?_
  refine lv_bipush (v := 30) hx hb dX1_init_26 (by decide) ?_
  refine lv_icmp_ge (tgt := 50) hx hb dX1_init_28 (by decide) (fun c => absurd c (by decide)) (fun _ => ?_)
  refine lv_aload_n hx hb dX1_init_31 rfl (lv_at hl 1 rfl) ?_
  refine x_getr (b := 9) C hR fo_X1_11 rfl (show _ < _ ∧ _ from ⟨by omega, by decide +kernel⟩) (hmr_ring mr 11) dX1_init_32 ?_
  refine lv_iload_n hx hb dX1_init_35 rfl (lv_at hl 0 rfl) ?_
  refine x_new (ci := 0) (n := 65) (n' := 66) C hR (by decide) (hz1 65 (by omega)) (by decide +kernel) (by omega) ⟨cl_X1_9, ni_0⟩ ⟨by decide, by decide⟩ dX1_init_36 (fun H hR => ?_)
  refine lv_dup hx hb dX1_init_39 rfl ?_
  refine x_callI (mc := 4) (ms := 34) (rest := [.ref (G.2.2.2.1 + 65), .int 11, .ref (G.2.2.2.1 + 9)]) C hR co_X1_24 (m_X0_init (show isD 65 by unfold isD; decide) (hz1.up (by omega))) rfl rfl (Nat.le_of_ble_eq_true rfl) hl.1 ⟨by decide, by decide⟩ ⟨by decide, by decide⟩ dX1_init_40 (fun H locs hR => ?_)
  have hz1 : Fz 70 (deskR (hmr mr 11) 65) (mi) := (hz1.up (by omega)).desk (by omega)
  refine x_aast (kd := 12) (ci := 0) (t0 := 0) C hR (Or.inl ⟨rfl, rfl⟩) (show _ < _ ∧ _ from ⟨by omega, by decide +kernel⟩) (show _ < _ ∧ _ from ⟨by omega, by decide +kernel⟩) (show inB 11 (ln0 9) = true by decide +kernel) dX1_init_43 (fun H locs hR => ?_)
  have hR : RM G (70, kd0, ln0) (hmr mr 12) (mi) H locs := hR
  have hz1 : Fz 70 (hmr mr 12) (mi) := (Fz.hmr (hz.up (by omega)) 12)
  refine lv_iinc (v := 12) (lv' := [(1, .int 12), (0, .ref (G.2.2.2.1 + 8))]) hx hb dX1_init_44 hl (k := 0) rfl (by decide) (by decide) rfl (fun ls hl => ?_)
  refine lv_goto (tgt := 25) hx hb dX1_init_47 (by decide) ?_
  refine lv_iload_n hx hb dX1_init_25 rfl (lv_at hl 0 rfl) ?_
  refine lv_bipush (v := 30) hx hb dX1_init_26 (by decide) ?_
  refine lv_icmp_ge (tgt := 50) hx hb dX1_init_28 (by decide) (fun c => absurd c (by decide)) (fun _ => ?_)
  refine lv_aload_n hx hb dX1_init_31 rfl (lv_at hl 1 rfl) ?_
  refine x_getr (b := 9) C hR fo_X1_11 rfl (show _ < _ ∧ _ from ⟨by omega, by decide +kernel⟩) (hmr_ring mr 12) dX1_init_32 ?_
  refine lv_iload_n hx hb dX1_init_35 rfl (lv_at hl 0 rfl) ?_
  refine x_new (ci := 0) (n := 70) (n' := 71) C hR (by decide) (hz1 70 (by omega)) (by decide +kernel) (by omega) ⟨cl_X1_9, ni_0⟩ ⟨by decide, by decide⟩ dX1_init_36 (fun H hR => ?_)
  refine lv_dup hx hb dX1_init_39 rfl ?_
  refine x_callI (mc := 4) (ms := 34) (rest := [.ref (G.2.2.2.1 + 70), .int 12, .ref (G.2.2.2.1 + 9)]) C hR co_X1_24 (m_X0_init (show isD 70 by unfold isD; decide) (hz1.up (by omega))) rfl rfl (Nat.le_of_ble_eq_true rfl) hl.1 ⟨by decide, by decide⟩ ⟨by decide, by decide⟩ dX1_init_40 (fun H locs hR => ?_)
  have hz1 : Fz 75 (deskR (hmr mr 12) 70) (mi) := (hz1.up (by omega)).desk (by omega)
  refine x_aast (kd := 12) (ci := 0) (t0 := 0) C hR (Or.inl ⟨rfl, rfl⟩) (show _ < _ ∧ _ from ⟨by omega, by decide +kernel⟩) (show _ < _ ∧ _ from ⟨by omega, by decide +kernel⟩) (show inB 12 (ln0 9) = true by decide +kernel) dX1_init_43 (fun H locs hR => ?_)
  have hR : RM G (75, kd0, ln0) (hmr mr 13) (mi) H locs := hR
  have hz1 : Fz 75 (hmr mr 13) (mi) := (Fz.hmr (hz.up (by omega)) 13)
  refine lv_iinc (v := 13) (lv' := [(1, .int 13), (0, .ref (G.2.2.2.1 + 8))]) hx hb dX1_init_44 hl (k := 0) rfl (by decide) (by decide) rfl (fun ls hl => ?_)
  refine lv_goto (tgt := 25) hx hb dX1_init_47 (by decide) ?_
  refine lv_iload_n hx hb dX1_init_25 rfl (lv_at hl 0 rfl) ?_
  refine lv_bipush (v := 30) hx hb dX1_init_26 (by decide) ?_
  refine lv_icmp_ge (tgt := 50) hx hb dX1_init_28 (by decide) (fun c => absurd c (by decide)) (fun _ => ?_)
  refine lv_aload_n hx hb dX1_init_31 rfl (lv_at hl 1 rfl) ?_
  refine x_getr (b := 9) C hR fo_X1_11 rfl (show _ < _ ∧ _ from ⟨by omega, by decide +kernel⟩) (hmr_ring mr 13) dX1_init_32 ?_
  refine lv_iload_n hx hb dX1_init_35 rfl (lv_at hl 0 rfl) ?_
  refine x_new (ci := 0) (n := 75) (n' := 76) C hR (by decide) (hz1 75 (by omega)) (by decide +kernel) (by omega) ⟨cl_X1_9, ni_0⟩ ⟨by decide, by decide⟩ dX1_init_36 (fun H hR => ?_)
  refine lv_dup hx hb dX1_init_39 rfl ?_
  refine x_callI (mc := 4) (ms := 34) (rest := [.ref (G.2.2.2.1 + 75), .int 13, .ref (G.2.2.2.1 + 9)]) C hR co_X1_24 (m_X0_init (show isD 75 by unfold isD; decide) (hz1.up (by omega))) rfl rfl (Nat.le_of_ble_eq_true rfl) hl.1 ⟨by decide, by decide⟩ ⟨by decide, by decide⟩ dX1_init_40 (fun H locs hR => ?_)
  have hz1 : Fz 80 (deskR (hmr mr 13) 75) (mi) := (hz1.up (by omega)).desk (by omega)
  refine x_aast (kd := 12) (ci := 0) (t0 := 0) C hR (Or.inl ⟨rfl, rfl⟩) (show _ < _ ∧ _ from ⟨by omega, by decide +kernel⟩) (show _ < _ ∧ _ from ⟨by omega, by decide +kernel⟩) (show inB 13 (ln0 9) = true by decide +kernel) dX1_init_43 (fun H locs hR => ?_)
  have hR : RM G (80, kd0, ln0) (hmr mr 14) (mi) H locs := hR
  have hz1 : Fz 80 (hmr mr 14) (mi) := (Fz.hmr (hz.up (by omega)) 14)
  refine lv_iinc (v := 14) (lv' := [(1, .int 14), (0, .ref (G.2.2.2.1 + 8))]) hx hb dX1_init_44 hl (k := 0) rfl (by decide) (by decide) rfl (fun ls hl => ?_)
  refine lv_goto (tgt := 25) hx hb dX1_init_47 (by decide) ?_
  refine lv_iload_n hx hb dX1_init_25 rfl (lv_at hl 0 rfl) ?_
  refine lv_bipush (v := 30) hx hb dX1_init_26 (by decide) ?_
  refine lv_icmp_ge (tgt := 50) hx hb dX1_init_28 (by decide) (fun c => absurd c (by decide)) (fun _ => ?_)
  refine lv_aload_n hx hb dX1_init_31 rfl (lv_at hl 1 rfl) ?_
  refine x_getr (b := 9) C hR fo_X1_11 rfl (show _ < _ ∧ _ from ⟨by omega, by decide +kernel⟩) (hmr_ring mr 14) dX1_init_32 ?_
  refine lv_iload_n hx hb dX1_init_35 rfl (lv_at hl 0 rfl) ?_
  refine x_new (ci := 0) (n := 80) (n' := 81) C hR (by decide) (hz1 80 (by omega)) (by decide +kernel) (by omega) ⟨cl_X1_9, ni_0⟩ ⟨by decide, by decide⟩ dX1_init_36 (fun H hR => ?_)
  refine lv_dup hx hb dX1_init_39 rfl ?_
  refine x_callI (mc := 4) (ms := 34) (rest := [.ref (G.2.2.2.1 + 80), .int 14, .ref (G.2.2.2.1 + 9)]) C hR co_X1_24 (m_X0_init (show isD 80 by unfold isD; decide) (hz1.up (by omega))) rfl rfl (Nat.le_of_ble_eq_true rfl) hl.1 ⟨by decide, by decide⟩ ⟨by decide, by decide⟩ dX1_init_40 (fun H locs hR => ?_)
  have hz1 : Fz 85 (deskR (hmr mr 14) 80) (mi) := (hz1.up (by omega)).desk (by omega)
  refine x_aast (kd := 12) (ci := 0) (t0 := 0) C hR (Or.inl ⟨rfl, rfl⟩) (show _ < _ ∧ _ from ⟨by omega, by decide +kernel⟩) (show _ < _ ∧ _ from ⟨by omega, by decide +kernel⟩) (show inB 14 (ln0 9) = true by decide +kernel) dX1_init_43 (fun H locs hR => ?_)
  have hR : RM G (85, kd0, ln0) (hmr mr 15) (mi) H locs := hR
  have hz1 : Fz 85 (hmr mr 15) (mi) := (Fz.hmr (hz.up (by omega)) 15)
  refine lv_iinc (v := 15) (lv' := [(1, .int 15), (0, .ref (G.2.2.2.1 + 8))]) hx hb dX1_init_44 hl (k := 0) rfl (by decide) (by decide) rfl (fun ls hl => ?_)
  refine lv_goto (tgt := 25) hx hb dX1_init_47 (by decide) ?_
  refine lv_iload_n hx hb dX1_init_25 rfl (lv_at hl 0 rfl) ?_
  refine lv_bipush (v := 30) hx hb dX1_init_26 (by decide) ?_
  refine lv_icmp_ge (tgt := 50) hx hb dX1_init_28 (by decide) (fun c => absurd c (by decide)) (fun _ => ?_)
  refine lv_aload_n hx hb dX1_init_31 rfl (lv_at hl 1 rfl) ?_
  refine x_getr (b := 9) C hR fo_X1_11 rfl (show _ < _ ∧ _ from ⟨by omega, by decide +kernel⟩) (hmr_ring mr 15) dX1_init_32 ?_
  refine lv_iload_n hx hb dX1_init_35 rfl (lv_at hl 0 rfl) ?_
  refine x_new (ci := 0) (n := 85) (n' := 86) C hR (by decide) (hz1 85 (by omega)) (by decide +kernel) (by omega) ⟨cl_X1_9, ni_0⟩ ⟨by decide, by decide⟩ dX1_init_36 (fun H hR => ?_)
  refine lv_dup hx hb dX1_init_39 rfl ?_
  refine x_callI (mc := 4) (ms := 34) (rest := [.ref (G.2.2.2.1 + 85), .int 15, .ref (G.2.2.2.1 + 9)]) C hR co_X1_24 (m_X0_init (show isD 85 by unfold isD; decide) (hz1.up (by omega))) rfl rfl (Nat.le_of_ble_eq_true rfl) hl.1 ⟨by decide, by decide⟩ ⟨by decide, by decide⟩ dX1_init_40 (fun H locs hR => ?_)
  have hz1 : Fz 90 (deskR (hmr mr 15) 85) (mi) := (hz1.up (by omega)).desk (by omega)
  refine x_aast (kd := 12) (ci := 0) (t0 := 0) C hR (Or.inl ⟨rfl, rfl⟩) (show _ < _ ∧ _ from ⟨by omega, by decide +kernel⟩) (show _ < _ ∧ _ from ⟨by omega, by decide +kernel⟩) (show inB 15 (ln0 9) = true by decide +kernel) dX1_init_43 (fun H locs hR => ?_)
  have hR : RM G (90, kd0, ln0) (hmr mr 16) (mi) H locs := hR
  have hz1 : Fz 90 (hmr mr 16) (mi) := (Fz.hmr (hz.up (by omega)) 16)
  refine lv_iinc (v := 16) (lv' := [(1, .int 16), (0, .ref (G.2.2.2.1 + 8))]) hx hb dX1_init_44 hl (k := 0) rfl (by decide) (by decide) rfl (fun ls hl => ?_)
  refine lv_goto (tgt := 25) hx hb dX1_init_47 (by decide) ?_
  refine lv_iload_n hx hb dX1_init_25 rfl (lv_at hl 0 rfl) ?_
  refine lv_bipush (v := 30) hx hb dX1_init_26 (by decide) ?_
  refine lv_icmp_ge (tgt := 50) hx hb dX1_init_28 (by decide) (fun c => absurd c (by decide)) (fun _ => ?_)
  refine lv_aload_n hx hb dX1_init_31 rfl (lv_at hl 1 rfl) ?_
  refine x_getr (b := 9) C hR fo_X1_11 rfl (show _ < _ ∧ _ from ⟨by omega, by decide +kernel⟩) (hmr_ring mr 16) dX1_init_32 ?_
  refine lv_iload_n hx hb dX1_init_35 rfl (lv_at hl 0 rfl) ?_
  refine x_new (ci := 0) (n := 90) (n' := 91) C hR (by decide) (hz1 90 (by omega)) (by decide +kernel) (by omega) ⟨cl_X1_9, ni_0⟩ ⟨by decide, by decide⟩ dX1_init_36 (fun H hR => ?_)
  refine lv_dup hx hb dX1_init_39 rfl ?_
  refine x_callI (mc := 4) (ms := 34) (rest := [.ref (G.2.2.2.1 + 90), .int 16, .ref (G.2.2.2.1 + 9)]) C hR co_X1_24 (m_X0_init (show isD 90 by unfold isD; decide) (hz1.up (by omega))) rfl rfl (Nat.le_of_ble_eq_true rfl) hl.1 ⟨by decide, by decide⟩ ⟨by decide, by decide⟩ dX1_init_40 (fun H locs hR => ?_)
  have hz1 : Fz 95 (deskR (hmr mr 16) 90) (mi) := (hz1.up (by omega)).desk (by omega)
  refine x_aast (kd := 12) (ci := 0) (t0 := 0) C hR (Or.inl ⟨rfl, rfl⟩) (show _ < _ ∧ _ from ⟨by omega, by decide +kernel⟩) (show _ < _ ∧ _ from ⟨by omega, by decide +kernel⟩) (show inB 16 (ln0 9) = true by decide +kernel) dX1_init_43 (fun H locs hR => ?_)
  have hR : RM G (95, kd0, ln0) (hmr mr 17) (mi) H locs := hR
  have hz1 : Fz 95 (hmr mr 17) (mi) := (Fz.hmr (hz.up (by omega)) 17)
  refine lv_iinc (v := 17) (lv' := [(1, .int 17), (0, .ref (G.2.2.2.1 + 8))]) hx hb dX1_init_44 hl (k := 0) rfl (by decide) (by decide) rfl (fun ls hl => ?_)
  refine lv_goto (tgt := 25) hx hb dX1_init_47 (by decide) ?_
  refine lv_iload_n hx hb dX1_init_25 rfl (lv_at hl 0 rfl) ?_
  refine lv_bipush (v := 30) hx hb dX1_init_26 (by decide) ?_
  refine lv_icmp_ge (tgt := 50) hx hb dX1_init_28 (by decide) (fun c => absurd c (by decide)) (fun _ => ?_)
  refine lv_aload_n hx hb dX1_init_31 rfl (lv_at hl 1 rfl) ?_
  refine x_getr (b := 9) C hR fo_X1_11 rfl (show _ < _ ∧ _ from ⟨by omega, by decide +kernel⟩) (hmr_ring mr 17) dX1_init_32 ?_
  refine lv_iload_n hx hb dX1_init_35 rfl (lv_at hl 0 rfl) ?_
  refine x_new (ci := 0) (n := 95) (n' := 96) C hR (by decide) (hz1 95 (by omega)) (by decide +kernel) (by omega) ⟨cl_X1_9, ni_0⟩ ⟨by decide, by decide⟩ dX1_init_36 (fun H hR => ?_)
  refine lv_dup hx hb dX1_init_39 rfl ?_
  refine x_callI (mc := 4) (ms := 34) (rest := [.ref (G.2.2.2.1 + 95), .int 17, .ref (G.2.2.2.1 + 9)]) C hR co_X1_24 (m_X0_init (show isD 95 by unfold isD; decide) (hz1.up (by omega))) rfl rfl (Nat.le_of_ble_eq_true rfl) hl.1 ⟨by decide, by decide⟩ ⟨by decide, by decide⟩ dX1_init_40 (fun H locs hR => ?_)
  have hz1 : Fz 100 (deskR (hmr mr 17) 95) (mi) := (hz1.up (by omega)).desk (by omega)
  refine x_aast (kd := 12) (ci := 0) (t0 := 0) C hR (Or.inl ⟨rfl, rfl⟩) (show _ < _ ∧ _ from ⟨by omega, by decide +kernel⟩) (show _ < _ ∧ _ from ⟨by omega, by decide +kernel⟩) (show inB 17 (ln0 9) = true by decide +kernel) dX1_init_43 (fun H locs hR => ?_)
  have hR : RM G (100, kd0, ln0) (hmr mr 18) (mi) H locs := hR
  have hz1 : Fz 100 (hmr mr 18) (mi) := (Fz.hmr (hz.up (by omega)) 18)
  refine lv_iinc (v := 18) (lv' := [(1, .int 18), (0, .ref (G.2.2.2.1 + 8))]) hx hb dX1_init_44 hl (k := 0) rfl (by decide) (by decide) rfl (fun ls hl => ?_)
  refine lv_goto (tgt := 25) hx hb dX1_init_47 (by decide) ?_
  refine lv_iload_n hx hb dX1_init_25 rfl (lv_at hl 0 rfl) ?_
  refine lv_bipush (v := 30) hx hb dX1_init_26 (by decide) ?_
  refine lv_icmp_ge (tgt := 50) hx hb dX1_init_28 (by decide) (fun c => absurd c (by decide)) (fun _ => ?_)
  refine lv_aload_n hx hb dX1_init_31 rfl (lv_at hl 1 rfl) ?_
  refine x_getr (b := 9) C hR fo_X1_11 rfl (show _ < _ ∧ _ from ⟨by omega, by decide +kernel⟩) (hmr_ring mr 18) dX1_init_32 ?_
  refine lv_iload_n hx hb dX1_init_35 rfl (lv_at hl 0 rfl) ?_
  refine x_new (ci := 0) (n := 100) (n' := 101) C hR (by decide) (hz1 100 (by omega)) (by decide +kernel) (by omega) ⟨cl_X1_9, ni_0⟩ ⟨by decide, by decide⟩ dX1_init_36 (fun H hR => ?_)
  refine lv_dup hx hb dX1_init_39 rfl ?_
  refine x_callI (mc := 4) (ms := 34) (rest := [.ref (G.2.2.2.1 + 100), .int 18, .ref (G.2.2.2.1 + 9)]) C hR co_X1_24 (m_X0_init (show isD 100 by unfold isD; decide) (hz1.up (by omega))) rfl rfl (Nat.le_of_ble_eq_true rfl) hl.1 ⟨by decide, by decide⟩ ⟨by decide, by decide⟩ dX1_init_40 (fun H locs hR => ?_)
  have hz1 : Fz 105 (deskR (hmr mr 18) 100) (mi) := (hz1.up (by omega)).desk (by omega)
  refine x_aast (kd := 12) (ci := 0) (t0 := 0) C hR (Or.inl ⟨rfl, rfl⟩) (show _ < _ ∧ _ from ⟨by omega, by decide +kernel⟩) (show _ < _ ∧ _ from ⟨by omega, by decide +kernel⟩) (show inB 18 (ln0 9) = true by decide +kernel) dX1_init_43 (fun H locs hR => ?_)
  have hR : RM G (105, kd0, ln0) (hmr mr 19) (mi) H locs := hR
  have hz1 : Fz 105 (hmr mr 19) (mi) := (Fz.hmr (hz.up (by omega)) 19)
  refine lv_iinc (v := 19) (lv' := [(1, .int 19), (0, .ref (G.2.2.2.1 + 8))]) hx hb dX1_init_44 hl (k := 0) rfl (by decide) (by decide) rfl (fun ls hl => ?_)
  refine lv_goto (tgt := 25) hx hb dX1_init_47 (by decide) ?_
  refine lv_iload_n hx hb dX1_init_25 rfl (lv_at hl 0 rfl) ?_
  refine lv_bipush (v := 30) hx hb dX1_init_26 (by decide) ?_
  refine lv_icmp_ge (tgt := 50) hx hb dX1_init_28 (by decide) (fun c => absurd c (by decide)) (fun _ => ?_)
  refine lv_aload_n hx hb dX1_init_31 rfl (lv_at hl 1 rfl) ?_
  refine x_getr (b := 9) C hR fo_X1_11 rfl (show _ < _ ∧ _ from ⟨by omega, by decide +kernel⟩) (hmr_ring mr 19) dX1_init_32 ?_
  refine lv_iload_n hx hb dX1_init_35 rfl (lv_at hl 0 rfl) ?_
  refine x_new (ci := 0) (n := 105) (n' := 106) C hR (by decide) (hz1 105 (by omega)) (by decide +kernel) (by omega) ⟨cl_X1_9, ni_0⟩ ⟨by decide, by decide⟩ dX1_init_36 (fun H hR => ?_)
  refine lv_dup hx hb dX1_init_39 rfl ?_
  refine x_callI (mc := 4) (ms := 34) (rest := [.ref (G.2.2.2.1 + 105), .int 19, .ref (G.2.2.2.1 + 9)]) C hR co_X1_24 (m_X0_init (show isD 105 by unfold isD; decide) (hz1.up (by omega))) rfl rfl (Nat.le_of_ble_eq_true rfl) hl.1 ⟨by decide, by decide⟩ ⟨by decide, by decide⟩ dX1_init_40 (fun H locs hR => ?_)
  have hz1 : Fz 110 (deskR (hmr mr 19) 105) (mi) := (hz1.up (by omega)).desk (by omega)
  refine x_aast (kd := 12) (ci := 0) (t0 := 0) C hR (Or.inl ⟨rfl, rfl⟩) (show _ < _ ∧ _ from ⟨by omega, by decide +kernel⟩) (show _ < _ ∧ _ from ⟨by omega, by decide +kernel⟩) (show inB 19 (ln0 9) = true by decide +kernel) dX1_init_43 (fun H locs hR => ?_)
  have hR : RM G (110, kd0, ln0) (hmr mr 20) (mi) H locs := hR
  have hz1 : Fz 110 (hmr mr 20) (mi) := (Fz.hmr (hz.up (by omega)) 20)
  refine lv_iinc (v := 20) (lv' := [(1, .int 20), (0, .ref (G.2.2.2.1 + 8))]) hx hb dX1_init_44 hl (k := 0) rfl (by decide) (by decide) rfl (fun ls hl => ?_)
  refine lv_goto (tgt := 25) hx hb dX1_init_47 (by decide) ?_
  refine lv_iload_n hx hb dX1_init_25 rfl (lv_at hl 0 rfl) ?_
  refine lv_bipush (v := 30) hx hb dX1_init_26 (by decide) ?_
  refine lv_icmp_ge (tgt := 50) hx hb dX1_init_28 (by decide) (fun c => absurd c (by decide)) (fun _ => ?_)
  refine lv_aload_n hx hb dX1_init_31 rfl (lv_at hl 1 rfl) ?_
  refine x_getr (b := 9) C hR fo_X1_11 rfl (show _ < _ ∧ _ from ⟨by omega, by decide +kernel⟩) (hmr_ring mr 20) dX1_init_32 ?_
  refine lv_iload_n hx hb dX1_init_35 rfl (lv_at hl 0 rfl) ?_
  refine x_new (ci := 0) (n := 110) (n' := 111) C hR (by decide) (hz1 110 (by omega)) (by decide +kernel) (by omega) ⟨cl_X1_9, ni_0⟩ ⟨by decide, by decide⟩ dX1_init_36 (fun H hR => ?_)
  refine lv_dup hx hb dX1_init_39 rfl ?_
  refine x_callI (mc := 4) (ms := 34) (rest := [.ref (G.2.2.2.1 + 110), .int 20, .ref (G.2.2.2.1 + 9)]) C hR co_X1_24 (m_X0_init (show isD 110 by unfold isD; decide) (hz1.up (by omega))) rfl rfl (Nat.le_of_ble_eq_true rfl) hl.1 ⟨by decide, by decide⟩ ⟨by decide, by decide⟩ dX1_init_40 (fun H locs hR => ?_)
  have hz1 : Fz 115 (deskR (hmr mr 20) 110) (mi) := (hz1.up (by omega)).desk (by omega)
  refine x_aast (kd := 12) (ci := 0) (t0 := 0) C hR (Or.inl ⟨rfl, rfl⟩) (show _ < _ ∧ _ from ⟨by omega, by decide +kernel⟩) (show _ < _ ∧ _ from ⟨by omega, by decide +kernel⟩) (show inB 20 (ln0 9) = true by decide +kernel) dX1_init_43 (fun H locs hR => ?_)
  have hR : RM G (115, kd0, ln0) (hmr mr 21) (mi) H locs := hR
  have hz1 : Fz 115 (hmr mr 21) (mi) := (Fz.hmr (hz.up (by omega)) 21)
  refine lv_iinc (v := 21) (lv' := [(1, .int 21), (0, .ref (G.2.2.2.1 + 8))]) hx hb dX1_init_44 hl (k := 0) rfl (by decide) (by decide) rfl (fun ls hl => ?_)
  refine lv_goto (tgt := 25) hx hb dX1_init_47 (by decide) ?_
  refine lv_iload_n hx hb dX1_init_25 rfl (lv_at hl 0 rfl) ?_
  refine lv_bipush (v := 30) hx hb dX1_init_26 (by decide) ?_
  refine lv_icmp_ge (tgt := 50) hx hb dX1_init_28 (by decide) (fun c => absurd c (by decide)) (fun _ => ?_)
  refine lv_aload_n hx hb dX1_init_31 rfl (lv_at hl 1 rfl) ?_
  refine x_getr (b := 9) C hR fo_X1_11 rfl (show _ < _ ∧ _ from ⟨by omega, by decide +kernel⟩) (hmr_ring mr 21) dX1_init_32 ?_
  refine lv_iload_n hx hb dX1_init_35 rfl (lv_at hl 0 rfl) ?_
  refine x_new (ci := 0) (n := 115) (n' := 116) C hR (by decide) (hz1 115 (by omega)) (by decide +kernel) (by omega) ⟨cl_X1_9, ni_0⟩ ⟨by decide, by decide⟩ dX1_init_36 (fun H hR => ?_)
  refine lv_dup hx hb dX1_init_39 rfl ?_
  refine x_callI (mc := 4) (ms := 34) (rest := [.ref (G.2.2.2.1 + 115), .int 21, .ref (G.2.2.2.1 + 9)]) C hR co_X1_24 (m_X0_init (show isD 115 by unfold isD; decide) (hz1.up (by omega))) rfl rfl (Nat.le_of_ble_eq_true rfl) hl.1 ⟨by decide, by decide⟩ ⟨by decide, by decide⟩ dX1_init_40 (fun H locs hR => ?_)
  have hz1 : Fz 120 (deskR (hmr mr 21) 115) (mi) := (hz1.up (by omega)).desk (by omega)
  refine x_aast (kd := 12) (ci := 0) (t0 := 0) C hR (Or.inl ⟨rfl, rfl⟩) (show _ < _ ∧ _ from ⟨by omega, by decide +kernel⟩) (show _ < _ ∧ _ from ⟨by omega, by decide +kernel⟩) (show inB 21 (ln0 9) = true by decide +kernel) dX1_init_43 (fun H locs hR => ?_)
  have hR : RM G (120, kd0, ln0) (hmr mr 22) (mi) H locs := hR
  have hz1 : Fz 120 (hmr mr 22) (mi) := (Fz.hmr (hz.up (by omega)) 22)
  refine lv_iinc (v := 22) (lv' := [(1, .int 22), (0, .ref (G.2.2.2.1 + 8))]) hx hb dX1_init_44 hl (k := 0) rfl (by decide) (by decide) rfl (fun ls hl => ?_)
  refine lv_goto (tgt := 25) hx hb dX1_init_47 (by decide) ?_
  refine lv_iload_n hx hb dX1_init_25 rfl (lv_at hl 0 rfl) ?_
  refine lv_bipush (v := 30) hx hb dX1_init_26 (by decide) ?_
  refine lv_icmp_ge (tgt := 50) hx hb dX1_init_28 (by decide) (fun c => absurd c (by decide)) (fun _ => ?_)
  refine lv_aload_n hx hb dX1_init_31 rfl (lv_at hl 1 rfl) ?_
  refine x_getr (b := 9) C hR fo_X1_11 rfl (show _ < _ ∧ _ from ⟨by omega, by decide +kernel⟩) (hmr_ring mr 22) dX1_init_32 ?_
  refine lv_iload_n hx hb dX1_init_35 rfl (lv_at hl 0 rfl) ?_
  refine x_new (ci := 0) (n := 120) (n' := 121) C hR (by decide) (hz1 120 (by omega)) (by decide +kernel) (by omega) ⟨cl_X1_9, ni_0⟩ ⟨by decide, by decide⟩ dX1_init_36 (fun H hR => ?_)
  refine lv_dup hx hb dX1_init_39 rfl ?_
  refine x_callI (mc := 4) (ms := 34) (rest := [.ref (G.2.2.2.1 + 120), .int 22, .ref (G.2.2.2.1 + 9)]) C hR co_X1_24 (m_X0_init (show isD 120 by unfold isD; decide) (hz1.up (by omega))) rfl rfl (Nat.le_of_ble_eq_true rfl) hl.1 ⟨by decide, by decide⟩ ⟨by decide, by decide⟩ dX1_init_40 (fun H locs hR => ?_)
  have hz1 : Fz 125 (deskR (hmr mr 22) 120) (mi) := (hz1.up (by omega)).desk (by omega)
  refine x_aast (kd := 12) (ci := 0) (t0 := 0) C hR (Or.inl ⟨rfl, rfl⟩) (show _ < _ ∧ _ from ⟨by omega, by decide +kernel⟩) (show _ < _ ∧ _ from ⟨by omega, by decide +kernel⟩) (show inB 22 (ln0 9) = true by decide +kernel) dX1_init_43 (fun H locs hR => ?_)
  have hR : RM G (125, kd0, ln0) (hmr mr 23) (mi) H locs := hR
  have hz1 : Fz 125 (hmr mr 23) (mi) := (Fz.hmr (hz.up (by omega)) 23)
  refine lv_iinc (v := 23) (lv' := [(1, .int 23), (0, .ref (G.2.2.2.1 + 8))]) hx hb dX1_init_44 hl (k := 0) rfl (by decide) (by decide) rfl (fun ls hl => ?_)
  refine lv_goto (tgt := 25) hx hb dX1_init_47 (by decide) ?_
  refine lv_iload_n hx hb dX1_init_25 rfl (lv_at hl 0 rfl) ?_
  refine lv_bipush (v := 30) hx hb dX1_init_26 (by decide) ?_
  refine lv_icmp_ge (tgt := 50) hx hb dX1_init_28 (by decide) (fun c => absurd c (by decide)) (fun _ => ?_)
  refine lv_aload_n hx hb dX1_init_31 rfl (lv_at hl 1 rfl) ?_
  refine x_getr (b := 9) C hR fo_X1_11 rfl (show _ < _ ∧ _ from ⟨by omega, by decide +kernel⟩) (hmr_ring mr 23) dX1_init_32 ?_
  refine lv_iload_n hx hb dX1_init_35 rfl (lv_at hl 0 rfl) ?_
  refine x_new (ci := 0) (n := 125) (n' := 126) C hR (by decide) (hz1 125 (by omega)) (by decide +kernel) (by omega) ⟨cl_X1_9, ni_0⟩ ⟨by decide, by decide⟩ dX1_init_36 (fun H hR => ?_)
  refine lv_dup hx hb dX1_init_39 rfl ?_
  refine x_callI (mc := 4) (ms := 34) (rest := [.ref (G.2.2.2.1 + 125), .int 23, .ref (G.2.2.2.1 + 9)]) C hR co_X1_24 (m_X0_init (show isD 125 by unfold isD; decide) (hz1.up (by omega))) rfl rfl (Nat.le_of_ble_eq_true rfl) hl.1 ⟨by decide, by decide⟩ ⟨by decide, by decide⟩ dX1_init_40 (fun H locs hR => ?_)
  have hz1 : Fz 130 (deskR (hmr mr 23) 125) (mi) := (hz1.up (by omega)).desk (by omega)
  refine x_aast (kd := 12) (ci := 0) (t0 := 0) C hR (Or.inl ⟨rfl, rfl⟩) (show _ < _ ∧ _ from ⟨by omega, by decide +kernel⟩) (show _ < _ ∧ _ from ⟨by omega, by decide +kernel⟩) (show inB 23 (ln0 9) = true by decide +kernel) dX1_init_43 (fun H locs hR => ?_)
  have hR : RM G (130, kd0, ln0) (hmr mr 24) (mi) H locs := hR
  have hz1 : Fz 130 (hmr mr 24) (mi) := (Fz.hmr (hz.up (by omega)) 24)
  refine lv_iinc (v := 24) (lv' := [(1, .int 24), (0, .ref (G.2.2.2.1 + 8))]) hx hb dX1_init_44 hl (k := 0) rfl (by decide) (by decide) rfl (fun ls hl => ?_)
  refine lv_goto (tgt := 25) hx hb dX1_init_47 (by decide) ?_
  refine lv_iload_n hx hb dX1_init_25 rfl (lv_at hl 0 rfl) ?_
  refine lv_bipush (v := 30) hx hb dX1_init_26 (by decide) ?_
  refine lv_icmp_ge (tgt := 50) hx hb dX1_init_28 (by decide) (fun c => absurd c (by decide)) (fun _ => ?_)
  refine lv_aload_n hx hb dX1_init_31 rfl (lv_at hl 1 rfl) ?_
  refine x_getr (b := 9) C hR fo_X1_11 rfl (show _ < _ ∧ _ from ⟨by omega, by decide +kernel⟩) (hmr_ring mr 24) dX1_init_32 ?_
  refine lv_iload_n hx hb dX1_init_35 rfl (lv_at hl 0 rfl) ?_
  refine x_new (ci := 0) (n := 130) (n' := 131) C hR (by decide) (hz1 130 (by omega)) (by decide +kernel) (by omega) ⟨cl_X1_9, ni_0⟩ ⟨by decide, by decide⟩ dX1_init_36 (fun H hR => ?_)
  refine lv_dup hx hb dX1_init_39 rfl ?_
  refine x_callI (mc := 4) (ms := 34) (rest := [.ref (G.2.2.2.1 + 130), .int 24, .ref (G.2.2.2.1 + 9)]) C hR co_X1_24 (m_X0_init (show isD 130 by unfold isD; decide) (hz1.up (by omega))) rfl rfl (Nat.le_of_ble_eq_true rfl) hl.1 ⟨by decide, by decide⟩ ⟨by decide, by decide⟩ dX1_init_40 (fun H locs hR => ?_)
  have hz1 : Fz 135 (deskR (hmr mr 24) 130) (mi) := (hz1.up (by omega)).desk (by omega)
  refine x_aast (kd := 12) (ci := 0) (t0 := 0) C hR (Or.inl ⟨rfl, rfl⟩) (show _ < _ ∧ _ from ⟨by omega, by decide +kernel⟩) (show _ < _ ∧ _ from ⟨by omega, by decide +kernel⟩) (show inB 24 (ln0 9) = true by decide +kernel) dX1_init_43 (fun H locs hR => ?_)
  have hR : RM G (135, kd0, ln0) (hmr mr 25) (mi) H locs := hR
  have hz1 : Fz 135 (hmr mr 25) (mi) := (Fz.hmr (hz.up (by omega)) 25)
  refine lv_iinc (v := 25) (lv' := [(1, .int 25), (0, .ref (G.2.2.2.1 + 8))]) hx hb dX1_init_44 hl (k := 0) rfl (by decide) (by decide) rfl (fun ls hl => ?_)
  refine lv_goto (tgt := 25) hx hb dX1_init_47 (by decide) ?_
  refine lv_iload_n hx hb dX1_init_25 rfl (lv_at hl 0 rfl) ?_
  refine lv_bipush (v := 30) hx hb dX1_init_26 (by decide) ?_
  refine lv_icmp_ge (tgt := 50) hx hb dX1_init_28 (by decide) (fun c => absurd c (by decide)) (fun _ => ?_)
  refine lv_aload_n hx hb dX1_init_31 rfl (lv_at hl 1 rfl) ?_
  refine x_getr (b := 9) C hR fo_X1_11 rfl (show _ < _ ∧ _ from ⟨by omega, by decide +kernel⟩) (hmr_ring mr 25) dX1_init_32 ?_
  refine lv_iload_n hx hb dX1_init_35 rfl (lv_at hl 0 rfl) ?_
  refine x_new (ci := 0) (n := 135) (n' := 136) C hR (by decide) (hz1 135 (by omega)) (by decide +kernel) (by omega) ⟨cl_X1_9, ni_0⟩ ⟨by decide, by decide⟩ dX1_init_36 (fun H hR => ?_)
  refine lv_dup hx hb dX1_init_39 rfl ?_
  refine x_callI (mc := 4) (ms := 34) (rest := [.ref (G.2.2.2.1 + 135), .int 25, .ref (G.2.2.2.1 + 9)]) C hR co_X1_24 (m_X0_init (show isD 135 by unfold isD; decide) (hz1.up (by omega))) rfl rfl (Nat.le_of_ble_eq_true rfl) hl.1 ⟨by decide, by decide⟩ ⟨by decide, by decide⟩ dX1_init_40 (fun H locs hR => ?_)
  have hz1 : Fz 140 (deskR (hmr mr 25) 135) (mi) := (hz1.up (by omega)).desk (by omega)
  refine x_aast (kd := 12) (ci := 0) (t0 := 0) C hR (Or.inl ⟨rfl, rfl⟩) (show _ < _ ∧ _ from ⟨by omega, by decide +kernel⟩) (show _ < _ ∧ _ from ⟨by omega, by decide +kernel⟩) (show inB 25 (ln0 9) = true by decide +kernel) dX1_init_43 (fun H locs hR => ?_)
  have hR : RM G (140, kd0, ln0) (hmr mr 26) (mi) H locs := hR
  have hz1 : Fz 140 (hmr mr 26) (mi) := (Fz.hmr (hz.up (by omega)) 26)
  refine lv_iinc (v := 26) (lv' := [(1, .int 26), (0, .ref (G.2.2.2.1 + 8))]) hx hb dX1_init_44 hl (k := 0) rfl (by decide) (by decide) rfl (fun ls hl => ?_)
  refine lv_goto (tgt := 25) hx hb dX1_init_47 (by decide) ?_
  refine lv_iload_n hx hb dX1_init_25 rfl (lv_at hl 0 rfl) ?_
  refine lv_bipush (v := 30) hx hb dX1_init_26 (by decide) ?_
  refine lv_icmp_ge (tgt := 50) hx hb dX1_init_28 (by decide) (fun c => absurd c (by decide)) (fun _ => ?_)
  refine lv_aload_n hx hb dX1_init_31 rfl (lv_at hl 1 rfl) ?_
  refine x_getr (b := 9) C hR fo_X1_11 rfl (show _ < _ ∧ _ from ⟨by omega, by decide +kernel⟩) (hmr_ring mr 26) dX1_init_32 ?_
  refine lv_iload_n hx hb dX1_init_35 rfl (lv_at hl 0 rfl) ?_
  refine x_new (ci := 0) (n := 140) (n' := 141) C hR (by decide) (hz1 140 (by omega)) (by decide +kernel) (by omega) ⟨cl_X1_9, ni_0⟩ ⟨by decide, by decide⟩ dX1_init_36 (fun H hR => ?_)
  refine lv_dup hx hb dX1_init_39 rfl ?_
  refine x_callI (mc := 4) (ms := 34) (rest := [.ref (G.2.2.2.1 + 140), .int 26, .ref (G.2.2.2.1 + 9)]) C hR co_X1_24 (m_X0_init (show isD 140 by unfold isD; decide) (hz1.up (by omega))) rfl rfl (Nat.le_of_ble_eq_true rfl) hl.1 ⟨by decide, by decide⟩ ⟨by decide, by decide⟩ dX1_init_40 (fun H locs hR => ?_)
  have hz1 : Fz 145 (deskR (hmr mr 26) 140) (mi) := (hz1.up (by omega)).desk (by omega)
  refine x_aast (kd := 12) (ci := 0) (t0 := 0) C hR (Or.inl ⟨rfl, rfl⟩) (show _ < _ ∧ _ from ⟨by omega, by decide +kernel⟩) (show _ < _ ∧ _ from ⟨by omega, by decide +kernel⟩) (show inB 26 (ln0 9) = true by decide +kernel) dX1_init_43 (fun H locs hR => ?_)
  have hR : RM G (145, kd0, ln0) (hmr mr 27) (mi) H locs := hR
  have hz1 : Fz 145 (hmr mr 27) (mi) := (Fz.hmr (hz.up (by omega)) 27)
  refine lv_iinc (v := 27) (lv' := [(1, .int 27), (0, .ref (G.2.2.2.1 + 8))]) hx hb dX1_init_44 hl (k := 0) rfl (by decide) (by decide) rfl (fun ls hl => ?_)
  refine lv_goto (tgt := 25) hx hb dX1_init_47 (by decide) ?_
  refine lv_iload_n hx hb dX1_init_25 rfl (lv_at hl 0 rfl) ?_
  refine lv_bipush (v := 30) hx hb dX1_init_26 (by decide) ?_
  refine lv_icmp_ge (tgt := 50) hx hb dX1_init_28 (by decide) (fun c => absurd c (by decide)) (fun _ => ?_)
  refine lv_aload_n hx hb dX1_init_31 rfl (lv_at hl 1 rfl) ?_
  refine x_getr (b := 9) C hR fo_X1_11 rfl (show _ < _ ∧ _ from ⟨by omega, by decide +kernel⟩) (hmr_ring mr 27) dX1_init_32 ?_
  refine lv_iload_n hx hb dX1_init_35 rfl (lv_at hl 0 rfl) ?_
  refine x_new (ci := 0) (n := 145) (n' := 146) C hR (by decide) (hz1 145 (by omega)) (by decide +kernel) (by omega) ⟨cl_X1_9, ni_0⟩ ⟨by decide, by decide⟩ dX1_init_36 (fun H hR => ?_)
  refine lv_dup hx hb dX1_init_39 rfl ?_
  refine x_callI (mc := 4) (ms := 34) (rest := [.ref (G.2.2.2.1 + 145), .int 27, .ref (G.2.2.2.1 + 9)]) C hR co_X1_24 (m_X0_init (show isD 145 by unfold isD; decide) (hz1.up (by omega))) rfl rfl (Nat.le_of_ble_eq_true rfl) hl.1 ⟨by decide, by decide⟩ ⟨by decide, by decide⟩ dX1_init_40 (fun H locs hR => ?_)
  have hz1 : Fz 150 (deskR (hmr mr 27) 145) (mi) := (hz1.up (by omega)).desk (by omega)
  refine x_aast (kd := 12) (ci := 0) (t0 := 0) C hR (Or.inl ⟨rfl, rfl⟩) (show _ < _ ∧ _ from ⟨by omega, by decide +kernel⟩) (show _ < _ ∧ _ from ⟨by omega, by decide +kernel⟩) (show inB 27 (ln0 9) = true by decide +kernel) dX1_init_43 (fun H locs hR => ?_)
  have hR : RM G (150, kd0, ln0) (hmr mr 28) (mi) H locs := hR
  have hz1 : Fz 150 (hmr mr 28) (mi) := (Fz.hmr (hz.up (by omega)) 28)
  refine lv_iinc (v := 28) (lv' := [(1, .int 28), (0, .ref (G.2.2.2.1 + 8))]) hx hb dX1_init_44 hl (k := 0) rfl (by decide) (by decide) rfl (fun ls hl => ?_)
  refine lv_goto (tgt := 25) hx hb dX1_init_47 (by decide) ?_
  refine lv_iload_n hx hb dX1_init_25 rfl (lv_at hl 0 rfl) ?_
  refine lv_bipush (v := 30) hx hb dX1_init_26 (by decide) ?_
  refine lv_icmp_ge (tgt := 50) hx hb dX1_init_28 (by decide) (fun c => absurd c (by decide)) (fun _ => ?_)
  refine lv_aload_n hx hb dX1_init_31 rfl (lv_at hl 1 rfl) ?_
  refine x_getr (b := 9) C hR fo_X1_11 rfl (show _ < _ ∧ _ from ⟨by omega, by decide +kernel⟩) (hmr_ring mr 28) dX1_init_32 ?_
  refine lv_iload_n hx hb dX1_init_35 rfl (lv_at hl 0 rfl) ?_
  refine x_new (ci := 0) (n := 150) (n' := 151) C hR (by decide) (hz1 150 (by omega)) (by decide +kernel) (by omega) ⟨cl_X1_9, ni_0⟩ ⟨by decide, by decide⟩ dX1_init_36 (fun H hR => ?_)
  refine lv_dup hx hb dX1_init_39 rfl ?_
  refine x_callI (mc := 4) (ms := 34) (rest := [.ref (G.2.2.2.1 + 150), .int 28, .ref (G.2.2.2.1 + 9)]) C hR co_X1_24 (m_X0_init (show isD 150 by unfold isD; decide) (hz1.up (by omega))) rfl rfl (Nat.le_of_ble_eq_true rfl) hl.1 ⟨by decide, by decide⟩ ⟨by decide, by decide⟩ dX1_init_40 (fun H locs hR => ?_)
  have hz1 : Fz 155 (deskR (hmr mr 28) 150) (mi) := (hz1.up (by omega)).desk (by omega)
  refine x_aast (kd := 12) (ci := 0) (t0 := 0) C hR (Or.inl ⟨rfl, rfl⟩) (show _ < _ ∧ _ from ⟨by omega, by decide +kernel⟩) (show _ < _ ∧ _ from ⟨by omega, by decide +kernel⟩) (show inB 28 (ln0 9) = true by decide +kernel) dX1_init_43 (fun H locs hR => ?_)
  have hR : RM G (155, kd0, ln0) (hmr mr 29) (mi) H locs := hR
  have hz1 : Fz 155 (hmr mr 29) (mi) := (Fz.hmr (hz.up (by omega)) 29)
  refine lv_iinc (v := 29) (lv' := [(1, .int 29), (0, .ref (G.2.2.2.1 + 8))]) hx hb dX1_init_44 hl (k := 0) rfl (by decide) (by decide) rfl (fun ls hl => ?_)
  refine lv_goto (tgt := 25) hx hb dX1_init_47 (by decide) ?_
  refine lv_iload_n hx hb dX1_init_25 rfl (lv_at hl 0 rfl) ?_
  refine lv_bipush (v := 30) hx hb dX1_init_26 (by decide) ?_
  refine lv_icmp_ge (tgt := 50) hx hb dX1_init_28 (by decide) (fun c => absurd c (by decide)) (fun _ => ?_)
  refine lv_aload_n hx hb dX1_init_31 rfl (lv_at hl 1 rfl) ?_
  refine x_getr (b := 9) C hR fo_X1_11 rfl (show _ < _ ∧ _ from ⟨by omega, by decide +kernel⟩) (hmr_ring mr 29) dX1_init_32 ?_
  refine lv_iload_n hx hb dX1_init_35 rfl (lv_at hl 0 rfl) ?_
  refine x_new (ci := 0) (n := 155) (n' := 156) C hR (by decide) (hz1 155 (by omega)) (by decide +kernel) (by omega) ⟨cl_X1_9, ni_0⟩ ⟨by decide, by decide⟩ dX1_init_36 (fun H hR => ?_)
  refine lv_dup hx hb dX1_init_39 rfl ?_
  refine x_callI (mc := 4) (ms := 34) (rest := [.ref (G.2.2.2.1 + 155), .int 29, .ref (G.2.2.2.1 + 9)]) C hR co_X1_24 (m_X0_init (show isD 155 by unfold isD; decide) (hz1.up (by omega))) rfl rfl (Nat.le_of_ble_eq_true rfl) hl.1 ⟨by decide, by decide⟩ ⟨by decide, by decide⟩ dX1_init_40 (fun H locs hR => ?_)
  have hz1 : Fz 160 (deskR (hmr mr 29) 155) (mi) := (hz1.up (by omega)).desk (by omega)
  refine x_aast (kd := 12) (ci := 0) (t0 := 0) C hR (Or.inl ⟨rfl, rfl⟩) (show _ < _ ∧ _ from ⟨by omega, by decide +kernel⟩) (show _ < _ ∧ _ from ⟨by omega, by decide +kernel⟩) (show inB 29 (ln0 9) = true by decide +kernel) dX1_init_43 (fun H locs hR => ?_)
  have hR : RM G (160, kd0, ln0) (hmr mr 30) (mi) H locs := hR
  have hz1 : Fz 160 (hmr mr 30) (mi) := (Fz.hmr (hz.up (by omega)) 30)
  refine lv_iinc (v := 30) (lv' := [(1, .int 30), (0, .ref (G.2.2.2.1 + 8))]) hx hb dX1_init_44 hl (k := 0) rfl (by decide) (by decide) rfl (fun ls hl => ?_)
  refine lv_goto (tgt := 25) hx hb dX1_init_47 (by decide) ?_
  refine lv_iload_n hx hb dX1_init_25 rfl (lv_at hl 0 rfl) ?_
  refine lv_bipush (v := 30) hx hb dX1_init_26 (by decide) ?_
  refine lv_icmp_ge (tgt := 50) hx hb dX1_init_28 (by decide) (fun _ => ?_) (fun c => absurd (by decide) c)
  exact x_vret C hR hr hlk dX1_init_50
theorem dX7_init_0 : decode cX7_init 0 = .ok (.aload_n 0, 1) := by decide +kernel
theorem dX7_init_1 : decode cX7_init 1 = .ok (.invokespecial 1, 3) := by decide +kernel
theorem dX7_init_4 : decode cX7_init 4 = .ok (.aload_n 0, 1) := by decide +kernel
theorem dX7_init_5 : decode cX7_init 5 = .ok (.new 7, 3) := by decide +kernel
theorem dX7_init_8 : decode cX7_init 8 = .ok (.dup, 1) := by decide +kernel
theorem dX7_init_9 : decode cX7_init 9 = .ok (.invokespecial 9, 3) := by decide +kernel
theorem dX7_init_12 : decode cX7_init 12 = .ok (.putfield 10, 3) := by decide +kernel
theorem dX7_init_15 : decode cX7_init 15 = .ok (.aload_n 0, 1) := by decide +kernel
theorem dX7_init_16 : decode cX7_init 16 = .ok (.new 16, 3) := by decide +kernel
theorem dX7_init_19 : decode cX7_init 19 = .ok (.dup, 1) := by decide +kernel
theorem dX7_init_20 : decode cX7_init 20 = .ok (.invokespecial 18, 3) := by decide +kernel
theorem dX7_init_23 : decode cX7_init 23 = .ok (.putfield 19, 3) := by decide +kernel
theorem dX7_init_26 : decode cX7_init 26 = .ok (.aload_n 0, 1) := by decide +kernel
theorem dX7_init_27 : decode cX7_init 27 = .ok (.new 23, 3) := by decide +kernel
theorem dX7_init_30 : decode cX7_init 30 = .ok (.dup, 1) := by decide +kernel
theorem dX7_init_31 : decode cX7_init 31 = .ok (.invokespecial 25, 3) := by decide +kernel
theorem dX7_init_34 : decode cX7_init 34 = .ok (.putfield 26, 3) := by decide +kernel
theorem dX7_init_37 : decode cX7_init 37 = .ok (.aload_n 0, 1) := by decide +kernel
theorem dX7_init_38 : decode cX7_init 38 = .ok (.iconst 2, 1) := by decide +kernel
theorem dX7_init_39 : decode cX7_init 39 = .ok (.anewarray 30, 3) := by decide +kernel
theorem dX7_init_42 : decode cX7_init 42 = .ok (.putfield 32, 3) := by decide +kernel
theorem dX7_init_45 : decode cX7_init 45 = .ok (.iconst 0, 1) := by decide +kernel
theorem dX7_init_46 : decode cX7_init 46 = .ok (.istore_n 1, 1) := by decide +kernel
theorem dX7_init_47 : decode cX7_init 47 = .ok (.iload_n 1, 1) := by decide +kernel
theorem dX7_init_48 : decode cX7_init 48 = .ok (.iconst 2, 1) := by decide +kernel
theorem dX7_init_49 : decode cX7_init 49 = .ok (.if_icmp .ge 22, 3) := by decide +kernel
theorem dX7_init_52 : decode cX7_init 52 = .ok (.aload_n 0, 1) := by decide +kernel
theorem dX7_init_53 : decode cX7_init 53 = .ok (.getfield 32, 3) := by decide +kernel
theorem dX7_init_56 : decode cX7_init 56 = .ok (.iload_n 1, 1) := by decide +kernel
theorem dX7_init_57 : decode cX7_init 57 = .ok (.new 30, 3) := by decide +kernel
theorem dX7_init_60 : decode cX7_init 60 = .ok (.dup, 1) := by decide +kernel
theorem dX7_init_61 : decode cX7_init 61 = .ok (.invokespecial 36, 3) := by decide +kernel
theorem dX7_init_64 : decode cX7_init 64 = .ok (.aastore, 1) := by decide +kernel
theorem dX7_init_65 : decode cX7_init 65 = .ok (.iinc 1 1, 3) := by decide +kernel
theorem dX7_init_68 : decode cX7_init 68 = .ok (.goto (-21), 3) := by decide +kernel
theorem dX7_init_71 : decode cX7_init 71 = .ok (.aload_n 0, 1) := by decide +kernel
theorem dX7_init_72 : decode cX7_init 72 = .ok (.new 37, 3) := by decide +kernel
theorem dX7_init_75 : decode cX7_init 75 = .ok (.dup, 1) := by decide +kernel
theorem dX7_init_76 : decode cX7_init 76 = .ok (.invokespecial 39, 3) := by decide +kernel
theorem dX7_init_79 : decode cX7_init 79 = .ok (.putfield 40, 3) := by decide +kernel
theorem dX7_init_82 : decode cX7_init 82 = .ok (.aload_n 0, 1) := by decide +kernel
theorem dX7_init_83 : decode cX7_init 83 = .ok (.new 44, 3) := by decide +kernel
theorem dX7_init_86 : decode cX7_init 86 = .ok (.dup, 1) := by decide +kernel
theorem dX7_init_87 : decode cX7_init 87 = .ok (.invokespecial 46, 3) := by decide +kernel
theorem dX7_init_90 : decode cX7_init 90 = .ok (.putfield 47, 3) := by decide +kernel
theorem dX7_init_93 : decode cX7_init 93 = .ok (.aload_n 0, 1) := by decide +kernel
theorem dX7_init_94 : decode cX7_init 94 = .ok (.new 44, 3) := by decide +kernel
theorem dX7_init_97 : decode cX7_init 97 = .ok (.dup, 1) := by decide +kernel
theorem dX7_init_98 : decode cX7_init 98 = .ok (.invokespecial 46, 3) := by decide +kernel
theorem dX7_init_101 : decode cX7_init 101 = .ok (.putfield 51, 3) := by decide +kernel
theorem dX7_init_104 : decode cX7_init 104 = .ok (.aload_n 0, 1) := by decide +kernel
theorem dX7_init_105 : decode cX7_init 105 = .ok (.new 54, 3) := by decide +kernel
theorem dX7_init_108 : decode cX7_init 108 = .ok (.dup, 1) := by decide +kernel
theorem dX7_init_109 : decode cX7_init 109 = .ok (.aload_n 0, 1) := by decide +kernel
theorem dX7_init_110 : decode cX7_init 110 = .ok (.getfield 47, 3) := by decide +kernel
theorem dX7_init_113 : decode cX7_init 113 = .ok (.invokespecial 56, 3) := by decide +kernel
theorem dX7_init_116 : decode cX7_init 116 = .ok (.putfield 59, 3) := by decide +kernel
theorem dX7_init_119 : decode cX7_init 119 = .ok (.aload_n 0, 1) := by decide +kernel
theorem dX7_init_120 : decode cX7_init 120 = .ok (.iconst 0, 1) := by decide +kernel
theorem dX7_init_121 : decode cX7_init 121 = .ok (.putfield 63, 3) := by decide +kernel
theorem dX7_init_124 : decode cX7_init 124 = .ok (.aload_n 0, 1) := by decide +kernel
theorem dX7_init_125 : decode cX7_init 125 = .ok (.iconst (-1), 1) := by decide +kernel
theorem dX7_init_126 : decode cX7_init 126 = .ok (.putfield 67, 3) := by decide +kernel
theorem dX7_init_129 : decode cX7_init 129 = .ok (.return_, 1) := by decide +kernel
def ltR (mr : Rfs) : Rfs := sr (rowsR (sr (wordsR (sr (wordsR (sr (talkR (sr (imR (sr (imR (sr (sr (hmr (sr (deskR (sr (sr (mr) 1 0 (some 2)) 0 0 (some 1)) 3) 0 1 (some 3)) 30) 0 2 (some 8)) 0 3 (some 160)) 161) 160 0 (some 161)) 167) 160 1 (some 167))) 0 5 (some 173)) 179) 0 6 (some 179)) 190) 0 7 (some 190))) 0 4 (some 201)
set_option maxHeartbeats 4000000 in
set_option maxRecDepth 100000 in
theorem m_X7_init {l : Launch} {G : GT}  {mr : Rfs} {mi : Mem}  (hz : Fz 0 mr mi) : MX l G yX7_init cX7_init 2 none 3 205 6187 [.ref (G.2.2.2.1 + 0)] (1, kd0, ln0) mr mi none (206, kd0, ln0) (ltR mr) (st (st (st mi 1 4 (-1)) 201 4 1) 0 9 (-1)) := by
  refine x_meth3 (own := RX7) (lv := [(0, .ref (G.2.2.2.1 + 0))]) (by decide) rfl rfl (Nat.le_of_ble_eq_true rfl) ?_
  intro p e s m below meth c C hr hlk hnm ls hl H locs hR
  have hx := C.1
  have hb := C.2.1
  have hz1 : Fz 1 mr mi := hz.up (by omega)
  refine lv_aload_n hx hb dX7_init_0 rfl (lv_at hl 0 rfl) ?_
  refine x_obj C ob_X7 hl.1 (by decide) (Nat.le_of_ble_eq_true rfl) dX7_init_1 ?_
  refine lv_aload_n hx hb dX7_init_4 rfl (lv_at hl 0 rfl) ?_
  refine x_new (ci := 3) (n := 1) (n' := 2) C hR (by decide) (hz1 1 (by omega)) (by decide +kernel) (by omega) ⟨cl_X7_7, ni_3⟩ ⟨by decide, by decide⟩ dX7_init_5 (fun H hR => ?_)
  refine lv_dup hx hb dX7_init_8 rfl ?_
  refine x_callI (mc := 1) (ms := 240) (rest := [.ref (G.2.2.2.1 + 1), .ref (G.2.2.2.1 + 0)]) C hR co_X7_9 (m_X3_init  (hz1.up (by omega))) rfl rfl (Nat.le_of_ble_eq_true rfl) hl.1 ⟨by decide, by decide⟩ ⟨by decide, by decide⟩ dX7_init_9 (fun H locs hR => ?_)
  have hz1 : Fz 3 (sr (mr) 1 0 (some 2)) (st (mi) 1 4 (-1)) := ((hz1.up (by omega)).sr (by omega)).st (by omega)
  refine x_putF C hR fo_X7_10 rfl hnm rfl fl_X7_10 rfl (show _ < _ ∧ _ from ⟨by omega, by decide +kernel⟩) dX7_init_12 (fun H locs hR => ?_)
  have hz1 := hz1.sr (a := 0) (k := 0) (v := some 1) (by omega)
  refine lv_aload_n hx hb dX7_init_15 rfl (lv_at hl 0 rfl) ?_
  refine x_new (ci := 0) (n := 3) (n' := 4) C hR (by decide) (hz1 3 (by omega)) (by decide +kernel) (by omega) ⟨cl_X7_16, ni_0⟩ ⟨by decide, by decide⟩ dX7_init_16 (fun H hR => ?_)
  refine lv_dup hx hb dX7_init_19 rfl ?_
  refine x_callI (mc := 4) (ms := 34) (rest := [.ref (G.2.2.2.1 + 3), .ref (G.2.2.2.1 + 0)]) C hR co_X7_18 (m_X0_init hD3 (hz1.up (by omega))) rfl rfl (Nat.le_of_ble_eq_true rfl) hl.1 ⟨by decide, by decide⟩ ⟨by decide, by decide⟩ dX7_init_20 (fun H locs hR => ?_)
  have hz1 : Fz 8 (deskR (sr (sr (mr) 1 0 (some 2)) 0 0 (some 1)) 3) (st (mi) 1 4 (-1)) := (hz1.up (by omega)).desk (by omega)
  refine x_putF C hR fo_X7_19 rfl hnm rfl fl_X7_19 rfl (show _ < _ ∧ _ from ⟨by omega, by decide +kernel⟩) dX7_init_23 (fun H locs hR => ?_)
  have hz1 := hz1.sr (a := 0) (k := 1) (v := some 3) (by omega)
  refine lv_aload_n hx hb dX7_init_26 rfl (lv_at hl 0 rfl) ?_
  refine x_new (ci := 1) (n := 8) (n' := 9) C hR (by decide) (hz1 8 (by omega)) (by decide +kernel) (by omega) ⟨cl_X7_23, ni_1⟩ ⟨by decide, by decide⟩ dX7_init_27 (fun H hR => ?_)
  refine lv_dup hx hb dX7_init_30 rfl ?_
  refine x_callI (mc := 151) (ms := 1260) (rest := [.ref (G.2.2.2.1 + 8), .ref (G.2.2.2.1 + 0)]) C hR co_X7_25 (m_X1_init  (hz1.up (by omega))) rfl rfl (Nat.le_of_ble_eq_true rfl) hl.1 ⟨by decide, by decide⟩ ⟨by decide, by decide⟩ dX7_init_31 (fun H locs hR => ?_)
  have hz1 : Fz 160 (hmr (sr (deskR (sr (sr (mr) 1 0 (some 2)) 0 0 (some 1)) 3) 0 1 (some 3)) 30) (st (mi) 1 4 (-1)) := Fz.hmr (hz1.up (by omega)) 30
  refine x_putF C hR fo_X7_26 rfl hnm rfl fl_X7_26 rfl (show _ < _ ∧ _ from ⟨by omega, by decide +kernel⟩) dX7_init_34 (fun H locs hR => ?_)
  have hz1 := hz1.sr (a := 0) (k := 2) (v := some 8) (by omega)
  refine lv_aload_n hx hb dX7_init_37 rfl (lv_at hl 0 rfl) ?_
  refine lv_iconst (v := 2) hx hb dX7_init_38 (by decide) ?_
  refine x_anew (K := RX2) (t0 := 0) (N := 2) (n := 160) (n' := 161) C hR (hz1 160 (by omega)) ⟨by decide +kernel, by decide +kernel⟩ (by omega) (Or.inr ⟨rfl, rfl⟩) cl_X7_30 (va_AO.use (C.2.2.2.2.2.2 _ ao_2)) ⟨by decide, by decide, by decide⟩ ⟨by decide, by decide⟩ dX7_init_39 (fun H hR => ?_)
  refine x_putF C hR fo_X7_32 rfl hnm rfl fl_X7_32 rfl (show _ < _ ∧ _ from ⟨by omega, by decide +kernel⟩) dX7_init_42 (fun H locs hR => ?_)
  have hz1 := hz1.sr (a := 0) (k := 3) (v := some 160) (by omega)
  refine lv_iconst (v := 0) hx hb dX7_init_45 (by decide) ?_
  refine lv_istore_n (lv' := [(1, .int 0), (0, .ref (G.2.2.2.1 + 0))]) hx hb dX7_init_46 rfl hl (by decide) rfl (fun ls hl => ?_)
  refine lv_iload_n hx hb dX7_init_47 rfl (lv_at hl 0 rfl) ?_
  refine lv_iconst (v := 2) hx hb dX7_init_48 (by decide) ?_
  refine lv_icmp_ge (tgt := 71) hx hb dX7_init_49 (by decide) (fun c => absurd c (by decide)) (fun _ => ?_)
  refine lv_aload_n hx hb dX7_init_52 rfl (lv_at hl 1 rfl) ?_
  refine x_getr (b := 160) C hR fo_X7_32 rfl (show _ < _ ∧ _ from ⟨by omega, by decide +kernel⟩) (show (sr (sr (hmr (sr (deskR (sr (sr (mr) 1 0 (some 2)) 0 0 (some 1)) 3) 0 1 (some 3)) 30) 0 2 (some 8)) 0 3 (some 160)) 0 3 = some 160 from rfl) dX7_init_53 ?_
  refine lv_iload_n hx hb dX7_init_56 rfl (lv_at hl 0 rfl) ?_
  refine x_new (ci := 2) (n := 161) (n' := 162) C hR (by decide) (hz1 161 (by omega)) (by decide +kernel) (by omega) ⟨cl_X7_30, ni_2⟩ ⟨by decide, by decide⟩ dX7_init_57 (fun H hR => ?_)
  refine lv_dup hx hb dX7_init_60 rfl ?_
  refine x_callI (mc := 5) (ms := 41) (rest := [.ref (G.2.2.2.1 + 161), .int 0, .ref (G.2.2.2.1 + 160)]) C hR co_X7_36 (m_X2_init (Or.inl rfl) (hz1.up (by omega))) rfl rfl (Nat.le_of_ble_eq_true rfl) hl.1 ⟨by decide, by decide⟩ ⟨by decide, by decide⟩ dX7_init_61 (fun H locs hR => ?_)
  have hz1 : Fz 167 (imR (sr (sr (hmr (sr (deskR (sr (sr (mr) 1 0 (some 2)) 0 0 (some 1)) 3) 0 1 (some 3)) 30) 0 2 (some 8)) 0 3 (some 160)) 161) (st (mi) 1 4 (-1)) := (hz1.up (by omega)).im (by omega)
  refine x_aast (kd := 13) (ci := 2) (t0 := 0) C hR (Or.inr ⟨rfl, rfl⟩) (show _ < _ ∧ _ from ⟨by omega, by decide +kernel⟩) (show _ < _ ∧ _ from ⟨by omega, by decide +kernel⟩) (show inB 0 (ln0 160) = true by decide +kernel) dX7_init_64 (fun H locs hR => ?_)
  have hR : RM G (167, kd0, ln0) (sr (imR (sr (sr (hmr (sr (deskR (sr (sr (mr) 1 0 (some 2)) 0 0 (some 1)) 3) 0 1 (some 3)) 30) 0 2 (some 8)) 0 3 (some 160)) 161) 160 0 (some 161)) (st (mi) 1 4 (-1)) H locs := hR
  have hz1 : Fz 167 (sr (imR (sr (sr (hmr (sr (deskR (sr (sr (mr) 1 0 (some 2)) 0 0 (some 1)) 3) 0 1 (some 3)) 30) 0 2 (some 8)) 0 3 (some 160)) 161) 160 0 (some 161)) (st (mi) 1 4 (-1)) := hz1.sr (by omega)
  refine lv_iinc (v := 1) (lv' := [(1, .int 1), (0, .ref (G.2.2.2.1 + 0))]) hx hb dX7_init_65 hl (k := 0) rfl (by decide) (by decide) rfl (fun ls hl => ?_)
  refine lv_goto (tgt := 47) hx hb dX7_init_68 (by decide) ?_
  refine lv_iload_n hx hb dX7_init_47 rfl (lv_at hl 0 rfl) ?_
  refine lv_iconst (v := 2) hx hb dX7_init_48 (by decide) ?_
  refine lv_icmp_ge (tgt := 71) hx hb dX7_init_49 (by decide) (fun c => absurd c (by decide)) (fun _ => ?_)
  refine lv_aload_n hx hb dX7_init_52 rfl (lv_at hl 1 rfl) ?_
  refine x_getr (b := 160) C hR fo_X7_32 rfl (show _ < _ ∧ _ from ⟨by omega, by decide +kernel⟩) (show (sr (imR (sr (sr (hmr (sr (deskR (sr (sr (mr) 1 0 (some 2)) 0 0 (some 1)) 3) 0 1 (some 3)) 30) 0 2 (some 8)) 0 3 (some 160)) 161) 160 0 (some 161)) 0 3 = some 160 from rfl) dX7_init_53 ?_
  refine lv_iload_n hx hb dX7_init_56 rfl (lv_at hl 0 rfl) ?_
  refine x_new (ci := 2) (n := 167) (n' := 168) C hR (by decide) (hz1 167 (by omega)) (by decide +kernel) (by omega) ⟨cl_X7_30, ni_2⟩ ⟨by decide, by decide⟩ dX7_init_57 (fun H hR => ?_)
  refine lv_dup hx hb dX7_init_60 rfl ?_
  refine x_callI (mc := 5) (ms := 41) (rest := [.ref (G.2.2.2.1 + 167), .int 1, .ref (G.2.2.2.1 + 160)]) C hR co_X7_36 (m_X2_init (Or.inr rfl) (hz1.up (by omega))) rfl rfl (Nat.le_of_ble_eq_true rfl) hl.1 ⟨by decide, by decide⟩ ⟨by decide, by decide⟩ dX7_init_61 (fun H locs hR => ?_)
  have hz1 : Fz 173 (imR (sr (imR (sr (sr (hmr (sr (deskR (sr (sr (mr) 1 0 (some 2)) 0 0 (some 1)) 3) 0 1 (some 3)) 30) 0 2 (some 8)) 0 3 (some 160)) 161) 160 0 (some 161)) 167) (st (mi) 1 4 (-1)) := (hz1.up (by omega)).im (by omega)
  refine x_aast (kd := 13) (ci := 2) (t0 := 0) C hR (Or.inr ⟨rfl, rfl⟩) (show _ < _ ∧ _ from ⟨by omega, by decide +kernel⟩) (show _ < _ ∧ _ from ⟨by omega, by decide +kernel⟩) (show inB 1 (ln0 160) = true by decide +kernel) dX7_init_64 (fun H locs hR => ?_)
  have hR : RM G (173, kd0, ln0) (sr (imR (sr (imR (sr (sr (hmr (sr (deskR (sr (sr (mr) 1 0 (some 2)) 0 0 (some 1)) 3) 0 1 (some 3)) 30) 0 2 (some 8)) 0 3 (some 160)) 161) 160 0 (some 161)) 167) 160 1 (some 167)) (st (mi) 1 4 (-1)) H locs := hR
  have hz1 : Fz 173 (sr (imR (sr (imR (sr (sr (hmr (sr (deskR (sr (sr (mr) 1 0 (some 2)) 0 0 (some 1)) 3) 0 1 (some 3)) 30) 0 2 (some 8)) 0 3 (some 160)) 161) 160 0 (some 161)) 167) 160 1 (some 167)) (st (mi) 1 4 (-1)) := hz1.sr (by omega)
  refine lv_iinc (v := 2) (lv' := [(1, .int 2), (0, .ref (G.2.2.2.1 + 0))]) hx hb dX7_init_65 hl (k := 0) rfl (by decide) (by decide) rfl (fun ls hl => ?_)
  refine lv_goto (tgt := 47) hx hb dX7_init_68 (by decide) ?_
  refine lv_iload_n hx hb dX7_init_47 rfl (lv_at hl 0 rfl) ?_
  refine lv_iconst (v := 2) hx hb dX7_init_48 (by decide) ?_
  refine lv_icmp_ge (tgt := 71) hx hb dX7_init_49 (by decide) (fun _ => ?_) (fun c => absurd (by decide) c)
  refine lv_aload_n hx hb dX7_init_71 rfl (lv_at hl 1 rfl) ?_
  refine x_new (ci := 5) (n := 173) (n' := 174) C hR (by decide) (hz1 173 (by omega)) (by decide +kernel) (by omega) ⟨cl_X7_37, ni_5⟩ ⟨by decide, by decide⟩ dX7_init_72 (fun H hR => ?_)
  refine lv_dup hx hb dX7_init_75 rfl ?_
  refine x_callI (mc := 5) (ms := 58) (rest := [.ref (G.2.2.2.1 + 173), .ref (G.2.2.2.1 + 0)]) C hR co_X7_39 (m_X5_init  (hz1.up (by omega))) rfl rfl (Nat.le_of_ble_eq_true rfl) hl.1 ⟨by decide, by decide⟩ ⟨by decide, by decide⟩ dX7_init_76 (fun H locs hR => ?_)
  have hz1 : Fz 179 (talkR (sr (imR (sr (imR (sr (sr (hmr (sr (deskR (sr (sr (mr) 1 0 (some 2)) 0 0 (some 1)) 3) 0 1 (some 3)) 30) 0 2 (some 8)) 0 3 (some 160)) 161) 160 0 (some 161)) 167) 160 1 (some 167))) (st (mi) 1 4 (-1)) := fun k hk => by rw [talkR_ne (by omega)]; exact hz1 k (by omega)
  refine x_putF C hR fo_X7_40 rfl hnm rfl fl_X7_40 rfl (show _ < _ ∧ _ from ⟨by omega, by decide +kernel⟩) dX7_init_79 (fun H locs hR => ?_)
  have hz1 := hz1.sr (a := 0) (k := 5) (v := some 173) (by omega)
  refine lv_aload_n hx hb dX7_init_82 rfl (lv_at hl 1 rfl) ?_
  refine x_new (ci := 6) (n := 179) (n' := 180) C hR (by decide) (hz1 179 (by omega)) (by decide +kernel) (by omega) ⟨cl_X7_44, ni_6⟩ ⟨by decide, by decide⟩ dX7_init_83 (fun H hR => ?_)
  refine lv_dup hx hb dX7_init_86 rfl ?_
  refine x_callI (mc := 10) (ms := 488) (rest := [.ref (G.2.2.2.1 + 179), .ref (G.2.2.2.1 + 0)]) C hR co_X7_46 (m_X6_init (Or.inl rfl) (hz1.up (by omega))) rfl rfl (Nat.le_of_ble_eq_true rfl) hl.1 ⟨by decide, by decide⟩ ⟨by decide, by decide⟩ dX7_init_87 (fun H locs hR => ?_)
  have hz1 : Fz 190 (wordsR (sr (talkR (sr (imR (sr (imR (sr (sr (hmr (sr (deskR (sr (sr (mr) 1 0 (some 2)) 0 0 (some 1)) 3) 0 1 (some 3)) 30) 0 2 (some 8)) 0 3 (some 160)) 161) 160 0 (some 161)) 167) 160 1 (some 167))) 0 5 (some 173)) 179) (st (mi) 1 4 (-1)) := (hz1.up (by omega)).words (by omega)
  refine x_putr C hR fo_X7_47 rfl rfl (show _ < _ ∧ _ from ⟨by omega, by decide +kernel⟩) dX7_init_90 (fun H locs hR => ?_)
  have hz1 := hz1.sr (a := 0) (k := 6) (v := some 179) (by omega)
  refine lv_aload_n hx hb dX7_init_93 rfl (lv_at hl 1 rfl) ?_
  refine x_new (ci := 6) (n := 190) (n' := 191) C hR (by decide) (hz1 190 (by omega)) (by decide +kernel) (by omega) ⟨cl_X7_44, ni_6⟩ ⟨by decide, by decide⟩ dX7_init_94 (fun H hR => ?_)
  refine lv_dup hx hb dX7_init_97 rfl ?_
  refine x_callI (mc := 10) (ms := 488) (rest := [.ref (G.2.2.2.1 + 190), .ref (G.2.2.2.1 + 0)]) C hR co_X7_46 (m_X6_init (Or.inr rfl) (hz1.up (by omega))) rfl rfl (Nat.le_of_ble_eq_true rfl) hl.1 ⟨by decide, by decide⟩ ⟨by decide, by decide⟩ dX7_init_98 (fun H locs hR => ?_)
  have hz1 : Fz 201 (wordsR (sr (wordsR (sr (talkR (sr (imR (sr (imR (sr (sr (hmr (sr (deskR (sr (sr (mr) 1 0 (some 2)) 0 0 (some 1)) 3) 0 1 (some 3)) 30) 0 2 (some 8)) 0 3 (some 160)) 161) 160 0 (some 161)) 167) 160 1 (some 167))) 0 5 (some 173)) 179) 0 6 (some 179)) 190) (st (mi) 1 4 (-1)) := (hz1.up (by omega)).words (by omega)
  refine x_putr C hR fo_X7_51 rfl rfl (show _ < _ ∧ _ from ⟨by omega, by decide +kernel⟩) dX7_init_101 (fun H locs hR => ?_)
  have hz1 := hz1.sr (a := 0) (k := 7) (v := some 190) (by omega)
  refine lv_aload_n hx hb dX7_init_104 rfl (lv_at hl 1 rfl) ?_
  refine x_new (ci := 4) (n := 201) (n' := 202) C hR (by decide) (hz1 201 (by omega)) (by decide +kernel) (by omega) ⟨cl_X7_54, ni_4⟩ ⟨by decide, by decide⟩ dX7_init_105 (fun H hR => ?_)
  refine lv_dup hx hb dX7_init_108 rfl ?_
  refine lv_aload_n hx hb dX7_init_109 rfl (lv_at hl 1 rfl) ?_
  refine x_getr (b := 179) C hR fo_X7_47 rfl (show _ < _ ∧ _ from ⟨by omega, by decide +kernel⟩) (show (sr (wordsR (sr (wordsR (sr (talkR (sr (imR (sr (imR (sr (sr (hmr (sr (deskR (sr (sr (mr) 1 0 (some 2)) 0 0 (some 1)) 3) 0 1 (some 3)) 30) 0 2 (some 8)) 0 3 (some 160)) 161) 160 0 (some 161)) 167) 160 1 (some 167))) 0 5 (some 173)) 179) 0 6 (some 179)) 190) 0 7 (some 190)) 0 6 = some 179 from rfl) dX7_init_110 ?_
  refine x_callI (mc := 4) (ms := 3474) (rest := [.ref (G.2.2.2.1 + 201), .ref (G.2.2.2.1 + 0)]) C hR co_X7_56 (m_X4_init  (hz1.up (by omega))) rfl rfl (Nat.le_of_ble_eq_true rfl) hl.1 ⟨by decide, by decide⟩ ⟨by decide, by decide⟩ dX7_init_113 (fun H locs hR => ?_)
  have hz1 : Fz 206 (rowsR (sr (wordsR (sr (wordsR (sr (talkR (sr (imR (sr (imR (sr (sr (hmr (sr (deskR (sr (sr (mr) 1 0 (some 2)) 0 0 (some 1)) 3) 0 1 (some 3)) 30) 0 2 (some 8)) 0 3 (some 160)) 161) 160 0 (some 161)) 167) 160 1 (some 167))) 0 5 (some 173)) 179) 0 6 (some 179)) 190) 0 7 (some 190))) (st (st (mi) 1 4 (-1)) 201 4 1) := fun k hk => by rw [rowsR_ne (by omega), st_ne (by omega)]; exact hz1 k (by omega)
  refine x_putF C hR fo_X7_59 rfl hnm rfl fl_X7_59 rfl (show _ < _ ∧ _ from ⟨by omega, by decide +kernel⟩) dX7_init_116 (fun H locs hR => ?_)
  have hz1 := hz1.sr (a := 0) (k := 4) (v := some 201) (by omega)
  refine lv_aload_n hx hb dX7_init_119 rfl (lv_at hl 1 rfl) ?_
  refine lv_iconst (v := 0) hx hb dX7_init_120 (by decide) ?_
  refine x_puti C hR fo_X7_63 rfl rfl (show _ < _ ∧ _ from ⟨by omega, by decide +kernel⟩) dX7_init_121 (fun H locs hR => ?_)
  rw [st_same (by rw [st_ne (by decide), st_ne (by decide)]; exact (hz 0 (by omega)).2 8)] at hR
  refine lv_aload_n hx hb dX7_init_124 rfl (lv_at hl 1 rfl) ?_
  refine lv_iconst (v := (-1)) hx hb dX7_init_125 (by decide) ?_
  refine x_puti C hR fo_X7_67 rfl rfl (show _ < _ ∧ _ from ⟨by omega, by decide +kernel⟩) dX7_init_126 (fun H locs hR => ?_)
  have hz1 := hz1.st (a := 0) (k := 9) (v := (-1)) (by omega)
  exact x_vret C hR hr hlk dX7_init_129
theorem dX8_init_0 : decode cX8_init 0 = .ok (.aload_n 0, 1) := by decide +kernel
theorem dX8_init_1 : decode cX8_init 1 = .ok (.invokespecial 1, 3) := by decide +kernel
theorem dX8_init_4 : decode cX8_init 4 = .ok (.aload_n 0, 1) := by decide +kernel
theorem dX8_init_5 : decode cX8_init 5 = .ok (.bipush 8, 2) := by decide +kernel
theorem dX8_init_7 : decode cX8_init 7 = .ok (.newarray .int, 2) := by decide +kernel
theorem dX8_init_9 : decode cX8_init 9 = .ok (.putfield 7, 3) := by decide +kernel
theorem dX8_init_12 : decode cX8_init 12 = .ok (.aload_n 0, 1) := by decide +kernel
theorem dX8_init_13 : decode cX8_init 13 = .ok (.bipush 10, 2) := by decide +kernel
theorem dX8_init_15 : decode cX8_init 15 = .ok (.newarray .int, 2) := by decide +kernel
theorem dX8_init_17 : decode cX8_init 17 = .ok (.putfield 13, 3) := by decide +kernel
theorem dX8_init_20 : decode cX8_init 20 = .ok (.aload_n 0, 1) := by decide +kernel
theorem dX8_init_21 : decode cX8_init 21 = .ok (.bipush 10, 2) := by decide +kernel
theorem dX8_init_23 : decode cX8_init 23 = .ok (.newarray .int, 2) := by decide +kernel
theorem dX8_init_25 : decode cX8_init 25 = .ok (.putfield 16, 3) := by decide +kernel
theorem dX8_init_28 : decode cX8_init 28 = .ok (.aload_n 0, 1) := by decide +kernel
theorem dX8_init_29 : decode cX8_init 29 = .ok (.bipush 60, 2) := by decide +kernel
theorem dX8_init_31 : decode cX8_init 31 = .ok (.newarray .int, 2) := by decide +kernel
theorem dX8_init_33 : decode cX8_init 33 = .ok (.putfield 19, 3) := by decide +kernel
theorem dX8_init_36 : decode cX8_init 36 = .ok (.aload_n 0, 1) := by decide +kernel
theorem dX8_init_37 : decode cX8_init 37 = .ok (.bipush 80, 2) := by decide +kernel
theorem dX8_init_39 : decode cX8_init 39 = .ok (.newarray .int, 2) := by decide +kernel
theorem dX8_init_41 : decode cX8_init 41 = .ok (.putfield 22, 3) := by decide +kernel
theorem dX8_init_44 : decode cX8_init 44 = .ok (.aload_n 0, 1) := by decide +kernel
theorem dX8_init_45 : decode cX8_init 45 = .ok (.bipush 37, 2) := by decide +kernel
theorem dX8_init_47 : decode cX8_init 47 = .ok (.newarray .int, 2) := by decide +kernel
theorem dX8_init_49 : decode cX8_init 49 = .ok (.putfield 25, 3) := by decide +kernel
theorem dX8_init_52 : decode cX8_init 52 = .ok (.aload_n 0, 1) := by decide +kernel
theorem dX8_init_53 : decode cX8_init 53 = .ok (.sipush 1110, 3) := by decide +kernel
theorem dX8_init_56 : decode cX8_init 56 = .ok (.newarray .int, 2) := by decide +kernel
theorem dX8_init_58 : decode cX8_init 58 = .ok (.putfield 28, 3) := by decide +kernel
theorem dX8_init_61 : decode cX8_init 61 = .ok (.aload_n 0, 1) := by decide +kernel
theorem dX8_init_62 : decode cX8_init 62 = .ok (.sipush 240, 3) := by decide +kernel
theorem dX8_init_65 : decode cX8_init 65 = .ok (.newarray .int, 2) := by decide +kernel
theorem dX8_init_67 : decode cX8_init 67 = .ok (.putfield 31, 3) := by decide +kernel
theorem dX8_init_70 : decode cX8_init 70 = .ok (.aload_n 0, 1) := by decide +kernel
theorem dX8_init_71 : decode cX8_init 71 = .ok (.bipush 8, 2) := by decide +kernel
theorem dX8_init_73 : decode cX8_init 73 = .ok (.newarray .int, 2) := by decide +kernel
theorem dX8_init_75 : decode cX8_init 75 = .ok (.putfield 34, 3) := by decide +kernel
theorem dX8_init_78 : decode cX8_init 78 = .ok (.aload_n 0, 1) := by decide +kernel
theorem dX8_init_79 : decode cX8_init 79 = .ok (.bipush 9, 2) := by decide +kernel
theorem dX8_init_81 : decode cX8_init 81 = .ok (.newarray .int, 2) := by decide +kernel
theorem dX8_init_83 : decode cX8_init 83 = .ok (.putfield 37, 3) := by decide +kernel
theorem dX8_init_86 : decode cX8_init 86 = .ok (.aload_n 0, 1) := by decide +kernel
theorem dX8_init_87 : decode cX8_init 87 = .ok (.bipush 10, 2) := by decide +kernel
theorem dX8_init_89 : decode cX8_init 89 = .ok (.newarray .int, 2) := by decide +kernel
theorem dX8_init_91 : decode cX8_init 91 = .ok (.putfield 40, 3) := by decide +kernel
theorem dX8_init_94 : decode cX8_init 94 = .ok (.aload_n 0, 1) := by decide +kernel
theorem dX8_init_95 : decode cX8_init 95 = .ok (.bipush 10, 2) := by decide +kernel
theorem dX8_init_97 : decode cX8_init 97 = .ok (.newarray .int, 2) := by decide +kernel
theorem dX8_init_99 : decode cX8_init 99 = .ok (.putfield 43, 3) := by decide +kernel
theorem dX8_init_102 : decode cX8_init 102 = .ok (.aload_n 0, 1) := by decide +kernel
theorem dX8_init_103 : decode cX8_init 103 = .ok (.bipush 60, 2) := by decide +kernel
theorem dX8_init_105 : decode cX8_init 105 = .ok (.newarray .int, 2) := by decide +kernel
theorem dX8_init_107 : decode cX8_init 107 = .ok (.putfield 46, 3) := by decide +kernel
theorem dX8_init_110 : decode cX8_init 110 = .ok (.aload_n 0, 1) := by decide +kernel
theorem dX8_init_111 : decode cX8_init 111 = .ok (.bipush 13, 2) := by decide +kernel
theorem dX8_init_113 : decode cX8_init 113 = .ok (.newarray .int, 2) := by decide +kernel
theorem dX8_init_115 : decode cX8_init 115 = .ok (.putfield 49, 3) := by decide +kernel
theorem dX8_init_118 : decode cX8_init 118 = .ok (.aload_n 0, 1) := by decide +kernel
theorem dX8_init_119 : decode cX8_init 119 = .ok (.bipush 8, 2) := by decide +kernel
theorem dX8_init_121 : decode cX8_init 121 = .ok (.newarray .int, 2) := by decide +kernel
theorem dX8_init_123 : decode cX8_init 123 = .ok (.putfield 52, 3) := by decide +kernel
theorem dX8_init_126 : decode cX8_init 126 = .ok (.aload_n 0, 1) := by decide +kernel
theorem dX8_init_127 : decode cX8_init 127 = .ok (.bipush 13, 2) := by decide +kernel
theorem dX8_init_129 : decode cX8_init 129 = .ok (.newarray .int, 2) := by decide +kernel
theorem dX8_init_131 : decode cX8_init 131 = .ok (.putfield 55, 3) := by decide +kernel
theorem dX8_init_134 : decode cX8_init 134 = .ok (.aload_n 0, 1) := by decide +kernel
theorem dX8_init_135 : decode cX8_init 135 = .ok (.bipush 18, 2) := by decide +kernel
theorem dX8_init_137 : decode cX8_init 137 = .ok (.newarray .int, 2) := by decide +kernel
theorem dX8_init_139 : decode cX8_init 139 = .ok (.putfield 58, 3) := by decide +kernel
theorem dX8_init_142 : decode cX8_init 142 = .ok (.aload_n 0, 1) := by decide +kernel
theorem dX8_init_143 : decode cX8_init 143 = .ok (.bipush 40, 2) := by decide +kernel
theorem dX8_init_145 : decode cX8_init 145 = .ok (.newarray .int, 2) := by decide +kernel
theorem dX8_init_147 : decode cX8_init 147 = .ok (.putfield 61, 3) := by decide +kernel
theorem dX8_init_150 : decode cX8_init 150 = .ok (.aload_n 0, 1) := by decide +kernel
theorem dX8_init_151 : decode cX8_init 151 = .ok (.bipush 76, 2) := by decide +kernel
theorem dX8_init_153 : decode cX8_init 153 = .ok (.newarray .int, 2) := by decide +kernel
theorem dX8_init_155 : decode cX8_init 155 = .ok (.putfield 64, 3) := by decide +kernel
theorem dX8_init_158 : decode cX8_init 158 = .ok (.aload_n 0, 1) := by decide +kernel
theorem dX8_init_159 : decode cX8_init 159 = .ok (.iconst 2, 1) := by decide +kernel
theorem dX8_init_160 : decode cX8_init 160 = .ok (.newarray .boolean, 2) := by decide +kernel
theorem dX8_init_162 : decode cX8_init 162 = .ok (.putfield 67, 3) := by decide +kernel
theorem dX8_init_165 : decode cX8_init 165 = .ok (.aload_n 0, 1) := by decide +kernel
theorem dX8_init_166 : decode cX8_init 166 = .ok (.iconst (-1), 1) := by decide +kernel
theorem dX8_init_167 : decode cX8_init 167 = .ok (.putfield 71, 3) := by decide +kernel
theorem dX8_init_170 : decode cX8_init 170 = .ok (.return_, 1) := by decide +kernel
def mdR (mr : Rfs) : Rfs := sr (sr (sr (sr (sr (sr (sr (sr (sr (sr (sr (sr (sr (sr (sr (sr (sr (sr (sr (sr (mr) 206 0 (some 207)) 206 1 (some 208)) 206 2 (some 209)) 206 3 (some 210)) 206 4 (some 211)) 206 7 (some 212)) 206 9 (some 213)) 206 11 (some 214)) 206 17 (some 215)) 206 18 (some 216)) 206 19 (some 217)) 206 20 (some 218)) 206 21 (some 219)) 206 24 (some 220)) 206 26 (some 221)) 206 32 (some 222)) 206 33 (some 223)) 206 35 (some 224)) 206 37 (some 225)) 206 38 (some 226)
set_option maxHeartbeats 4000000 in
set_option maxRecDepth 100000 in
theorem m_X8_init {l : Launch} {G : GT}  {mr : Rfs} {mi : Mem}  (hz : Fz 206 mr mi) : MX l G yX8_init cX8_init 1 none 1 20 1822 [.ref (G.2.2.2.1 + 206)] (207, kd0, ln0) mr mi none (227, kd0, ln0) (mdR mr) (st mi 206 14 (-1)) := by
  refine x_meth3 (own := RX8) (lv := [(0, .ref (G.2.2.2.1 + 206))]) (by decide) rfl rfl (Nat.le_of_ble_eq_true rfl) ?_
  intro p e s m below meth c C hr hlk hnm ls hl H locs hR
  have hx := C.1
  have hb := C.2.1
  have hz1 : Fz 207 mr mi := hz.up (by omega)
  refine lv_aload_n hx hb dX8_init_0 rfl (lv_at hl 0 rfl) ?_
  refine x_obj C ob_X8 hl.1 (by decide) (Nat.le_of_ble_eq_true rfl) dX8_init_1 ?_
  refine lv_aload_n hx hb dX8_init_4 rfl (lv_at hl 0 rfl) ?_
  refine lv_bipush (v := 8) hx hb dX8_init_5 (by decide) ?_
  refine x_newa (atype := .int) (t0 := 0) (N := 8) (n := 207) (n' := 208) C hR (hz1 207 (by omega)) ⟨by decide +kernel, by decide +kernel⟩ (by omega) (Or.inl ⟨rfl, rfl⟩) ac_int ⟨by decide, by decide, by decide⟩ ⟨by decide, by decide⟩ dX8_init_7 (fun H hR => ?_)
  refine x_putF C hR fo_X8_7 rfl hnm rfl fl_X8_7 rfl (show _ < _ ∧ _ from ⟨by omega, by decide +kernel⟩) dX8_init_9 (fun H locs hR => ?_)
  have hz1 := hz1.sr (a := 206) (k := 0) (v := some 207) (by omega)
  refine lv_aload_n hx hb dX8_init_12 rfl (lv_at hl 0 rfl) ?_
  refine lv_bipush (v := 10) hx hb dX8_init_13 (by decide) ?_
  refine x_newa (atype := .int) (t0 := 0) (N := 10) (n := 208) (n' := 209) C hR (hz1 208 (by omega)) ⟨by decide +kernel, by decide +kernel⟩ (by omega) (Or.inl ⟨rfl, rfl⟩) ac_int ⟨by decide, by decide, by decide⟩ ⟨by decide, by decide⟩ dX8_init_15 (fun H hR => ?_)
  refine x_putF C hR fo_X8_13 rfl hnm rfl fl_X8_13 rfl (show _ < _ ∧ _ from ⟨by omega, by decide +kernel⟩) dX8_init_17 (fun H locs hR => ?_)
  have hz1 := hz1.sr (a := 206) (k := 1) (v := some 208) (by omega)
  refine lv_aload_n hx hb dX8_init_20 rfl (lv_at hl 0 rfl) ?_
  refine lv_bipush (v := 10) hx hb dX8_init_21 (by decide) ?_
  refine x_newa (atype := .int) (t0 := 0) (N := 10) (n := 209) (n' := 210) C hR (hz1 209 (by omega)) ⟨by decide +kernel, by decide +kernel⟩ (by omega) (Or.inl ⟨rfl, rfl⟩) ac_int ⟨by decide, by decide, by decide⟩ ⟨by decide, by decide⟩ dX8_init_23 (fun H hR => ?_)
  refine x_putF C hR fo_X8_16 rfl hnm rfl fl_X8_16 rfl (show _ < _ ∧ _ from ⟨by omega, by decide +kernel⟩) dX8_init_25 (fun H locs hR => ?_)
  have hz1 := hz1.sr (a := 206) (k := 2) (v := some 209) (by omega)
  refine lv_aload_n hx hb dX8_init_28 rfl (lv_at hl 0 rfl) ?_
  refine lv_bipush (v := 60) hx hb dX8_init_29 (by decide) ?_
  refine x_newa (atype := .int) (t0 := 0) (N := 60) (n := 210) (n' := 211) C hR (hz1 210 (by omega)) ⟨by decide +kernel, by decide +kernel⟩ (by omega) (Or.inl ⟨rfl, rfl⟩) ac_int ⟨by decide, by decide, by decide⟩ ⟨by decide, by decide⟩ dX8_init_31 (fun H hR => ?_)
  refine x_putF C hR fo_X8_19 rfl hnm rfl fl_X8_19 rfl (show _ < _ ∧ _ from ⟨by omega, by decide +kernel⟩) dX8_init_33 (fun H locs hR => ?_)
  have hz1 := hz1.sr (a := 206) (k := 3) (v := some 210) (by omega)
  refine lv_aload_n hx hb dX8_init_36 rfl (lv_at hl 0 rfl) ?_
  refine lv_bipush (v := 80) hx hb dX8_init_37 (by decide) ?_
  refine x_newa (atype := .int) (t0 := 0) (N := 80) (n := 211) (n' := 212) C hR (hz1 211 (by omega)) ⟨by decide +kernel, by decide +kernel⟩ (by omega) (Or.inl ⟨rfl, rfl⟩) ac_int ⟨by decide, by decide, by decide⟩ ⟨by decide, by decide⟩ dX8_init_39 (fun H hR => ?_)
  refine x_putF C hR fo_X8_22 rfl hnm rfl fl_X8_22 rfl (show _ < _ ∧ _ from ⟨by omega, by decide +kernel⟩) dX8_init_41 (fun H locs hR => ?_)
  have hz1 := hz1.sr (a := 206) (k := 4) (v := some 211) (by omega)
  refine lv_aload_n hx hb dX8_init_44 rfl (lv_at hl 0 rfl) ?_
  refine lv_bipush (v := 37) hx hb dX8_init_45 (by decide) ?_
  refine x_newa (atype := .int) (t0 := 0) (N := 37) (n := 212) (n' := 213) C hR (hz1 212 (by omega)) ⟨by decide +kernel, by decide +kernel⟩ (by omega) (Or.inl ⟨rfl, rfl⟩) ac_int ⟨by decide, by decide, by decide⟩ ⟨by decide, by decide⟩ dX8_init_47 (fun H hR => ?_)
  refine x_putF C hR fo_X8_25 rfl hnm rfl fl_X8_25 rfl (show _ < _ ∧ _ from ⟨by omega, by decide +kernel⟩) dX8_init_49 (fun H locs hR => ?_)
  have hz1 := hz1.sr (a := 206) (k := 7) (v := some 212) (by omega)
  refine lv_aload_n hx hb dX8_init_52 rfl (lv_at hl 0 rfl) ?_
  refine lv_sipush (v := 1110) hx hb dX8_init_53 (by decide) ?_
  refine x_newa (atype := .int) (t0 := 0) (N := 1110) (n := 213) (n' := 214) C hR (hz1 213 (by omega)) ⟨by decide +kernel, by decide +kernel⟩ (by omega) (Or.inl ⟨rfl, rfl⟩) ac_int ⟨by decide, by decide, by decide⟩ ⟨by decide, by decide⟩ dX8_init_56 (fun H hR => ?_)
  refine x_putF C hR fo_X8_28 rfl hnm rfl fl_X8_28 rfl (show _ < _ ∧ _ from ⟨by omega, by decide +kernel⟩) dX8_init_58 (fun H locs hR => ?_)
  have hz1 := hz1.sr (a := 206) (k := 9) (v := some 213) (by omega)
  refine lv_aload_n hx hb dX8_init_61 rfl (lv_at hl 0 rfl) ?_
  refine lv_sipush (v := 240) hx hb dX8_init_62 (by decide) ?_
  refine x_newa (atype := .int) (t0 := 0) (N := 240) (n := 214) (n' := 215) C hR (hz1 214 (by omega)) ⟨by decide +kernel, by decide +kernel⟩ (by omega) (Or.inl ⟨rfl, rfl⟩) ac_int ⟨by decide, by decide, by decide⟩ ⟨by decide, by decide⟩ dX8_init_65 (fun H hR => ?_)
  refine x_putF C hR fo_X8_31 rfl hnm rfl fl_X8_31 rfl (show _ < _ ∧ _ from ⟨by omega, by decide +kernel⟩) dX8_init_67 (fun H locs hR => ?_)
  have hz1 := hz1.sr (a := 206) (k := 11) (v := some 214) (by omega)
  refine lv_aload_n hx hb dX8_init_70 rfl (lv_at hl 0 rfl) ?_
  refine lv_bipush (v := 8) hx hb dX8_init_71 (by decide) ?_
  refine x_newa (atype := .int) (t0 := 0) (N := 8) (n := 215) (n' := 216) C hR (hz1 215 (by omega)) ⟨by decide +kernel, by decide +kernel⟩ (by omega) (Or.inl ⟨rfl, rfl⟩) ac_int ⟨by decide, by decide, by decide⟩ ⟨by decide, by decide⟩ dX8_init_73 (fun H hR => ?_)
  refine x_putF C hR fo_X8_34 rfl hnm rfl fl_X8_34 rfl (show _ < _ ∧ _ from ⟨by omega, by decide +kernel⟩) dX8_init_75 (fun H locs hR => ?_)
  have hz1 := hz1.sr (a := 206) (k := 17) (v := some 215) (by omega)
  refine lv_aload_n hx hb dX8_init_78 rfl (lv_at hl 0 rfl) ?_
  refine lv_bipush (v := 9) hx hb dX8_init_79 (by decide) ?_
  refine x_newa (atype := .int) (t0 := 0) (N := 9) (n := 216) (n' := 217) C hR (hz1 216 (by omega)) ⟨by decide +kernel, by decide +kernel⟩ (by omega) (Or.inl ⟨rfl, rfl⟩) ac_int ⟨by decide, by decide, by decide⟩ ⟨by decide, by decide⟩ dX8_init_81 (fun H hR => ?_)
  refine x_putF C hR fo_X8_37 rfl hnm rfl fl_X8_37 rfl (show _ < _ ∧ _ from ⟨by omega, by decide +kernel⟩) dX8_init_83 (fun H locs hR => ?_)
  have hz1 := hz1.sr (a := 206) (k := 18) (v := some 216) (by omega)
  refine lv_aload_n hx hb dX8_init_86 rfl (lv_at hl 0 rfl) ?_
  refine lv_bipush (v := 10) hx hb dX8_init_87 (by decide) ?_
  refine x_newa (atype := .int) (t0 := 0) (N := 10) (n := 217) (n' := 218) C hR (hz1 217 (by omega)) ⟨by decide +kernel, by decide +kernel⟩ (by omega) (Or.inl ⟨rfl, rfl⟩) ac_int ⟨by decide, by decide, by decide⟩ ⟨by decide, by decide⟩ dX8_init_89 (fun H hR => ?_)
  refine x_putF C hR fo_X8_40 rfl hnm rfl fl_X8_40 rfl (show _ < _ ∧ _ from ⟨by omega, by decide +kernel⟩) dX8_init_91 (fun H locs hR => ?_)
  have hz1 := hz1.sr (a := 206) (k := 19) (v := some 217) (by omega)
  refine lv_aload_n hx hb dX8_init_94 rfl (lv_at hl 0 rfl) ?_
  refine lv_bipush (v := 10) hx hb dX8_init_95 (by decide) ?_
  refine x_newa (atype := .int) (t0 := 0) (N := 10) (n := 218) (n' := 219) C hR (hz1 218 (by omega)) ⟨by decide +kernel, by decide +kernel⟩ (by omega) (Or.inl ⟨rfl, rfl⟩) ac_int ⟨by decide, by decide, by decide⟩ ⟨by decide, by decide⟩ dX8_init_97 (fun H hR => ?_)
  refine x_putF C hR fo_X8_43 rfl hnm rfl fl_X8_43 rfl (show _ < _ ∧ _ from ⟨by omega, by decide +kernel⟩) dX8_init_99 (fun H locs hR => ?_)
  have hz1 := hz1.sr (a := 206) (k := 20) (v := some 218) (by omega)
  refine lv_aload_n hx hb dX8_init_102 rfl (lv_at hl 0 rfl) ?_
  refine lv_bipush (v := 60) hx hb dX8_init_103 (by decide) ?_
  refine x_newa (atype := .int) (t0 := 0) (N := 60) (n := 219) (n' := 220) C hR (hz1 219 (by omega)) ⟨by decide +kernel, by decide +kernel⟩ (by omega) (Or.inl ⟨rfl, rfl⟩) ac_int ⟨by decide, by decide, by decide⟩ ⟨by decide, by decide⟩ dX8_init_105 (fun H hR => ?_)
  refine x_putF C hR fo_X8_46 rfl hnm rfl fl_X8_46 rfl (show _ < _ ∧ _ from ⟨by omega, by decide +kernel⟩) dX8_init_107 (fun H locs hR => ?_)
  have hz1 := hz1.sr (a := 206) (k := 21) (v := some 219) (by omega)
  refine lv_aload_n hx hb dX8_init_110 rfl (lv_at hl 0 rfl) ?_
  refine lv_bipush (v := 13) hx hb dX8_init_111 (by decide) ?_
  refine x_newa (atype := .int) (t0 := 0) (N := 13) (n := 220) (n' := 221) C hR (hz1 220 (by omega)) ⟨by decide +kernel, by decide +kernel⟩ (by omega) (Or.inl ⟨rfl, rfl⟩) ac_int ⟨by decide, by decide, by decide⟩ ⟨by decide, by decide⟩ dX8_init_113 (fun H hR => ?_)
  refine x_putF C hR fo_X8_49 rfl hnm rfl fl_X8_49 rfl (show _ < _ ∧ _ from ⟨by omega, by decide +kernel⟩) dX8_init_115 (fun H locs hR => ?_)
  have hz1 := hz1.sr (a := 206) (k := 24) (v := some 220) (by omega)
  refine lv_aload_n hx hb dX8_init_118 rfl (lv_at hl 0 rfl) ?_
  refine lv_bipush (v := 8) hx hb dX8_init_119 (by decide) ?_
  refine x_newa (atype := .int) (t0 := 0) (N := 8) (n := 221) (n' := 222) C hR (hz1 221 (by omega)) ⟨by decide +kernel, by decide +kernel⟩ (by omega) (Or.inl ⟨rfl, rfl⟩) ac_int ⟨by decide, by decide, by decide⟩ ⟨by decide, by decide⟩ dX8_init_121 (fun H hR => ?_)
  refine x_putF C hR fo_X8_52 rfl hnm rfl fl_X8_52 rfl (show _ < _ ∧ _ from ⟨by omega, by decide +kernel⟩) dX8_init_123 (fun H locs hR => ?_)
  have hz1 := hz1.sr (a := 206) (k := 26) (v := some 221) (by omega)
  refine lv_aload_n hx hb dX8_init_126 rfl (lv_at hl 0 rfl) ?_
  refine lv_bipush (v := 13) hx hb dX8_init_127 (by decide) ?_
  refine x_newa (atype := .int) (t0 := 0) (N := 13) (n := 222) (n' := 223) C hR (hz1 222 (by omega)) ⟨by decide +kernel, by decide +kernel⟩ (by omega) (Or.inl ⟨rfl, rfl⟩) ac_int ⟨by decide, by decide, by decide⟩ ⟨by decide, by decide⟩ dX8_init_129 (fun H hR => ?_)
  refine x_putF C hR fo_X8_55 rfl hnm rfl fl_X8_55 rfl (show _ < _ ∧ _ from ⟨by omega, by decide +kernel⟩) dX8_init_131 (fun H locs hR => ?_)
  have hz1 := hz1.sr (a := 206) (k := 32) (v := some 222) (by omega)
  refine lv_aload_n hx hb dX8_init_134 rfl (lv_at hl 0 rfl) ?_
  refine lv_bipush (v := 18) hx hb dX8_init_135 (by decide) ?_
  refine x_newa (atype := .int) (t0 := 0) (N := 18) (n := 223) (n' := 224) C hR (hz1 223 (by omega)) ⟨by decide +kernel, by decide +kernel⟩ (by omega) (Or.inl ⟨rfl, rfl⟩) ac_int ⟨by decide, by decide, by decide⟩ ⟨by decide, by decide⟩ dX8_init_137 (fun H hR => ?_)
  refine x_putF C hR fo_X8_58 rfl hnm rfl fl_X8_58 rfl (show _ < _ ∧ _ from ⟨by omega, by decide +kernel⟩) dX8_init_139 (fun H locs hR => ?_)
  have hz1 := hz1.sr (a := 206) (k := 33) (v := some 223) (by omega)
  refine lv_aload_n hx hb dX8_init_142 rfl (lv_at hl 0 rfl) ?_
  refine lv_bipush (v := 40) hx hb dX8_init_143 (by decide) ?_
  refine x_newa (atype := .int) (t0 := 0) (N := 40) (n := 224) (n' := 225) C hR (hz1 224 (by omega)) ⟨by decide +kernel, by decide +kernel⟩ (by omega) (Or.inl ⟨rfl, rfl⟩) ac_int ⟨by decide, by decide, by decide⟩ ⟨by decide, by decide⟩ dX8_init_145 (fun H hR => ?_)
  refine x_putF C hR fo_X8_61 rfl hnm rfl fl_X8_61 rfl (show _ < _ ∧ _ from ⟨by omega, by decide +kernel⟩) dX8_init_147 (fun H locs hR => ?_)
  have hz1 := hz1.sr (a := 206) (k := 35) (v := some 224) (by omega)
  refine lv_aload_n hx hb dX8_init_150 rfl (lv_at hl 0 rfl) ?_
  refine lv_bipush (v := 76) hx hb dX8_init_151 (by decide) ?_
  refine x_newa (atype := .int) (t0 := 0) (N := 76) (n := 225) (n' := 226) C hR (hz1 225 (by omega)) ⟨by decide +kernel, by decide +kernel⟩ (by omega) (Or.inl ⟨rfl, rfl⟩) ac_int ⟨by decide, by decide, by decide⟩ ⟨by decide, by decide⟩ dX8_init_153 (fun H hR => ?_)
  refine x_putF C hR fo_X8_64 rfl hnm rfl fl_X8_64 rfl (show _ < _ ∧ _ from ⟨by omega, by decide +kernel⟩) dX8_init_155 (fun H locs hR => ?_)
  have hz1 := hz1.sr (a := 206) (k := 37) (v := some 225) (by omega)
  refine lv_aload_n hx hb dX8_init_158 rfl (lv_at hl 0 rfl) ?_
  refine lv_iconst (v := 2) hx hb dX8_init_159 (by decide) ?_
  refine x_newa (atype := .boolean) (t0 := 0) (N := 2) (n := 226) (n' := 227) C hR (hz1 226 (by omega)) ⟨by decide +kernel, by decide +kernel⟩ (by omega) (Or.inr (Or.inr ⟨rfl, rfl⟩)) ac_boolean ⟨by decide, by decide, by decide⟩ ⟨by decide, by decide⟩ dX8_init_160 (fun H hR => ?_)
  refine x_putF C hR fo_X8_67 rfl hnm rfl fl_X8_67 rfl (show _ < _ ∧ _ from ⟨by omega, by decide +kernel⟩) dX8_init_162 (fun H locs hR => ?_)
  have hz1 := hz1.sr (a := 206) (k := 38) (v := some 226) (by omega)
  refine lv_aload_n hx hb dX8_init_165 rfl (lv_at hl 0 rfl) ?_
  refine lv_iconst (v := (-1)) hx hb dX8_init_166 (by decide) ?_
  refine x_puti C hR fo_X8_71 rfl rfl (show _ < _ ∧ _ from ⟨by omega, by decide +kernel⟩) dX8_init_167 (fun H locs hR => ?_)
  have hz1 := hz1.st (a := 206) (k := 14) (v := (-1)) (by omega)
  exact x_vret C hR hr hlk dX8_init_170
end
