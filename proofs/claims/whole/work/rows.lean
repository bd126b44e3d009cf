section
-- ===== PART A: goes FIRST, ahead of the names: the tables' words, and 'selects' of the private methods out of them =====
/-- a private method of a class that the tables say can be made, by its rows of tables_1 -/
def lw_okq (q : MethodName × Nat) : Prop := (q.1.cls ≠ "java/lang/invoke/MethodHandle" ∧ q.1.cls ≠ "java/lang/invoke/VarHandle") ∧ Cond.instantiable q.1.cls q.2 ∈ tables_1 ∧ Cond.privateMethod q.1 ∈ tables_1 ∧ Cond.instanceMethod q.1 ∈ tables_1
theorem lw_p0 : lw_okq (⟨"LetterTray$Reader", "append", "(I)Z"⟩, 5) := ⟨⟨by decide +kernel, by decide +kernel⟩, List.mem_of_getElem? (i := 23) (by decide +kernel), List.mem_of_getElem? (i := 283) (by decide +kernel), List.mem_of_getElem? (i := 284) (by decide +kernel)⟩
theorem lw_p1 : lw_okq (⟨"LetterTray$Reader", "read", "(LLetterTray$Words;)I"⟩, 5) := ⟨⟨by decide +kernel, by decide +kernel⟩, List.mem_of_getElem? (i := 23) (by decide +kernel), List.mem_of_getElem? (i := 292) (by decide +kernel), List.mem_of_getElem? (i := 293) (by decide +kernel)⟩
theorem lw_p2 : lw_okq (⟨"LetterTray$Words", "clear", "()V"⟩, 13) := ⟨⟨by decide +kernel, by decide +kernel⟩, List.mem_of_getElem? (i := 157) (by decide +kernel), List.mem_of_getElem? (i := 296) (by decide +kernel), List.mem_of_getElem? (i := 297) (by decide +kernel)⟩
theorem lw_p3 : lw_okq (⟨"LetterTray$Reader", "skipSpaces", "()V"⟩, 5) := ⟨⟨by decide +kernel, by decide +kernel⟩, List.mem_of_getElem? (i := 23) (by decide +kernel), List.mem_of_getElem? (i := 303) (by decide +kernel), List.mem_of_getElem? (i := 304) (by decide +kernel)⟩
theorem lw_p4 : lw_okq (⟨"LetterTray$Reader", "readClause", "(LLetterTray$Words;)V"⟩, 5) := ⟨⟨by decide +kernel, by decide +kernel⟩, List.mem_of_getElem? (i := 23) (by decide +kernel), List.mem_of_getElem? (i := 307) (by decide +kernel), List.mem_of_getElem? (i := 308) (by decide +kernel)⟩
theorem lw_p5 : lw_okq (⟨"LetterTray$Reader", "stands", "(C)Z"⟩, 5) := ⟨⟨by decide +kernel, by decide +kernel⟩, List.mem_of_getElem? (i := 23) (by decide +kernel), List.mem_of_getElem? (i := 311) (by decide +kernel), List.mem_of_getElem? (i := 312) (by decide +kernel)⟩
theorem lw_p6 : lw_okq (⟨"LetterTray$Reader", "startClause", "(Z)V"⟩, 5) := ⟨⟨by decide +kernel, by decide +kernel⟩, List.mem_of_getElem? (i := 23) (by decide +kernel), List.mem_of_getElem? (i := 315) (by decide +kernel), List.mem_of_getElem? (i := 316) (by decide +kernel)⟩
theorem lw_p7 : lw_okq (⟨"LetterTray$Reader", "fail", "(II)V"⟩, 5) := ⟨⟨by decide +kernel, by decide +kernel⟩, List.mem_of_getElem? (i := 23) (by decide +kernel), List.mem_of_getElem? (i := 319) (by decide +kernel), List.mem_of_getElem? (i := 320) (by decide +kernel)⟩
theorem lw_p8 : lw_okq (⟨"LetterTray$Reader", "readValues", "(LLetterTray$Words;)V"⟩, 5) := ⟨⟨by decide +kernel, by decide +kernel⟩, List.mem_of_getElem? (i := 23) (by decide +kernel), List.mem_of_getElem? (i := 323) (by decide +kernel), List.mem_of_getElem? (i := 324) (by decide +kernel)⟩
theorem lw_p9 : lw_okq (⟨"LetterTray$Reader", "readNumber", "(II)I"⟩, 5) := ⟨⟨by decide +kernel, by decide +kernel⟩, List.mem_of_getElem? (i := 23) (by decide +kernel), List.mem_of_getElem? (i := 327) (by decide +kernel), List.mem_of_getElem? (i := 328) (by decide +kernel)⟩
theorem lw_p10 : lw_okq (⟨"LetterTray$Reader", "pass", "(C)V"⟩, 5) := ⟨⟨by decide +kernel, by decide +kernel⟩, List.mem_of_getElem? (i := 23) (by decide +kernel), List.mem_of_getElem? (i := 334) (by decide +kernel), List.mem_of_getElem? (i := 335) (by decide +kernel)⟩
theorem lw_p11 : lw_okq (⟨"LetterTray$Reader", "readBag", "(LLetterTray$Words;)V"⟩, 5) := ⟨⟨by decide +kernel, by decide +kernel⟩, List.mem_of_getElem? (i := 23) (by decide +kernel), List.mem_of_getElem? (i := 338) (by decide +kernel), List.mem_of_getElem? (i := 339) (by decide +kernel)⟩
theorem lw_p12 : lw_okq (⟨"LetterTray$Reader", "sortHere", "()I"⟩, 5) := ⟨⟨by decide +kernel, by decide +kernel⟩, List.mem_of_getElem? (i := 23) (by decide +kernel), List.mem_of_getElem? (i := 342) (by decide +kernel), List.mem_of_getElem? (i := 343) (by decide +kernel)⟩
theorem lw_p13 : lw_okq (⟨"LetterTray$Reader", "endLetters", "(I)V"⟩, 5) := ⟨⟨by decide +kernel, by decide +kernel⟩, List.mem_of_getElem? (i := 23) (by decide +kernel), List.mem_of_getElem? (i := 346) (by decide +kernel), List.mem_of_getElem? (i := 347) (by decide +kernel)⟩
theorem lw_p14 : lw_okq (⟨"LetterTray$Reader", "readWord", "(LLetterTray$Words;)V"⟩, 5) := ⟨⟨by decide +kernel, by decide +kernel⟩, List.mem_of_getElem? (i := 23) (by decide +kernel), List.mem_of_getElem? (i := 350) (by decide +kernel), List.mem_of_getElem? (i := 351) (by decide +kernel)⟩
theorem lw_p15 : lw_okq (⟨"LetterTray$Reader", "endWord", "(LLetterTray$Words;II)V"⟩, 5) := ⟨⟨by decide +kernel, by decide +kernel⟩, List.mem_of_getElem? (i := 23) (by decide +kernel), List.mem_of_getElem? (i := 354) (by decide +kernel), List.mem_of_getElem? (i := 355) (by decide +kernel)⟩
def lw_privs_1 : List (MethodName × Nat) := [(⟨"LetterTray$Reader", "append", "(I)Z"⟩, 5), (⟨"LetterTray$Reader", "read", "(LLetterTray$Words;)I"⟩, 5), (⟨"LetterTray$Words", "clear", "()V"⟩, 13), (⟨"LetterTray$Reader", "skipSpaces", "()V"⟩, 5), (⟨"LetterTray$Reader", "readClause", "(LLetterTray$Words;)V"⟩, 5), (⟨"LetterTray$Reader", "stands", "(C)Z"⟩, 5), (⟨"LetterTray$Reader", "startClause", "(Z)V"⟩, 5), (⟨"LetterTray$Reader", "fail", "(II)V"⟩, 5), (⟨"LetterTray$Reader", "readValues", "(LLetterTray$Words;)V"⟩, 5), (⟨"LetterTray$Reader", "readNumber", "(II)I"⟩, 5), (⟨"LetterTray$Reader", "pass", "(C)V"⟩, 5), (⟨"LetterTray$Reader", "readBag", "(LLetterTray$Words;)V"⟩, 5), (⟨"LetterTray$Reader", "sortHere", "()I"⟩, 5), (⟨"LetterTray$Reader", "endLetters", "(I)V"⟩, 5), (⟨"LetterTray$Reader", "readWord", "(LLetterTray$Words;)V"⟩, 5), (⟨"LetterTray$Reader", "endWord", "(LLetterTray$Words;II)V"⟩, 5)]
theorem lw_r1 : ∀ q ∈ lw_privs_1, lw_okq q := List.forall_mem_cons.mpr ⟨lw_p0, List.forall_mem_cons.mpr ⟨lw_p1, List.forall_mem_cons.mpr ⟨lw_p2, List.forall_mem_cons.mpr ⟨lw_p3, List.forall_mem_cons.mpr ⟨lw_p4, List.forall_mem_cons.mpr ⟨lw_p5, List.forall_mem_cons.mpr ⟨lw_p6, List.forall_mem_cons.mpr ⟨lw_p7, List.forall_mem_cons.mpr ⟨lw_p8, List.forall_mem_cons.mpr ⟨lw_p9, List.forall_mem_cons.mpr ⟨lw_p10, List.forall_mem_cons.mpr ⟨lw_p11, List.forall_mem_cons.mpr ⟨lw_p12, List.forall_mem_cons.mpr ⟨lw_p13, List.forall_mem_cons.mpr ⟨lw_p14, List.forall_mem_cons.mpr ⟨lw_p15, fun _ h => absurd h List.not_mem_nil⟩⟩⟩⟩⟩⟩⟩⟩⟩⟩⟩⟩⟩⟩⟩⟩
theorem lw_p16 : lw_okq (⟨"LetterTray$Words", "add", "(II)Z"⟩, 13) := ⟨⟨by decide +kernel, by decide +kernel⟩, List.mem_of_getElem? (i := 157) (by decide +kernel), List.mem_of_getElem? (i := 358) (by decide +kernel), List.mem_of_getElem? (i := 359) (by decide +kernel)⟩
theorem lw_p17 : lw_okq (⟨"LetterTray$Words", "samePlaces", "(II)I"⟩, 13) := ⟨⟨by decide +kernel, by decide +kernel⟩, List.mem_of_getElem? (i := 157) (by decide +kernel), List.mem_of_getElem? (i := 362) (by decide +kernel), List.mem_of_getElem? (i := 363) (by decide +kernel)⟩
theorem lw_p18 : lw_okq (⟨"LetterTray$Words", "spell", "(II)V"⟩, 13) := ⟨⟨by decide +kernel, by decide +kernel⟩, List.mem_of_getElem? (i := 157) (by decide +kernel), List.mem_of_getElem? (i := 366) (by decide +kernel), List.mem_of_getElem? (i := 367) (by decide +kernel)⟩
theorem lw_p19 : lw_okq (⟨"LetterTray$Words", "prepare", "()V"⟩, 13) := ⟨⟨by decide +kernel, by decide +kernel⟩, List.mem_of_getElem? (i := 157) (by decide +kernel), List.mem_of_getElem? (i := 370) (by decide +kernel), List.mem_of_getElem? (i := 371) (by decide +kernel)⟩
theorem lw_p20 : lw_okq (⟨"LetterTray$Words", "countNeeds", "(I)V"⟩, 13) := ⟨⟨by decide +kernel, by decide +kernel⟩, List.mem_of_getElem? (i := 157) (by decide +kernel), List.mem_of_getElem? (i := 374) (by decide +kernel), List.mem_of_getElem? (i := 375) (by decide +kernel)⟩
theorem lw_p21 : lw_okq (⟨"LetterTray$Words", "letterAt", "(II)I"⟩, 13) := ⟨⟨by decide +kernel, by decide +kernel⟩, List.mem_of_getElem? (i := 157) (by decide +kernel), List.mem_of_getElem? (i := 378) (by decide +kernel), List.mem_of_getElem? (i := 379) (by decide +kernel)⟩
theorem lw_p22 : lw_okq (⟨"LetterTray$Words", "worthOf", "(I)I"⟩, 13) := ⟨⟨by decide +kernel, by decide +kernel⟩, List.mem_of_getElem? (i := 157) (by decide +kernel), List.mem_of_getElem? (i := 382) (by decide +kernel), List.mem_of_getElem? (i := 383) (by decide +kernel)⟩
theorem lw_p23 : lw_okq (⟨"LetterTray$Words", "needOf", "(II)I"⟩, 13) := ⟨⟨by decide +kernel, by decide +kernel⟩, List.mem_of_getElem? (i := 157) (by decide +kernel), List.mem_of_getElem? (i := 386) (by decide +kernel), List.mem_of_getElem? (i := 387) (by decide +kernel)⟩
theorem lw_p24 : lw_okq (⟨"LetterTray$Words", "isMirror", "(I)Z"⟩, 13) := ⟨⟨by decide +kernel, by decide +kernel⟩, List.mem_of_getElem? (i := 157) (by decide +kernel), List.mem_of_getElem? (i := 390) (by decide +kernel), List.mem_of_getElem? (i := 391) (by decide +kernel)⟩
theorem lw_p25 : lw_okq (⟨"LetterTray$Words", "inBoth", "(II)I"⟩, 13) := ⟨⟨by decide +kernel, by decide +kernel⟩, List.mem_of_getElem? (i := 157) (by decide +kernel), List.mem_of_getElem? (i := 394) (by decide +kernel), List.mem_of_getElem? (i := 395) (by decide +kernel)⟩
theorem lw_p26 : lw_okq (⟨"LetterTray$Words", "isStep", "(II)Z"⟩, 13) := ⟨⟨by decide +kernel, by decide +kernel⟩, List.mem_of_getElem? (i := 157) (by decide +kernel), List.mem_of_getElem? (i := 399) (by decide +kernel), List.mem_of_getElem? (i := 400) (by decide +kernel)⟩
theorem lw_p27 : lw_okq (⟨"LetterTray$Words", "areKin", "(II)Z"⟩, 13) := ⟨⟨by decide +kernel, by decide +kernel⟩, List.mem_of_getElem? (i := 157) (by decide +kernel), List.mem_of_getElem? (i := 403) (by decide +kernel), List.mem_of_getElem? (i := 404) (by decide +kernel)⟩
theorem lw_p28 : lw_okq (⟨"LetterTray$Words", "isLonger", "(II)Z"⟩, 13) := ⟨⟨by decide +kernel, by decide +kernel⟩, List.mem_of_getElem? (i := 157) (by decide +kernel), List.mem_of_getElem? (i := 407) (by decide +kernel), List.mem_of_getElem? (i := 408) (by decide +kernel)⟩
theorem lw_p29 : lw_okq (⟨"LetterTray$Words", "joinSteps", "()V"⟩, 13) := ⟨⟨by decide +kernel, by decide +kernel⟩, List.mem_of_getElem? (i := 157) (by decide +kernel), List.mem_of_getElem? (i := 411) (by decide +kernel), List.mem_of_getElem? (i := 412) (by decide +kernel)⟩
theorem lw_p30 : lw_okq (⟨"LetterTray", "begin", "()V"⟩, 10) := ⟨⟨by decide +kernel, by decide +kernel⟩, List.mem_of_getElem? (i := 15) (by decide +kernel), List.mem_of_getElem? (i := 415) (by decide +kernel), List.mem_of_getElem? (i := 416) (by decide +kernel)⟩
theorem lw_p31 : lw_okq (⟨"LetterTray$Desk", "clear", "([I)V"⟩, 7) := ⟨⟨by decide +kernel, by decide +kernel⟩, List.mem_of_getElem? (i := 48) (by decide +kernel), List.mem_of_getElem? (i := 419) (by decide +kernel), List.mem_of_getElem? (i := 420) (by decide +kernel)⟩
def lw_privs_2 : List (MethodName × Nat) := [(⟨"LetterTray$Words", "add", "(II)Z"⟩, 13), (⟨"LetterTray$Words", "samePlaces", "(II)I"⟩, 13), (⟨"LetterTray$Words", "spell", "(II)V"⟩, 13), (⟨"LetterTray$Words", "prepare", "()V"⟩, 13), (⟨"LetterTray$Words", "countNeeds", "(I)V"⟩, 13), (⟨"LetterTray$Words", "letterAt", "(II)I"⟩, 13), (⟨"LetterTray$Words", "worthOf", "(I)I"⟩, 13), (⟨"LetterTray$Words", "needOf", "(II)I"⟩, 13), (⟨"LetterTray$Words", "isMirror", "(I)Z"⟩, 13), (⟨"LetterTray$Words", "inBoth", "(II)I"⟩, 13), (⟨"LetterTray$Words", "isStep", "(II)Z"⟩, 13), (⟨"LetterTray$Words", "areKin", "(II)Z"⟩, 13), (⟨"LetterTray$Words", "isLonger", "(II)Z"⟩, 13), (⟨"LetterTray$Words", "joinSteps", "()V"⟩, 13), (⟨"LetterTray", "begin", "()V"⟩, 10), (⟨"LetterTray$Desk", "clear", "([I)V"⟩, 7)]
theorem lw_r2 : ∀ q ∈ lw_privs_2, lw_okq q := List.forall_mem_cons.mpr ⟨lw_p16, List.forall_mem_cons.mpr ⟨lw_p17, List.forall_mem_cons.mpr ⟨lw_p18, List.forall_mem_cons.mpr ⟨lw_p19, List.forall_mem_cons.mpr ⟨lw_p20, List.forall_mem_cons.mpr ⟨lw_p21, List.forall_mem_cons.mpr ⟨lw_p22, List.forall_mem_cons.mpr ⟨lw_p23, List.forall_mem_cons.mpr ⟨lw_p24, List.forall_mem_cons.mpr ⟨lw_p25, List.forall_mem_cons.mpr ⟨lw_p26, List.forall_mem_cons.mpr ⟨lw_p27, List.forall_mem_cons.mpr ⟨lw_p28, List.forall_mem_cons.mpr ⟨lw_p29, List.forall_mem_cons.mpr ⟨lw_p30, List.forall_mem_cons.mpr ⟨lw_p31, fun _ h => absurd h List.not_mem_nil⟩⟩⟩⟩⟩⟩⟩⟩⟩⟩⟩⟩⟩⟩⟩⟩
theorem lw_p32 : lw_okq (⟨"LetterTray$History", "clear", "()V"⟩, 3) := ⟨⟨by decide +kernel, by decide +kernel⟩, List.mem_of_getElem? (i := 85) (by decide +kernel), List.mem_of_getElem? (i := 427) (by decide +kernel), List.mem_of_getElem? (i := 428) (by decide +kernel)⟩
theorem lw_p33 : lw_okq (⟨"LetterTray$Rows", "forget", "()V"⟩, 7) := ⟨⟨by decide +kernel, by decide +kernel⟩, List.mem_of_getElem? (i := 219) (by decide +kernel), List.mem_of_getElem? (i := 431) (by decide +kernel), List.mem_of_getElem? (i := 432) (by decide +kernel)⟩
theorem lw_p34 : lw_okq (⟨"LetterTray$Talk", "clear", "()V"⟩, 7) := ⟨⟨by decide +kernel, by decide +kernel⟩, List.mem_of_getElem? (i := 127) (by decide +kernel), List.mem_of_getElem? (i := 435) (by decide +kernel), List.mem_of_getElem? (i := 436) (by decide +kernel)⟩
theorem lw_p35 : lw_okq (⟨"LetterTray", "canSet", "()I"⟩, 10) := ⟨⟨by decide +kernel, by decide +kernel⟩, List.mem_of_getElem? (i := 15) (by decide +kernel), List.mem_of_getElem? (i := 450) (by decide +kernel), List.mem_of_getElem? (i := 451) (by decide +kernel)⟩
theorem lw_p36 : lw_okq (⟨"LetterTray", "can", "(I)Z"⟩, 10) := ⟨⟨by decide +kernel, by decide +kernel⟩, List.mem_of_getElem? (i := 15) (by decide +kernel), List.mem_of_getElem? (i := 454) (by decide +kernel), List.mem_of_getElem? (i := 455) (by decide +kernel)⟩
theorem lw_p37 : lw_okq (⟨"LetterTray", "missing", "(I)I"⟩, 10) := ⟨⟨by decide +kernel, by decide +kernel⟩, List.mem_of_getElem? (i := 15) (by decide +kernel), List.mem_of_getElem? (i := 458) (by decide +kernel), List.mem_of_getElem? (i := 459) (by decide +kernel)⟩
theorem lw_p38 : lw_okq (⟨"LetterTray", "bestWord", "()I"⟩, 10) := ⟨⟨by decide +kernel, by decide +kernel⟩, List.mem_of_getElem? (i := 15) (by decide +kernel), List.mem_of_getElem? (i := 466) (by decide +kernel), List.mem_of_getElem? (i := 467) (by decide +kernel)⟩
theorem lw_p39 : lw_okq (⟨"LetterTray", "tried", "()LLetterTray$Rows;"⟩, 10) := ⟨⟨by decide +kernel, by decide +kernel⟩, List.mem_of_getElem? (i := 15) (by decide +kernel), List.mem_of_getElem? (i := 470) (by decide +kernel), List.mem_of_getElem? (i := 471) (by decide +kernel)⟩
theorem lw_p40 : lw_okq (⟨"LetterTray$Rows", "tryOut", "(LLetterTray$Words;[I)V"⟩, 7) := ⟨⟨by decide +kernel, by decide +kernel⟩, List.mem_of_getElem? (i := 219) (by decide +kernel), List.mem_of_getElem? (i := 474) (by decide +kernel), List.mem_of_getElem? (i := 475) (by decide +kernel)⟩
theorem lw_p41 : lw_okq (⟨"LetterTray$Rows", "isTray", "([I)Z"⟩, 7) := ⟨⟨by decide +kernel, by decide +kernel⟩, List.mem_of_getElem? (i := 219) (by decide +kernel), List.mem_of_getElem? (i := 478) (by decide +kernel), List.mem_of_getElem? (i := 479) (by decide +kernel)⟩
theorem lw_p42 : lw_okq (⟨"LetterTray$Rows", "countRests", "()V"⟩, 7) := ⟨⟨by decide +kernel, by decide +kernel⟩, List.mem_of_getElem? (i := 219) (by decide +kernel), List.mem_of_getElem? (i := 483) (by decide +kernel), List.mem_of_getElem? (i := 484) (by decide +kernel)⟩
theorem lw_p43 : lw_okq (⟨"LetterTray$Rows", "countWays", "()V"⟩, 7) := ⟨⟨by decide +kernel, by decide +kernel⟩, List.mem_of_getElem? (i := 219) (by decide +kernel), List.mem_of_getElem? (i := 488) (by decide +kernel), List.mem_of_getElem? (i := 489) (by decide +kernel)⟩
theorem lw_p44 : lw_okq (⟨"LetterTray$Rows", "after", "(II)I"⟩, 7) := ⟨⟨by decide +kernel, by decide +kernel⟩, List.mem_of_getElem? (i := 219) (by decide +kernel), List.mem_of_getElem? (i := 493) (by decide +kernel), List.mem_of_getElem? (i := 494) (by decide +kernel)⟩
theorem lw_p45 : lw_okq (⟨"LetterTray$Rows", "countIn", "(II)I"⟩, 7) := ⟨⟨by decide +kernel, by decide +kernel⟩, List.mem_of_getElem? (i := 219) (by decide +kernel), List.mem_of_getElem? (i := 497) (by decide +kernel), List.mem_of_getElem? (i := 498) (by decide +kernel)⟩
theorem lw_p46 : lw_okq (⟨"LetterTray$Rows", "rankRests", "()V"⟩, 7) := ⟨⟨by decide +kernel, by decide +kernel⟩, List.mem_of_getElem? (i := 219) (by decide +kernel), List.mem_of_getElem? (i := 502) (by decide +kernel), List.mem_of_getElem? (i := 503) (by decide +kernel)⟩
theorem lw_p47 : lw_okq (⟨"LetterTray$Rows", "rankWith", "(II)I"⟩, 7) := ⟨⟨by decide +kernel, by decide +kernel⟩, List.mem_of_getElem? (i := 219) (by decide +kernel), List.mem_of_getElem? (i := 506) (by decide +kernel), List.mem_of_getElem? (i := 507) (by decide +kernel)⟩
def lw_privs_3 : List (MethodName × Nat) := [(⟨"LetterTray$History", "clear", "()V"⟩, 3), (⟨"LetterTray$Rows", "forget", "()V"⟩, 7), (⟨"LetterTray$Talk", "clear", "()V"⟩, 7), (⟨"LetterTray", "canSet", "()I"⟩, 10), (⟨"LetterTray", "can", "(I)Z"⟩, 10), (⟨"LetterTray", "missing", "(I)I"⟩, 10), (⟨"LetterTray", "bestWord", "()I"⟩, 10), (⟨"LetterTray", "tried", "()LLetterTray$Rows;"⟩, 10), (⟨"LetterTray$Rows", "tryOut", "(LLetterTray$Words;[I)V"⟩, 7), (⟨"LetterTray$Rows", "isTray", "([I)Z"⟩, 7), (⟨"LetterTray$Rows", "countRests", "()V"⟩, 7), (⟨"LetterTray$Rows", "countWays", "()V"⟩, 7), (⟨"LetterTray$Rows", "after", "(II)I"⟩, 7), (⟨"LetterTray$Rows", "countIn", "(II)I"⟩, 7), (⟨"LetterTray$Rows", "rankRests", "()V"⟩, 7), (⟨"LetterTray$Rows", "rankWith", "(II)I"⟩, 7)]
theorem lw_r3 : ∀ q ∈ lw_privs_3, lw_okq q := List.forall_mem_cons.mpr ⟨lw_p32, List.forall_mem_cons.mpr ⟨lw_p33, List.forall_mem_cons.mpr ⟨lw_p34, List.forall_mem_cons.mpr ⟨lw_p35, List.forall_mem_cons.mpr ⟨lw_p36, List.forall_mem_cons.mpr ⟨lw_p37, List.forall_mem_cons.mpr ⟨lw_p38, List.forall_mem_cons.mpr ⟨lw_p39, List.forall_mem_cons.mpr ⟨lw_p40, List.forall_mem_cons.mpr ⟨lw_p41, List.forall_mem_cons.mpr ⟨lw_p42, List.forall_mem_cons.mpr ⟨lw_p43, List.forall_mem_cons.mpr ⟨lw_p44, List.forall_mem_cons.mpr ⟨lw_p45, List.forall_mem_cons.mpr ⟨lw_p46, List.forall_mem_cons.mpr ⟨lw_p47, fun _ h => absurd h List.not_mem_nil⟩⟩⟩⟩⟩⟩⟩⟩⟩⟩⟩⟩⟩⟩⟩⟩
theorem lw_p48 : lw_okq (⟨"LetterTray$Rows", "all", "()I"⟩, 7) := ⟨⟨by decide +kernel, by decide +kernel⟩, List.mem_of_getElem? (i := 219) (by decide +kernel), List.mem_of_getElem? (i := 511) (by decide +kernel), List.mem_of_getElem? (i := 512) (by decide +kernel)⟩
theorem lw_p49 : lw_okq (⟨"LetterTray$Rows", "most", "()I"⟩, 7) := ⟨⟨by decide +kernel, by decide +kernel⟩, List.mem_of_getElem? (i := 219) (by decide +kernel), List.mem_of_getElem? (i := 515) (by decide +kernel), List.mem_of_getElem? (i := 516) (by decide +kernel)⟩
theorem lw_p50 : lw_okq (⟨"LetterTray$Rows", "many", "()I"⟩, 7) := ⟨⟨by decide +kernel, by decide +kernel⟩, List.mem_of_getElem? (i := 219) (by decide +kernel), List.mem_of_getElem? (i := 519) (by decide +kernel), List.mem_of_getElem? (i := 520) (by decide +kernel)⟩
theorem lw_p51 : lw_okq (⟨"LetterTray$Words", "unused", "()I"⟩, 13) := ⟨⟨by decide +kernel, by decide +kernel⟩, List.mem_of_getElem? (i := 157) (by decide +kernel), List.mem_of_getElem? (i := 524) (by decide +kernel), List.mem_of_getElem? (i := 525) (by decide +kernel)⟩
theorem lw_p52 : lw_okq (⟨"LetterTray$Words", "farthest", "()I"⟩, 13) := ⟨⟨by decide +kernel, by decide +kernel⟩, List.mem_of_getElem? (i := 157) (by decide +kernel), List.mem_of_getElem? (i := 528) (by decide +kernel), List.mem_of_getElem? (i := 529) (by decide +kernel)⟩
theorem lw_p53 : lw_okq (⟨"LetterTray$Words", "stepsTo", "(II)I"⟩, 13) := ⟨⟨by decide +kernel, by decide +kernel⟩, List.mem_of_getElem? (i := 157) (by decide +kernel), List.mem_of_getElem? (i := 532) (by decide +kernel), List.mem_of_getElem? (i := 533) (by decide +kernel)⟩
theorem lw_p54 : lw_okq (⟨"LetterTray$Words", "has", "(I)Z"⟩, 13) := ⟨⟨by decide +kernel, by decide +kernel⟩, List.mem_of_getElem? (i := 157) (by decide +kernel), List.mem_of_getElem? (i := 536) (by decide +kernel), List.mem_of_getElem? (i := 537) (by decide +kernel)⟩
theorem lw_p55 : lw_okq (⟨"LetterTray$Words", "kinOf", "(I)I"⟩, 13) := ⟨⟨by decide +kernel, by decide +kernel⟩, List.mem_of_getElem? (i := 157) (by decide +kernel), List.mem_of_getElem? (i := 551) (by decide +kernel), List.mem_of_getElem? (i := 552) (by decide +kernel)⟩
theorem lw_p56 : lw_okq (⟨"LetterTray$Words", "insideOf", "(I)I"⟩, 13) := ⟨⟨by decide +kernel, by decide +kernel⟩, List.mem_of_getElem? (i := 157) (by decide +kernel), List.mem_of_getElem? (i := 555) (by decide +kernel), List.mem_of_getElem? (i := 556) (by decide +kernel)⟩
theorem lw_p57 : lw_okq (⟨"LetterTray", "odds", "(I)I"⟩, 10) := ⟨⟨by decide +kernel, by decide +kernel⟩, List.mem_of_getElem? (i := 15) (by decide +kernel), List.mem_of_getElem? (i := 559) (by decide +kernel), List.mem_of_getElem? (i := 560) (by decide +kernel)⟩
theorem lw_p58 : lw_okq (⟨"LetterTray$Desk", "hasLaid", "(I)Z"⟩, 7) := ⟨⟨by decide +kernel, by decide +kernel⟩, List.mem_of_getElem? (i := 48) (by decide +kernel), List.mem_of_getElem? (i := 572) (by decide +kernel), List.mem_of_getElem? (i := 573) (by decide +kernel)⟩
theorem lw_p59 : lw_okq (⟨"LetterTray", "drawRefusal", "()I"⟩, 10) := ⟨⟨by decide +kernel, by decide +kernel⟩, List.mem_of_getElem? (i := 15) (by decide +kernel), List.mem_of_getElem? (i := 580) (by decide +kernel), List.mem_of_getElem? (i := 581) (by decide +kernel)⟩
theorem lw_p60 : lw_okq (⟨"LetterTray$History", "push", "(LLetterTray$Desk;)V"⟩, 3) := ⟨⟨by decide +kernel, by decide +kernel⟩, List.mem_of_getElem? (i := 85) (by decide +kernel), List.mem_of_getElem? (i := 586) (by decide +kernel), List.mem_of_getElem? (i := 587) (by decide +kernel)⟩
theorem lw_p61 : lw_okq (⟨"LetterTray$Desk", "become", "(LLetterTray$Desk;)V"⟩, 7) := ⟨⟨by decide +kernel, by decide +kernel⟩, List.mem_of_getElem? (i := 48) (by decide +kernel), List.mem_of_getElem? (i := 590) (by decide +kernel), List.mem_of_getElem? (i := 591) (by decide +kernel)⟩
theorem lw_p62 : lw_okq (⟨"LetterTray", "drawOne", "()I"⟩, 10) := ⟨⟨by decide +kernel, by decide +kernel⟩, List.mem_of_getElem? (i := 15) (by decide +kernel), List.mem_of_getElem? (i := 595) (by decide +kernel), List.mem_of_getElem? (i := 596) (by decide +kernel)⟩
theorem lw_p63 : lw_okq (⟨"LetterTray", "drawOf", "(I)I"⟩, 10) := ⟨⟨by decide +kernel, by decide +kernel⟩, List.mem_of_getElem? (i := 15) (by decide +kernel), List.mem_of_getElem? (i := 599) (by decide +kernel), List.mem_of_getElem? (i := 600) (by decide +kernel)⟩
def lw_privs_4 : List (MethodName × Nat) := [(⟨"LetterTray$Rows", "all", "()I"⟩, 7), (⟨"LetterTray$Rows", "most", "()I"⟩, 7), (⟨"LetterTray$Rows", "many", "()I"⟩, 7), (⟨"LetterTray$Words", "unused", "()I"⟩, 13), (⟨"LetterTray$Words", "farthest", "()I"⟩, 13), (⟨"LetterTray$Words", "stepsTo", "(II)I"⟩, 13), (⟨"LetterTray$Words", "has", "(I)Z"⟩, 13), (⟨"LetterTray$Words", "kinOf", "(I)I"⟩, 13), (⟨"LetterTray$Words", "insideOf", "(I)I"⟩, 13), (⟨"LetterTray", "odds", "(I)I"⟩, 10), (⟨"LetterTray$Desk", "hasLaid", "(I)Z"⟩, 7), (⟨"LetterTray", "drawRefusal", "()I"⟩, 10), (⟨"LetterTray$History", "push", "(LLetterTray$Desk;)V"⟩, 3), (⟨"LetterTray$Desk", "become", "(LLetterTray$Desk;)V"⟩, 7), (⟨"LetterTray", "drawOne", "()I"⟩, 10), (⟨"LetterTray", "drawOf", "(I)I"⟩, 10)]
theorem lw_r4 : ∀ q ∈ lw_privs_4, lw_okq q := List.forall_mem_cons.mpr ⟨lw_p48, List.forall_mem_cons.mpr ⟨lw_p49, List.forall_mem_cons.mpr ⟨lw_p50, List.forall_mem_cons.mpr ⟨lw_p51, List.forall_mem_cons.mpr ⟨lw_p52, List.forall_mem_cons.mpr ⟨lw_p53, List.forall_mem_cons.mpr ⟨lw_p54, List.forall_mem_cons.mpr ⟨lw_p55, List.forall_mem_cons.mpr ⟨lw_p56, List.forall_mem_cons.mpr ⟨lw_p57, List.forall_mem_cons.mpr ⟨lw_p58, List.forall_mem_cons.mpr ⟨lw_p59, List.forall_mem_cons.mpr ⟨lw_p60, List.forall_mem_cons.mpr ⟨lw_p61, List.forall_mem_cons.mpr ⟨lw_p62, List.forall_mem_cons.mpr ⟨lw_p63, fun _ h => absurd h List.not_mem_nil⟩⟩⟩⟩⟩⟩⟩⟩⟩⟩⟩⟩⟩⟩⟩⟩
theorem lw_p64 : lw_okq (⟨"LetterTray$Desk", "toTray", "(I)V"⟩, 7) := ⟨⟨by decide +kernel, by decide +kernel⟩, List.mem_of_getElem? (i := 48) (by decide +kernel), List.mem_of_getElem? (i := 610) (by decide +kernel), List.mem_of_getElem? (i := 611) (by decide +kernel)⟩
theorem lw_p65 : lw_okq (⟨"LetterTray", "giveRefusal", "(I)I"⟩, 10) := ⟨⟨by decide +kernel, by decide +kernel⟩, List.mem_of_getElem? (i := 15) (by decide +kernel), List.mem_of_getElem? (i := 618) (by decide +kernel), List.mem_of_getElem? (i := 619) (by decide +kernel)⟩
theorem lw_p66 : lw_okq (⟨"LetterTray", "giveOne", "(I)V"⟩, 10) := ⟨⟨by decide +kernel, by decide +kernel⟩, List.mem_of_getElem? (i := 15) (by decide +kernel), List.mem_of_getElem? (i := 622) (by decide +kernel), List.mem_of_getElem? (i := 623) (by decide +kernel)⟩
theorem lw_p67 : lw_okq (⟨"LetterTray$Desk", "toBag", "(I)V"⟩, 7) := ⟨⟨by decide +kernel, by decide +kernel⟩, List.mem_of_getElem? (i := 48) (by decide +kernel), List.mem_of_getElem? (i := 626) (by decide +kernel), List.mem_of_getElem? (i := 627) (by decide +kernel)⟩
theorem lw_p68 : lw_okq (⟨"LetterTray", "layRefusal", "(I)I"⟩, 10) := ⟨⟨by decide +kernel, by decide +kernel⟩, List.mem_of_getElem? (i := 15) (by decide +kernel), List.mem_of_getElem? (i := 638) (by decide +kernel), List.mem_of_getElem? (i := 639) (by decide +kernel)⟩
theorem lw_p69 : lw_okq (⟨"LetterTray", "layOne", "(I)V"⟩, 10) := ⟨⟨by decide +kernel, by decide +kernel⟩, List.mem_of_getElem? (i := 15) (by decide +kernel), List.mem_of_getElem? (i := 642) (by decide +kernel), List.mem_of_getElem? (i := 643) (by decide +kernel)⟩
theorem lw_p70 : lw_okq (⟨"LetterTray$Desk", "layDown", "(LLetterTray$Words;I)V"⟩, 7) := ⟨⟨by decide +kernel, by decide +kernel⟩, List.mem_of_getElem? (i := 48) (by decide +kernel), List.mem_of_getElem? (i := 646) (by decide +kernel), List.mem_of_getElem? (i := 647) (by decide +kernel)⟩
theorem lw_p71 : lw_okq (⟨"LetterTray$Words", "lengthOf", "(I)I"⟩, 13) := ⟨⟨by decide +kernel, by decide +kernel⟩, List.mem_of_getElem? (i := 157) (by decide +kernel), List.mem_of_getElem? (i := 651) (by decide +kernel), List.mem_of_getElem? (i := 652) (by decide +kernel)⟩
theorem lw_p72 : lw_okq (⟨"LetterTray", "takeRefusal", "(I)I"⟩, 10) := ⟨⟨by decide +kernel, by decide +kernel⟩, List.mem_of_getElem? (i := 15) (by decide +kernel), List.mem_of_getElem? (i := 660) (by decide +kernel), List.mem_of_getElem? (i := 661) (by decide +kernel)⟩
theorem lw_p73 : lw_okq (⟨"LetterTray", "takeOne", "(I)V"⟩, 10) := ⟨⟨by decide +kernel, by decide +kernel⟩, List.mem_of_getElem? (i := 15) (by decide +kernel), List.mem_of_getElem? (i := 665) (by decide +kernel), List.mem_of_getElem? (i := 666) (by decide +kernel)⟩
theorem lw_p74 : lw_okq (⟨"LetterTray$Desk", "takeUp", "(LLetterTray$Words;I)V"⟩, 7) := ⟨⟨by decide +kernel, by decide +kernel⟩, List.mem_of_getElem? (i := 48) (by decide +kernel), List.mem_of_getElem? (i := 669) (by decide +kernel), List.mem_of_getElem? (i := 670) (by decide +kernel)⟩
theorem lw_p75 : lw_okq (⟨"LetterTray", "driftOnce", "(I)V"⟩, 10) := ⟨⟨by decide +kernel, by decide +kernel⟩, List.mem_of_getElem? (i := 15) (by decide +kernel), List.mem_of_getElem? (i := 678) (by decide +kernel), List.mem_of_getElem? (i := 679) (by decide +kernel)⟩
theorem lw_p76 : lw_okq (⟨"LetterTray", "driftGive", "()V"⟩, 10) := ⟨⟨by decide +kernel, by decide +kernel⟩, List.mem_of_getElem? (i := 15) (by decide +kernel), List.mem_of_getElem? (i := 682) (by decide +kernel), List.mem_of_getElem? (i := 683) (by decide +kernel)⟩
theorem lw_p77 : lw_okq (⟨"LetterTray", "driftLay", "()V"⟩, 10) := ⟨⟨by decide +kernel, by decide +kernel⟩, List.mem_of_getElem? (i := 15) (by decide +kernel), List.mem_of_getElem? (i := 686) (by decide +kernel), List.mem_of_getElem? (i := 687) (by decide +kernel)⟩
theorem lw_p78 : lw_okq (⟨"LetterTray", "driftTake", "()V"⟩, 10) := ⟨⟨by decide +kernel, by decide +kernel⟩, List.mem_of_getElem? (i := 15) (by decide +kernel), List.mem_of_getElem? (i := 690) (by decide +kernel), List.mem_of_getElem? (i := 691) (by decide +kernel)⟩
theorem lw_p79 : lw_okq (⟨"LetterTray$History", "pop", "(ILLetterTray$Desk;)V"⟩, 3) := ⟨⟨by decide +kernel, by decide +kernel⟩, List.mem_of_getElem? (i := 85) (by decide +kernel), List.mem_of_getElem? (i := 698) (by decide +kernel), List.mem_of_getElem? (i := 699) (by decide +kernel)⟩
def lw_privs_5 : List (MethodName × Nat) := [(⟨"LetterTray$Desk", "toTray", "(I)V"⟩, 7), (⟨"LetterTray", "giveRefusal", "(I)I"⟩, 10), (⟨"LetterTray", "giveOne", "(I)V"⟩, 10), (⟨"LetterTray$Desk", "toBag", "(I)V"⟩, 7), (⟨"LetterTray", "layRefusal", "(I)I"⟩, 10), (⟨"LetterTray", "layOne", "(I)V"⟩, 10), (⟨"LetterTray$Desk", "layDown", "(LLetterTray$Words;I)V"⟩, 7), (⟨"LetterTray$Words", "lengthOf", "(I)I"⟩, 13), (⟨"LetterTray", "takeRefusal", "(I)I"⟩, 10), (⟨"LetterTray", "takeOne", "(I)V"⟩, 10), (⟨"LetterTray$Desk", "takeUp", "(LLetterTray$Words;I)V"⟩, 7), (⟨"LetterTray", "driftOnce", "(I)V"⟩, 10), (⟨"LetterTray", "driftGive", "()V"⟩, 10), (⟨"LetterTray", "driftLay", "()V"⟩, 10), (⟨"LetterTray", "driftTake", "()V"⟩, 10), (⟨"LetterTray$History", "pop", "(ILLetterTray$Desk;)V"⟩, 3)]
theorem lw_r5 : ∀ q ∈ lw_privs_5, lw_okq q := List.forall_mem_cons.mpr ⟨lw_p64, List.forall_mem_cons.mpr ⟨lw_p65, List.forall_mem_cons.mpr ⟨lw_p66, List.forall_mem_cons.mpr ⟨lw_p67, List.forall_mem_cons.mpr ⟨lw_p68, List.forall_mem_cons.mpr ⟨lw_p69, List.forall_mem_cons.mpr ⟨lw_p70, List.forall_mem_cons.mpr ⟨lw_p71, List.forall_mem_cons.mpr ⟨lw_p72, List.forall_mem_cons.mpr ⟨lw_p73, List.forall_mem_cons.mpr ⟨lw_p74, List.forall_mem_cons.mpr ⟨lw_p75, List.forall_mem_cons.mpr ⟨lw_p76, List.forall_mem_cons.mpr ⟨lw_p77, List.forall_mem_cons.mpr ⟨lw_p78, List.forall_mem_cons.mpr ⟨lw_p79, fun _ h => absurd h List.not_mem_nil⟩⟩⟩⟩⟩⟩⟩⟩⟩⟩⟩⟩⟩⟩⟩⟩
theorem lw_p80 : lw_okq (⟨"LetterTray$Rows", "kth", "(I)I"⟩, 7) := ⟨⟨by decide +kernel, by decide +kernel⟩, List.mem_of_getElem? (i := 219) (by decide +kernel), List.mem_of_getElem? (i := 710) (by decide +kernel), List.mem_of_getElem? (i := 711) (by decide +kernel)⟩
theorem lw_p81 : lw_okq (⟨"LetterTray$Rows", "leastOfBest", "(I)I"⟩, 7) := ⟨⟨by decide +kernel, by decide +kernel⟩, List.mem_of_getElem? (i := 219) (by decide +kernel), List.mem_of_getElem? (i := 714) (by decide +kernel), List.mem_of_getElem? (i := 715) (by decide +kernel)⟩
theorem lw_p82 : lw_okq (⟨"LetterTray$Words", "nextTo", "(II)I"⟩, 13) := ⟨⟨by decide +kernel, by decide +kernel⟩, List.mem_of_getElem? (i := 157) (by decide +kernel), List.mem_of_getElem? (i := 723) (by decide +kernel), List.mem_of_getElem? (i := 724) (by decide +kernel)⟩
theorem lw_p83 : lw_okq (⟨"LetterTray$Words", "farSet", "(II)I"⟩, 13) := ⟨⟨by decide +kernel, by decide +kernel⟩, List.mem_of_getElem? (i := 157) (by decide +kernel), List.mem_of_getElem? (i := 731) (by decide +kernel), List.mem_of_getElem? (i := 732) (by decide +kernel)⟩
theorem lw_p84 : lw_okq (⟨"LetterTray$Words", "rightOf", "(II)I"⟩, 13) := ⟨⟨by decide +kernel, by decide +kernel⟩, List.mem_of_getElem? (i := 157) (by decide +kernel), List.mem_of_getElem? (i := 739) (by decide +kernel), List.mem_of_getElem? (i := 740) (by decide +kernel)⟩
theorem lw_p85 : lw_okq (⟨"LetterTray$Words", "moreOf", "(II)I"⟩, 13) := ⟨⟨by decide +kernel, by decide +kernel⟩, List.mem_of_getElem? (i := 157) (by decide +kernel), List.mem_of_getElem? (i := 743) (by decide +kernel), List.mem_of_getElem? (i := 744) (by decide +kernel)⟩
theorem lw_p86 : lw_okq (⟨"LetterTray$Talk", "addSaid", "(III)Z"⟩, 7) := ⟨⟨by decide +kernel, by decide +kernel⟩, List.mem_of_getElem? (i := 127) (by decide +kernel), List.mem_of_getElem? (i := 757) (by decide +kernel), List.mem_of_getElem? (i := 758) (by decide +kernel)⟩
theorem lw_p87 : lw_okq (⟨"LetterTray$Talk", "fitting", "(LLetterTray$Words;)I"⟩, 7) := ⟨⟨by decide +kernel, by decide +kernel⟩, List.mem_of_getElem? (i := 127) (by decide +kernel), List.mem_of_getElem? (i := 765) (by decide +kernel), List.mem_of_getElem? (i := 766) (by decide +kernel)⟩
theorem lw_p88 : lw_okq (⟨"LetterTray$Talk", "fits", "(LLetterTray$Words;I)Z"⟩, 7) := ⟨⟨by decide +kernel, by decide +kernel⟩, List.mem_of_getElem? (i := 127) (by decide +kernel), List.mem_of_getElem? (i := 769) (by decide +kernel), List.mem_of_getElem? (i := 770) (by decide +kernel)⟩
theorem lw_p89 : lw_okq (⟨"LetterTray$Talk", "bestToAsk", "(LLetterTray$Words;)I"⟩, 7) := ⟨⟨by decide +kernel, by decide +kernel⟩, List.mem_of_getElem? (i := 127) (by decide +kernel), List.mem_of_getElem? (i := 779) (by decide +kernel), List.mem_of_getElem? (i := 780) (by decide +kernel)⟩
theorem lw_p90 : lw_okq (⟨"LetterTray$Talk", "greatestPart", "(LLetterTray$Words;II)I"⟩, 7) := ⟨⟨by decide +kernel, by decide +kernel⟩, List.mem_of_getElem? (i := 127) (by decide +kernel), List.mem_of_getElem? (i := 790) (by decide +kernel), List.mem_of_getElem? (i := 791) (by decide +kernel)⟩
theorem lw_p91 : lw_okq (⟨"LetterTray$Talk", "partWith", "(LLetterTray$Words;III)I"⟩, 7) := ⟨⟨by decide +kernel, by decide +kernel⟩, List.mem_of_getElem? (i := 127) (by decide +kernel), List.mem_of_getElem? (i := 794) (by decide +kernel), List.mem_of_getElem? (i := 795) (by decide +kernel)⟩
theorem lw_p92 : lw_okq (⟨"LetterTray$Talk", "addEntry", "(II)Z"⟩, 7) := ⟨⟨by decide +kernel, by decide +kernel⟩, List.mem_of_getElem? (i := 127) (by decide +kernel), List.mem_of_getElem? (i := 803) (by decide +kernel), List.mem_of_getElem? (i := 804) (by decide +kernel)⟩
theorem lw_p93 : lw_okq (⟨"LetterTray$Talk", "firstWrong", "(LLetterTray$Desk;)I"⟩, 7) := ⟨⟨by decide +kernel, by decide +kernel⟩, List.mem_of_getElem? (i := 127) (by decide +kernel), List.mem_of_getElem? (i := 811) (by decide +kernel), List.mem_of_getElem? (i := 812) (by decide +kernel)⟩
theorem lw_p94 : lw_okq (⟨"LetterTrayModel", "letter", "()I"⟩, 39) := ⟨⟨by decide +kernel, by decide +kernel⟩, List.mem_of_getElem? (i := 833) (by decide +kernel), List.mem_of_getElem? (i := 972) (by decide +kernel), List.mem_of_getElem? (i := 973) (by decide +kernel)⟩
theorem lw_p95 : lw_okq (⟨"LetterTrayModel", "readGame", "()Z"⟩, 39) := ⟨⟨by decide +kernel, by decide +kernel⟩, List.mem_of_getElem? (i := 833) (by decide +kernel), List.mem_of_getElem? (i := 976) (by decide +kernel), List.mem_of_getElem? (i := 977) (by decide +kernel)⟩
def lw_privs_6 : List (MethodName × Nat) := [(⟨"LetterTray$Rows", "kth", "(I)I"⟩, 7), (⟨"LetterTray$Rows", "leastOfBest", "(I)I"⟩, 7), (⟨"LetterTray$Words", "nextTo", "(II)I"⟩, 13), (⟨"LetterTray$Words", "farSet", "(II)I"⟩, 13), (⟨"LetterTray$Words", "rightOf", "(II)I"⟩, 13), (⟨"LetterTray$Words", "moreOf", "(II)I"⟩, 13), (⟨"LetterTray$Talk", "addSaid", "(III)Z"⟩, 7), (⟨"LetterTray$Talk", "fitting", "(LLetterTray$Words;)I"⟩, 7), (⟨"LetterTray$Talk", "fits", "(LLetterTray$Words;I)Z"⟩, 7), (⟨"LetterTray$Talk", "bestToAsk", "(LLetterTray$Words;)I"⟩, 7), (⟨"LetterTray$Talk", "greatestPart", "(LLetterTray$Words;II)I"⟩, 7), (⟨"LetterTray$Talk", "partWith", "(LLetterTray$Words;III)I"⟩, 7), (⟨"LetterTray$Talk", "addEntry", "(II)Z"⟩, 7), (⟨"LetterTray$Talk", "firstWrong", "(LLetterTray$Desk;)I"⟩, 7), (⟨"LetterTrayModel", "letter", "()I"⟩, 39), (⟨"LetterTrayModel", "readGame", "()Z"⟩, 39)]
theorem lw_r6 : ∀ q ∈ lw_privs_6, lw_okq q := List.forall_mem_cons.mpr ⟨lw_p80, List.forall_mem_cons.mpr ⟨lw_p81, List.forall_mem_cons.mpr ⟨lw_p82, List.forall_mem_cons.mpr ⟨lw_p83, List.forall_mem_cons.mpr ⟨lw_p84, List.forall_mem_cons.mpr ⟨lw_p85, List.forall_mem_cons.mpr ⟨lw_p86, List.forall_mem_cons.mpr ⟨lw_p87, List.forall_mem_cons.mpr ⟨lw_p88, List.forall_mem_cons.mpr ⟨lw_p89, List.forall_mem_cons.mpr ⟨lw_p90, List.forall_mem_cons.mpr ⟨lw_p91, List.forall_mem_cons.mpr ⟨lw_p92, List.forall_mem_cons.mpr ⟨lw_p93, List.forall_mem_cons.mpr ⟨lw_p94, List.forall_mem_cons.mpr ⟨lw_p95, fun _ h => absurd h List.not_mem_nil⟩⟩⟩⟩⟩⟩⟩⟩⟩⟩⟩⟩⟩⟩⟩⟩
theorem lw_p96 : lw_okq (⟨"LetterTrayModel", "takes", "(I)Z"⟩, 39) := ⟨⟨by decide +kernel, by decide +kernel⟩, List.mem_of_getElem? (i := 833) (by decide +kernel), List.mem_of_getElem? (i := 980) (by decide +kernel), List.mem_of_getElem? (i := 981) (by decide +kernel)⟩
theorem lw_p97 : lw_okq (⟨"LetterTrayModel", "faults", "(II)Z"⟩, 39) := ⟨⟨by decide +kernel, by decide +kernel⟩, List.mem_of_getElem? (i := 833) (by decide +kernel), List.mem_of_getElem? (i := 984) (by decide +kernel), List.mem_of_getElem? (i := 985) (by decide +kernel)⟩
theorem lw_p98 : lw_okq (⟨"LetterTrayModel", "readValues", "()Z"⟩, 39) := ⟨⟨by decide +kernel, by decide +kernel⟩, List.mem_of_getElem? (i := 833) (by decide +kernel), List.mem_of_getElem? (i := 988) (by decide +kernel), List.mem_of_getElem? (i := 989) (by decide +kernel)⟩
theorem lw_p99 : lw_okq (⟨"LetterTrayModel", "takesNumber", "(II)Z"⟩, 39) := ⟨⟨by decide +kernel, by decide +kernel⟩, List.mem_of_getElem? (i := 833) (by decide +kernel), List.mem_of_getElem? (i := 992) (by decide +kernel), List.mem_of_getElem? (i := 993) (by decide +kernel)⟩
theorem lw_p100 : lw_okq (⟨"LetterTrayModel", "readClause", "()Z"⟩, 39) := ⟨⟨by decide +kernel, by decide +kernel⟩, List.mem_of_getElem? (i := 833) (by decide +kernel), List.mem_of_getElem? (i := 998) (by decide +kernel), List.mem_of_getElem? (i := 999) (by decide +kernel)⟩
theorem lw_p101 : lw_okq (⟨"LetterTrayModel", "readBag", "()Z"⟩, 39) := ⟨⟨by decide +kernel, by decide +kernel⟩, List.mem_of_getElem? (i := 833) (by decide +kernel), List.mem_of_getElem? (i := 1002) (by decide +kernel), List.mem_of_getElem? (i := 1003) (by decide +kernel)⟩
theorem lw_p102 : lw_okq (⟨"LetterTrayModel", "readWord", "()Z"⟩, 39) := ⟨⟨by decide +kernel, by decide +kernel⟩, List.mem_of_getElem? (i := 833) (by decide +kernel), List.mem_of_getElem? (i := 1011) (by decide +kernel), List.mem_of_getElem? (i := 1012) (by decide +kernel)⟩
theorem lw_p103 : lw_okq (⟨"LetterTrayModel", "isToldAlready", "()Z"⟩, 39) := ⟨⟨by decide +kernel, by decide +kernel⟩, List.mem_of_getElem? (i := 833) (by decide +kernel), List.mem_of_getElem? (i := 1015) (by decide +kernel), List.mem_of_getElem? (i := 1016) (by decide +kernel)⟩
theorem lw_p104 : lw_okq (⟨"LetterTrayModel", "clear", "()V"⟩, 39) := ⟨⟨by decide +kernel, by decide +kernel⟩, List.mem_of_getElem? (i := 833) (by decide +kernel), List.mem_of_getElem? (i := 1019) (by decide +kernel), List.mem_of_getElem? (i := 1020) (by decide +kernel)⟩
theorem lw_p105 : lw_okq (⟨"LetterTrayModel", "isWord", "(I)Z"⟩, 39) := ⟨⟨by decide +kernel, by decide +kernel⟩, List.mem_of_getElem? (i := 833) (by decide +kernel), List.mem_of_getElem? (i := 1040) (by decide +kernel), List.mem_of_getElem? (i := 1041) (by decide +kernel)⟩
theorem lw_p106 : lw_okq (⟨"LetterTrayModel", "worthOf", "(I)I"⟩, 39) := ⟨⟨by decide +kernel, by decide +kernel⟩, List.mem_of_getElem? (i := 833) (by decide +kernel), List.mem_of_getElem? (i := 1045) (by decide +kernel), List.mem_of_getElem? (i := 1046) (by decide +kernel)⟩
theorem lw_p107 : lw_okq (⟨"LetterTrayModel", "readsAlike", "(I)Z"⟩, 39) := ⟨⟨by decide +kernel, by decide +kernel⟩, List.mem_of_getElem? (i := 833) (by decide +kernel), List.mem_of_getElem? (i := 1049) (by decide +kernel), List.mem_of_getElem? (i := 1050) (by decide +kernel)⟩
theorem lw_p108 : lw_okq (⟨"LetterTrayModel", "missingOf", "(I)I"⟩, 39) := ⟨⟨by decide +kernel, by decide +kernel⟩, List.mem_of_getElem? (i := 833) (by decide +kernel), List.mem_of_getElem? (i := 1053) (by decide +kernel), List.mem_of_getElem? (i := 1054) (by decide +kernel)⟩
theorem lw_p109 : lw_okq (⟨"LetterTrayModel", "kinOf", "(I)I"⟩, 39) := ⟨⟨by decide +kernel, by decide +kernel⟩, List.mem_of_getElem? (i := 833) (by decide +kernel), List.mem_of_getElem? (i := 1057) (by decide +kernel), List.mem_of_getElem? (i := 1058) (by decide +kernel)⟩
theorem lw_p110 : lw_okq (⟨"LetterTrayModel", "areKin", "(II)Z"⟩, 39) := ⟨⟨by decide +kernel, by decide +kernel⟩, List.mem_of_getElem? (i := 833) (by decide +kernel), List.mem_of_getElem? (i := 1061) (by decide +kernel), List.mem_of_getElem? (i := 1062) (by decide +kernel)⟩
theorem lw_p111 : lw_okq (⟨"LetterTrayModel", "isInside", "(II)Z"⟩, 39) := ⟨⟨by decide +kernel, by decide +kernel⟩, List.mem_of_getElem? (i := 833) (by decide +kernel), List.mem_of_getElem? (i := 1065) (by decide +kernel), List.mem_of_getElem? (i := 1066) (by decide +kernel)⟩
def lw_privs_7 : List (MethodName × Nat) := [(⟨"LetterTrayModel", "takes", "(I)Z"⟩, 39), (⟨"LetterTrayModel", "faults", "(II)Z"⟩, 39), (⟨"LetterTrayModel", "readValues", "()Z"⟩, 39), (⟨"LetterTrayModel", "takesNumber", "(II)Z"⟩, 39), (⟨"LetterTrayModel", "readClause", "()Z"⟩, 39), (⟨"LetterTrayModel", "readBag", "()Z"⟩, 39), (⟨"LetterTrayModel", "readWord", "()Z"⟩, 39), (⟨"LetterTrayModel", "isToldAlready", "()Z"⟩, 39), (⟨"LetterTrayModel", "clear", "()V"⟩, 39), (⟨"LetterTrayModel", "isWord", "(I)Z"⟩, 39), (⟨"LetterTrayModel", "worthOf", "(I)I"⟩, 39), (⟨"LetterTrayModel", "readsAlike", "(I)Z"⟩, 39), (⟨"LetterTrayModel", "missingOf", "(I)I"⟩, 39), (⟨"LetterTrayModel", "kinOf", "(I)I"⟩, 39), (⟨"LetterTrayModel", "areKin", "(II)Z"⟩, 39), (⟨"LetterTrayModel", "isInside", "(II)Z"⟩, 39)]
theorem lw_r7 : ∀ q ∈ lw_privs_7, lw_okq q := List.forall_mem_cons.mpr ⟨lw_p96, List.forall_mem_cons.mpr ⟨lw_p97, List.forall_mem_cons.mpr ⟨lw_p98, List.forall_mem_cons.mpr ⟨lw_p99, List.forall_mem_cons.mpr ⟨lw_p100, List.forall_mem_cons.mpr ⟨lw_p101, List.forall_mem_cons.mpr ⟨lw_p102, List.forall_mem_cons.mpr ⟨lw_p103, List.forall_mem_cons.mpr ⟨lw_p104, List.forall_mem_cons.mpr ⟨lw_p105, List.forall_mem_cons.mpr ⟨lw_p106, List.forall_mem_cons.mpr ⟨lw_p107, List.forall_mem_cons.mpr ⟨lw_p108, List.forall_mem_cons.mpr ⟨lw_p109, List.forall_mem_cons.mpr ⟨lw_p110, List.forall_mem_cons.mpr ⟨lw_p111, fun _ h => absurd h List.not_mem_nil⟩⟩⟩⟩⟩⟩⟩⟩⟩⟩⟩⟩⟩⟩⟩⟩
theorem lw_p112 : lw_okq (⟨"LetterTrayModel", "insideOf", "(I)I"⟩, 39) := ⟨⟨by decide +kernel, by decide +kernel⟩, List.mem_of_getElem? (i := 833) (by decide +kernel), List.mem_of_getElem? (i := 1069) (by decide +kernel), List.mem_of_getElem? (i := 1070) (by decide +kernel)⟩
theorem lw_p113 : lw_okq (⟨"LetterTrayModel", "oddsOf", "(I)I"⟩, 39) := ⟨⟨by decide +kernel, by decide +kernel⟩, List.mem_of_getElem? (i := 833) (by decide +kernel), List.mem_of_getElem? (i := 1073) (by decide +kernel), List.mem_of_getElem? (i := 1074) (by decide +kernel)⟩
theorem lw_p114 : lw_okq (⟨"LetterTrayModel", "can", "(I)Z"⟩, 39) := ⟨⟨by decide +kernel, by decide +kernel⟩, List.mem_of_getElem? (i := 833) (by decide +kernel), List.mem_of_getElem? (i := 1077) (by decide +kernel), List.mem_of_getElem? (i := 1078) (by decide +kernel)⟩
theorem lw_p115 : lw_okq (⟨"LetterTrayModel", "sumOf", "(I)I"⟩, 39) := ⟨⟨by decide +kernel, by decide +kernel⟩, List.mem_of_getElem? (i := 833) (by decide +kernel), List.mem_of_getElem? (i := 1081) (by decide +kernel), List.mem_of_getElem? (i := 1082) (by decide +kernel)⟩
theorem lw_p116 : lw_okq (⟨"LetterTrayModel", "isLaid", "(I)Z"⟩, 39) := ⟨⟨by decide +kernel, by decide +kernel⟩, List.mem_of_getElem? (i := 833) (by decide +kernel), List.mem_of_getElem? (i := 1094) (by decide +kernel), List.mem_of_getElem? (i := 1095) (by decide +kernel)⟩
theorem lw_p117 : lw_okq (⟨"LetterTrayModel", "goRows", "()V"⟩, 39) := ⟨⟨by decide +kernel, by decide +kernel⟩, List.mem_of_getElem? (i := 833) (by decide +kernel), List.mem_of_getElem? (i := 1102) (by decide +kernel), List.mem_of_getElem? (i := 1103) (by decide +kernel)⟩
theorem lw_p118 : lw_okq (⟨"LetterTrayModel", "judgeRow", "(I)V"⟩, 39) := ⟨⟨by decide +kernel, by decide +kernel⟩, List.mem_of_getElem? (i := 833) (by decide +kernel), List.mem_of_getElem? (i := 1106) (by decide +kernel), List.mem_of_getElem? (i := 1107) (by decide +kernel)⟩
theorem lw_p119 : lw_okq (⟨"LetterTrayModel", "join", "(II)V"⟩, 39) := ⟨⟨by decide +kernel, by decide +kernel⟩, List.mem_of_getElem? (i := 833) (by decide +kernel), List.mem_of_getElem? (i := 1110) (by decide +kernel), List.mem_of_getElem? (i := 1111) (by decide +kernel)⟩
theorem lw_p120 : lw_okq (⟨"LetterTrayModel", "fits", "()Z"⟩, 39) := ⟨⟨by decide +kernel, by decide +kernel⟩, List.mem_of_getElem? (i := 833) (by decide +kernel), List.mem_of_getElem? (i := 1114) (by decide +kernel), List.mem_of_getElem? (i := 1115) (by decide +kernel)⟩
theorem lw_p121 : lw_okq (⟨"LetterTrayModel", "stepsTo", "(II)I"⟩, 39) := ⟨⟨by decide +kernel, by decide +kernel⟩, List.mem_of_getElem? (i := 833) (by decide +kernel), List.mem_of_getElem? (i := 1127) (by decide +kernel), List.mem_of_getElem? (i := 1128) (by decide +kernel)⟩
theorem lw_p122 : lw_okq (⟨"LetterTrayModel", "spread", "(I)I"⟩, 39) := ⟨⟨by decide +kernel, by decide +kernel⟩, List.mem_of_getElem? (i := 833) (by decide +kernel), List.mem_of_getElem? (i := 1134) (by decide +kernel), List.mem_of_getElem? (i := 1135) (by decide +kernel)⟩
theorem lw_p123 : lw_okq (⟨"LetterTrayModel", "isStep", "(II)Z"⟩, 39) := ⟨⟨by decide +kernel, by decide +kernel⟩, List.mem_of_getElem? (i := 833) (by decide +kernel), List.mem_of_getElem? (i := 1138) (by decide +kernel), List.mem_of_getElem? (i := 1139) (by decide +kernel)⟩
theorem lw_p124 : lw_okq (⟨"LetterTrayModel", "isOneOther", "(II)Z"⟩, 39) := ⟨⟨by decide +kernel, by decide +kernel⟩, List.mem_of_getElem? (i := 833) (by decide +kernel), List.mem_of_getElem? (i := 1142) (by decide +kernel), List.mem_of_getElem? (i := 1143) (by decide +kernel)⟩
theorem lw_p125 : lw_okq (⟨"LetterTrayModel", "isOneMore", "(II)Z"⟩, 39) := ⟨⟨by decide +kernel, by decide +kernel⟩, List.mem_of_getElem? (i := 833) (by decide +kernel), List.mem_of_getElem? (i := 1146) (by decide +kernel), List.mem_of_getElem? (i := 1147) (by decide +kernel)⟩
theorem lw_p126 : lw_okq (⟨"LetterTrayModel", "note", "()V"⟩, 39) := ⟨⟨by decide +kernel, by decide +kernel⟩, List.mem_of_getElem? (i := 833) (by decide +kernel), List.mem_of_getElem? (i := 1161) (by decide +kernel), List.mem_of_getElem? (i := 1162) (by decide +kernel)⟩
theorem lw_p127 : lw_okq (⟨"LetterTrayModel", "drawsOne", "()I"⟩, 39) := ⟨⟨by decide +kernel, by decide +kernel⟩, List.mem_of_getElem? (i := 833) (by decide +kernel), List.mem_of_getElem? (i := 1165) (by decide +kernel), List.mem_of_getElem? (i := 1166) (by decide +kernel)⟩
def lw_privs_8 : List (MethodName × Nat) := [(⟨"LetterTrayModel", "insideOf", "(I)I"⟩, 39), (⟨"LetterTrayModel", "oddsOf", "(I)I"⟩, 39), (⟨"LetterTrayModel", "can", "(I)Z"⟩, 39), (⟨"LetterTrayModel", "sumOf", "(I)I"⟩, 39), (⟨"LetterTrayModel", "isLaid", "(I)Z"⟩, 39), (⟨"LetterTrayModel", "goRows", "()V"⟩, 39), (⟨"LetterTrayModel", "judgeRow", "(I)V"⟩, 39), (⟨"LetterTrayModel", "join", "(II)V"⟩, 39), (⟨"LetterTrayModel", "fits", "()Z"⟩, 39), (⟨"LetterTrayModel", "stepsTo", "(II)I"⟩, 39), (⟨"LetterTrayModel", "spread", "(I)I"⟩, 39), (⟨"LetterTrayModel", "isStep", "(II)Z"⟩, 39), (⟨"LetterTrayModel", "isOneOther", "(II)Z"⟩, 39), (⟨"LetterTrayModel", "isOneMore", "(II)Z"⟩, 39), (⟨"LetterTrayModel", "note", "()V"⟩, 39), (⟨"LetterTrayModel", "drawsOne", "()I"⟩, 39)]
theorem lw_r8 : ∀ q ∈ lw_privs_8, lw_okq q := List.forall_mem_cons.mpr ⟨lw_p112, List.forall_mem_cons.mpr ⟨lw_p113, List.forall_mem_cons.mpr ⟨lw_p114, List.forall_mem_cons.mpr ⟨lw_p115, List.forall_mem_cons.mpr ⟨lw_p116, List.forall_mem_cons.mpr ⟨lw_p117, List.forall_mem_cons.mpr ⟨lw_p118, List.forall_mem_cons.mpr ⟨lw_p119, List.forall_mem_cons.mpr ⟨lw_p120, List.forall_mem_cons.mpr ⟨lw_p121, List.forall_mem_cons.mpr ⟨lw_p122, List.forall_mem_cons.mpr ⟨lw_p123, List.forall_mem_cons.mpr ⟨lw_p124, List.forall_mem_cons.mpr ⟨lw_p125, List.forall_mem_cons.mpr ⟨lw_p126, List.forall_mem_cons.mpr ⟨lw_p127, fun _ h => absurd h List.not_mem_nil⟩⟩⟩⟩⟩⟩⟩⟩⟩⟩⟩⟩⟩⟩⟩⟩
theorem lw_p128 : lw_okq (⟨"LetterTrayModel", "drawOf", "(I)I"⟩, 39) := ⟨⟨by decide +kernel, by decide +kernel⟩, List.mem_of_getElem? (i := 833) (by decide +kernel), List.mem_of_getElem? (i := 1169) (by decide +kernel), List.mem_of_getElem? (i := 1170) (by decide +kernel)⟩
theorem lw_p129 : lw_okq (⟨"LetterTrayModel", "sortAt", "(II)I"⟩, 39) := ⟨⟨by decide +kernel, by decide +kernel⟩, List.mem_of_getElem? (i := 833) (by decide +kernel), List.mem_of_getElem? (i := 1177) (by decide +kernel), List.mem_of_getElem? (i := 1178) (by decide +kernel)⟩
theorem lw_p130 : lw_okq (⟨"LetterTrayModel", "move", "(III)V"⟩, 39) := ⟨⟨by decide +kernel, by decide +kernel⟩, List.mem_of_getElem? (i := 833) (by decide +kernel), List.mem_of_getElem? (i := 1181) (by decide +kernel), List.mem_of_getElem? (i := 1182) (by decide +kernel)⟩
theorem lw_p131 : lw_okq (⟨"LetterTrayModel", "lacksTurn", "(I)I"⟩, 39) := ⟨⟨by decide +kernel, by decide +kernel⟩, List.mem_of_getElem? (i := 833) (by decide +kernel), List.mem_of_getElem? (i := 1189) (by decide +kernel), List.mem_of_getElem? (i := 1190) (by decide +kernel)⟩
theorem lw_p132 : lw_okq (⟨"LetterTrayModel", "lays", "(I)V"⟩, 39) := ⟨⟨by decide +kernel, by decide +kernel⟩, List.mem_of_getElem? (i := 833) (by decide +kernel), List.mem_of_getElem? (i := 1201) (by decide +kernel), List.mem_of_getElem? (i := 1202) (by decide +kernel)⟩
theorem lw_p133 : lw_okq (⟨"LetterTrayModel", "hasRoom", "(I)Z"⟩, 39) := ⟨⟨by decide +kernel, by decide +kernel⟩, List.mem_of_getElem? (i := 833) (by decide +kernel), List.mem_of_getElem? (i := 1209) (by decide +kernel), List.mem_of_getElem? (i := 1210) (by decide +kernel)⟩
theorem lw_p134 : lw_okq (⟨"LetterTrayModel", "takesUp", "(I)V"⟩, 39) := ⟨⟨by decide +kernel, by decide +kernel⟩, List.mem_of_getElem? (i := 833) (by decide +kernel), List.mem_of_getElem? (i := 1213) (by decide +kernel), List.mem_of_getElem? (i := 1214) (by decide +kernel)⟩
theorem lw_p135 : lw_okq (⟨"LetterTrayModel", "byDraws", "()V"⟩, 39) := ⟨⟨by decide +kernel, by decide +kernel⟩, List.mem_of_getElem? (i := 833) (by decide +kernel), List.mem_of_getElem? (i := 1222) (by decide +kernel), List.mem_of_getElem? (i := 1223) (by decide +kernel)⟩
theorem lw_p136 : lw_okq (⟨"LetterTrayModel", "rightOf", "(II)I"⟩, 39) := ⟨⟨by decide +kernel, by decide +kernel⟩, List.mem_of_getElem? (i := 833) (by decide +kernel), List.mem_of_getElem? (i := 1235) (by decide +kernel), List.mem_of_getElem? (i := 1236) (by decide +kernel)⟩
theorem lw_p137 : lw_okq (⟨"LetterTrayModel", "moreOf", "(II)I"⟩, 39) := ⟨⟨by decide +kernel, by decide +kernel⟩, List.mem_of_getElem? (i := 833) (by decide +kernel), List.mem_of_getElem? (i := 1239) (by decide +kernel), List.mem_of_getElem? (i := 1240) (by decide +kernel)⟩
theorem lw_p138 : lw_okq (⟨"LetterTrayModel", "partBy", "(II)I"⟩, 39) := ⟨⟨by decide +kernel, by decide +kernel⟩, List.mem_of_getElem? (i := 833) (by decide +kernel), List.mem_of_getElem? (i := 1267) (by decide +kernel), List.mem_of_getElem? (i := 1268) (by decide +kernel)⟩
theorem lw_p139 : lw_okq (⟨"LetterTrayModel", "canSet", "()I"⟩, 39) := ⟨⟨by decide +kernel, by decide +kernel⟩, List.mem_of_getElem? (i := 833) (by decide +kernel), List.mem_of_getElem? (i := 1299) (by decide +kernel), List.mem_of_getElem? (i := 1300) (by decide +kernel)⟩
theorem lw_p140 : lw_okq (⟨"LetterTrayModel", "bestNow", "()I"⟩, 39) := ⟨⟨by decide +kernel, by decide +kernel⟩, List.mem_of_getElem? (i := 833) (by decide +kernel), List.mem_of_getElem? (i := 1303) (by decide +kernel), List.mem_of_getElem? (i := 1304) (by decide +kernel)⟩
theorem lw_p141 : lw_okq (⟨"LetterTrayModel", "toldOfRows", "(I)I"⟩, 39) := ⟨⟨by decide +kernel, by decide +kernel⟩, List.mem_of_getElem? (i := 833) (by decide +kernel), List.mem_of_getElem? (i := 1307) (by decide +kernel), List.mem_of_getElem? (i := 1308) (by decide +kernel)⟩
theorem lw_p142 : lw_okq (⟨"LetterTrayModel", "unusedNow", "()I"⟩, 39) := ⟨⟨by decide +kernel, by decide +kernel⟩, List.mem_of_getElem? (i := 833) (by decide +kernel), List.mem_of_getElem? (i := 1311) (by decide +kernel), List.mem_of_getElem? (i := 1312) (by decide +kernel)⟩
theorem lw_p143 : lw_okq (⟨"LetterTrayModel", "farthest", "()I"⟩, 39) := ⟨⟨by decide +kernel, by decide +kernel⟩, List.mem_of_getElem? (i := 833) (by decide +kernel), List.mem_of_getElem? (i := 1315) (by decide +kernel), List.mem_of_getElem? (i := 1316) (by decide +kernel)⟩
def lw_privs_9 : List (MethodName × Nat) := [(⟨"LetterTrayModel", "drawOf", "(I)I"⟩, 39), (⟨"LetterTrayModel", "sortAt", "(II)I"⟩, 39), (⟨"LetterTrayModel", "move", "(III)V"⟩, 39), (⟨"LetterTrayModel", "lacksTurn", "(I)I"⟩, 39), (⟨"LetterTrayModel", "lays", "(I)V"⟩, 39), (⟨"LetterTrayModel", "hasRoom", "(I)Z"⟩, 39), (⟨"LetterTrayModel", "takesUp", "(I)V"⟩, 39), (⟨"LetterTrayModel", "byDraws", "()V"⟩, 39), (⟨"LetterTrayModel", "rightOf", "(II)I"⟩, 39), (⟨"LetterTrayModel", "moreOf", "(II)I"⟩, 39), (⟨"LetterTrayModel", "partBy", "(II)I"⟩, 39), (⟨"LetterTrayModel", "canSet", "()I"⟩, 39), (⟨"LetterTrayModel", "bestNow", "()I"⟩, 39), (⟨"LetterTrayModel", "toldOfRows", "(I)I"⟩, 39), (⟨"LetterTrayModel", "unusedNow", "()I"⟩, 39), (⟨"LetterTrayModel", "farthest", "()I"⟩, 39)]
theorem lw_r9 : ∀ q ∈ lw_privs_9, lw_okq q := List.forall_mem_cons.mpr ⟨lw_p128, List.forall_mem_cons.mpr ⟨lw_p129, List.forall_mem_cons.mpr ⟨lw_p130, List.forall_mem_cons.mpr ⟨lw_p131, List.forall_mem_cons.mpr ⟨lw_p132, List.forall_mem_cons.mpr ⟨lw_p133, List.forall_mem_cons.mpr ⟨lw_p134, List.forall_mem_cons.mpr ⟨lw_p135, List.forall_mem_cons.mpr ⟨lw_p136, List.forall_mem_cons.mpr ⟨lw_p137, List.forall_mem_cons.mpr ⟨lw_p138, List.forall_mem_cons.mpr ⟨lw_p139, List.forall_mem_cons.mpr ⟨lw_p140, List.forall_mem_cons.mpr ⟨lw_p141, List.forall_mem_cons.mpr ⟨lw_p142, List.forall_mem_cons.mpr ⟨lw_p143, fun _ h => absurd h List.not_mem_nil⟩⟩⟩⟩⟩⟩⟩⟩⟩⟩⟩⟩⟩⟩⟩⟩
def lw_privs : List (MethodName × Nat) := lw_privs_1 ++ (lw_privs_2 ++ (lw_privs_3 ++ (lw_privs_4 ++ (lw_privs_5 ++ (lw_privs_6 ++ (lw_privs_7 ++ (lw_privs_8 ++ (lw_privs_9))))))))
def lw_tbl : List Cond := k2_sels lw_privs ++ tables_1
theorem lw_privs_ok : ∀ q ∈ lw_privs, lw_okq q := by
  show ∀ q ∈ lw_privs_1 ++ (lw_privs_2 ++ (lw_privs_3 ++ (lw_privs_4 ++ (lw_privs_5 ++ (lw_privs_6 ++ (lw_privs_7 ++ (lw_privs_8 ++ (lw_privs_9)))))))), lw_okq q
  exact List.forall_mem_append.mpr ⟨lw_r1, List.forall_mem_append.mpr ⟨lw_r2, List.forall_mem_append.mpr ⟨lw_r3, List.forall_mem_append.mpr ⟨lw_r4, List.forall_mem_append.mpr ⟨lw_r5, List.forall_mem_append.mpr ⟨lw_r6, List.forall_mem_append.mpr ⟨lw_r7, List.forall_mem_append.mpr ⟨lw_r8, lw_r9⟩⟩⟩⟩⟩⟩⟩⟩
-- ===== end of PART A; then your names; then what follows =====
end
section
def RX0 : String := "LetterTray$Desk"
def TX0 : u_T := fun k => match k with
  | 0 => ("LetterTray$Desk", "bag", "[I", true)
  | 1 => ("LetterTray$Desk", "tray", "[I", true)
  | 2 => ("LetterTray$Desk", "laidWords", "[I", true)
  | 3 => ("LetterTray$Desk", "laidBlanks", "[I", true)
  | 4 => ("LetterTray$Desk", "count", "I", false)
  | 5 => ("LetterTray$Desk", "score", "I", false)
  | _ => ("LetterTray$Desk", "turns", "I", false)
def tyX0 : Nat → FieldType := fun k => match k with
  | 0 => .array .int
  | 1 => .array .int
  | 2 => .array .int
  | 3 => .array .int
  | 4 => .int
  | 5 => .int
  | _ => .int
abbrev wsX00 : List Cond := u_ws RX0 TX0 7
theorem nmX0 : ∀ a, a < 7 → ∀ b, b < 7 → a ≠ b → (TX0 a).2.1 ≠ (TX0 b).2.1 := by decide +kernel
theorem tyX0_ok : ∀ k, k < 7 → parseFieldDescriptor (TX0 k).2.2.1 = some (tyX0 k) := by decide +kernel
abbrev cX0_init : ByteArray := prog_2_method_1_code
def yX0_init : MethodName := ⟨RX0, "<init>", "()V"⟩
abbrev cX0_clear : ByteArray := prog_2_method_2_code
def yX0_clear : MethodName := ⟨RX0, "clear", "([I)V"⟩
abbrev cX0_become : ByteArray := prog_2_method_3_code
def yX0_become : MethodName := ⟨RX0, "become", "(LLetterTray$Desk;)V"⟩
abbrev cX0_hasLaid : ByteArray := prog_2_method_4_code
def yX0_hasLaid : MethodName := ⟨RX0, "hasLaid", "(I)Z"⟩
abbrev cX0_toTray : ByteArray := prog_2_method_5_code
def yX0_toTray : MethodName := ⟨RX0, "toTray", "(I)V"⟩
abbrev cX0_toBag : ByteArray := prog_2_method_6_code
def yX0_toBag : MethodName := ⟨RX0, "toBag", "(I)V"⟩
abbrev cX0_layDown : ByteArray := prog_2_method_7_code
def yX0_layDown : MethodName := ⟨RX0, "layDown", "(LLetterTray$Words;I)V"⟩
abbrev cX0_takeUp : ByteArray := prog_2_method_8_code
def yX0_takeUp : MethodName := ⟨RX0, "takeUp", "(LLetterTray$Words;I)V"⟩
def RX1 : String := "LetterTray$History"
def TX1 : u_T := fun k => match k with
  | 0 => ("LetterTray$History", "ring", "[LLetterTray$Desk;", true)
  | 1 => ("LetterTray$History", "next", "I", false)
  | _ => ("LetterTray$History", "count", "I", false)
def tyX1 : Nat → FieldType := fun k => match k with
  | 0 => .array (.object "LetterTray$Desk")
  | 1 => .int
  | _ => .int
abbrev wsX10 : List Cond := u_ws RX1 TX1 3
theorem nmX1 : ∀ a, a < 3 → ∀ b, b < 3 → a ≠ b → (TX1 a).2.1 ≠ (TX1 b).2.1 := by decide +kernel
theorem tyX1_ok : ∀ k, k < 3 → parseFieldDescriptor (TX1 k).2.2.1 = some (tyX1 k) := by decide +kernel
abbrev cX1_init : ByteArray := prog_3_method_1_code
def yX1_init : MethodName := ⟨RX1, "<init>", "()V"⟩
abbrev cX1_clear : ByteArray := prog_3_method_2_code
def yX1_clear : MethodName := ⟨RX1, "clear", "()V"⟩
abbrev cX1_push : ByteArray := prog_3_method_3_code
def yX1_push : MethodName := ⟨RX1, "push", "(LLetterTray$Desk;)V"⟩
abbrev cX1_pop : ByteArray := prog_3_method_4_code
def yX1_pop : MethodName := ⟨RX1, "pop", "(ILLetterTray$Desk;)V"⟩
def RX2 : String := "LetterTray$Image"
def TX2 : u_T := fun k => match k with
  | 0 => ("LetterTray$Image", "desk", "LLetterTray$Desk;", true)
  | 1 => ("LetterTray$Image", "chance", "I", false)
  | _ => ("LetterTray$Image", "kept", "Z", false)
def tyX2 : Nat → FieldType := fun k => match k with
  | 0 => .object "LetterTray$Desk"
  | 1 => .int
  | _ => .boolean
abbrev wsX20 : List Cond := u_ws RX2 TX2 3
theorem nmX2 : ∀ a, a < 3 → ∀ b, b < 3 → a ≠ b → (TX2 a).2.1 ≠ (TX2 b).2.1 := by decide +kernel
theorem tyX2_ok : ∀ k, k < 3 → parseFieldDescriptor (TX2 k).2.2.1 = some (tyX2 k) := by decide +kernel
abbrev cX2_init : ByteArray := prog_4_method_1_code
def yX2_init : MethodName := ⟨RX2, "<init>", "()V"⟩
def RX3 : String := "LetterTray$Reader"
def TX3 : u_T := fun k => match k with
  | 0 => ("LetterTray$Reader", "text", "[C", true)
  | 1 => ("LetterTray$Reader", "length", "I", false)
  | 2 => ("LetterTray$Reader", "at", "I", false)
  | 3 => ("LetterTray$Reader", "flaw", "I", false)
  | _ => ("LetterTray$Reader", "flawAt", "I", false)
def tyX3 : Nat → FieldType := fun k => match k with
  | 0 => .array .char
  | 1 => .int
  | 2 => .int
  | 3 => .int
  | _ => .int
abbrev wsX30 : List Cond := u_ws RX3 TX3 5
theorem nmX3 : ∀ a, a < 5 → ∀ b, b < 5 → a ≠ b → (TX3 a).2.1 ≠ (TX3 b).2.1 := by decide +kernel
theorem tyX3_ok : ∀ k, k < 5 → parseFieldDescriptor (TX3 k).2.2.1 = some (tyX3 k) := by decide +kernel
abbrev cX3_init : ByteArray := prog_5_method_1_code
def yX3_init : MethodName := ⟨RX3, "<init>", "()V"⟩
abbrev cX3_append : ByteArray := prog_5_method_2_code
def yX3_append : MethodName := ⟨RX3, "append", "(I)Z"⟩
abbrev cX3_read : ByteArray := prog_5_method_3_code
def yX3_read : MethodName := ⟨RX3, "read", "(LLetterTray$Words;)I"⟩
abbrev cX3_readClause : ByteArray := prog_5_method_4_code
def yX3_readClause : MethodName := ⟨RX3, "readClause", "(LLetterTray$Words;)V"⟩
abbrev cX3_startClause : ByteArray := prog_5_method_5_code
def yX3_startClause : MethodName := ⟨RX3, "startClause", "(Z)V"⟩
abbrev cX3_readValues : ByteArray := prog_5_method_6_code
def yX3_readValues : MethodName := ⟨RX3, "readValues", "(LLetterTray$Words;)V"⟩
abbrev cX3_readBag : ByteArray := prog_5_method_7_code
def yX3_readBag : MethodName := ⟨RX3, "readBag", "(LLetterTray$Words;)V"⟩
abbrev cX3_readWord : ByteArray := prog_5_method_8_code
def yX3_readWord : MethodName := ⟨RX3, "readWord", "(LLetterTray$Words;)V"⟩
abbrev cX3_endWord : ByteArray := prog_5_method_9_code
def yX3_endWord : MethodName := ⟨RX3, "endWord", "(LLetterTray$Words;II)V"⟩
abbrev cX3_endLetters : ByteArray := prog_5_method_10_code
def yX3_endLetters : MethodName := ⟨RX3, "endLetters", "(I)V"⟩
abbrev cX3_readNumber : ByteArray := prog_5_method_11_code
def yX3_readNumber : MethodName := ⟨RX3, "readNumber", "(II)I"⟩
abbrev cX3_pass : ByteArray := prog_5_method_12_code
def yX3_pass : MethodName := ⟨RX3, "pass", "(C)V"⟩
abbrev cX3_stands : ByteArray := prog_5_method_13_code
def yX3_stands : MethodName := ⟨RX3, "stands", "(C)Z"⟩
abbrev cX3_skipSpaces : ByteArray := prog_5_method_14_code
def yX3_skipSpaces : MethodName := ⟨RX3, "skipSpaces", "()V"⟩
abbrev cX3_sortHere : ByteArray := prog_5_method_15_code
def yX3_sortHere : MethodName := ⟨RX3, "sortHere", "()I"⟩
abbrev cX3_fail : ByteArray := prog_5_method_16_code
def yX3_fail : MethodName := ⟨RX3, "fail", "(II)V"⟩
def RX4 : String := "LetterTray$Rows"
def TX4 : u_T := fun k => match k with
  | 0 => ("LetterTray$Rows", "tray", "[I", true)
  | 1 => ("LetterTray$Rows", "weight", "[I", true)
  | 2 => ("LetterTray$Rows", "ways", "[I", true)
  | 3 => ("LetterTray$Rows", "best", "[I", true)
  | 4 => ("LetterTray$Rows", "rests", "I", false)
  | 5 => ("LetterTray$Rows", "fresh", "Z", false)
  | _ => ("LetterTray$Rows", "words", "LLetterTray$Words;", false)
def tyX4 : Nat → FieldType := fun k => match k with
  | 0 => .array .int
  | 1 => .array .int
  | 2 => .array .int
  | 3 => .array .int
  | 4 => .int
  | 5 => .boolean
  | _ => .object "LetterTray$Words"
abbrev wsX40 : List Cond := u_ws RX4 TX4 7
theorem nmX4 : ∀ a, a < 7 → ∀ b, b < 7 → a ≠ b → (TX4 a).2.1 ≠ (TX4 b).2.1 := by decide +kernel
theorem tyX4_ok : ∀ k, k < 7 → parseFieldDescriptor (TX4 k).2.2.1 = some (tyX4 k) := by decide +kernel
abbrev cX4_init : ByteArray := prog_6_method_1_code
def yX4_init : MethodName := ⟨RX4, "<init>", "(LLetterTray$Words;)V"⟩
abbrev cX4_forget : ByteArray := prog_6_method_2_code
def yX4_forget : MethodName := ⟨RX4, "forget", "()V"⟩
abbrev cX4_tryOut : ByteArray := prog_6_method_3_code
def yX4_tryOut : MethodName := ⟨RX4, "tryOut", "(LLetterTray$Words;[I)V"⟩
abbrev cX4_isTray : ByteArray := prog_6_method_4_code
def yX4_isTray : MethodName := ⟨RX4, "isTray", "([I)Z"⟩
abbrev cX4_countRests : ByteArray := prog_6_method_5_code
def yX4_countRests : MethodName := ⟨RX4, "countRests", "()V"⟩
abbrev cX4_countWays : ByteArray := prog_6_method_6_code
def yX4_countWays : MethodName := ⟨RX4, "countWays", "()V"⟩
abbrev cX4_rankRests : ByteArray := prog_6_method_7_code
def yX4_rankRests : MethodName := ⟨RX4, "rankRests", "()V"⟩
abbrev cX4_rankWith : ByteArray := prog_6_method_8_code
def yX4_rankWith : MethodName := ⟨RX4, "rankWith", "(II)I"⟩
abbrev cX4_after : ByteArray := prog_6_method_9_code
def yX4_after : MethodName := ⟨RX4, "after", "(II)I"⟩
abbrev cX4_countIn : ByteArray := prog_6_method_10_code
def yX4_countIn : MethodName := ⟨RX4, "countIn", "(II)I"⟩
abbrev cX4_all : ByteArray := prog_6_method_11_code
def yX4_all : MethodName := ⟨RX4, "all", "()I"⟩
abbrev cX4_most : ByteArray := prog_6_method_12_code
def yX4_most : MethodName := ⟨RX4, "most", "()I"⟩
abbrev cX4_many : ByteArray := prog_6_method_13_code
def yX4_many : MethodName := ⟨RX4, "many", "()I"⟩
abbrev cX4_kth : ByteArray := prog_6_method_14_code
def yX4_kth : MethodName := ⟨RX4, "kth", "(I)I"⟩
abbrev cX4_leastOfBest : ByteArray := prog_6_method_15_code
def yX4_leastOfBest : MethodName := ⟨RX4, "leastOfBest", "(I)I"⟩
def RX5 : String := "LetterTray$Talk"
def TX5 : u_T := fun k => match k with
  | 0 => ("LetterTray$Talk", "saidWords", "[I", true)
  | 1 => ("LetterTray$Talk", "saidRights", "[I", true)
  | 2 => ("LetterTray$Talk", "saidMores", "[I", true)
  | 3 => ("LetterTray$Talk", "places", "[I", true)
  | 4 => ("LetterTray$Talk", "placeWords", "[I", true)
  | 5 => ("LetterTray$Talk", "said", "I", false)
  | _ => ("LetterTray$Talk", "written", "I", false)
def tyX5 : Nat → FieldType := fun k => match k with
  | 0 => .array .int
  | 1 => .array .int
  | 2 => .array .int
  | 3 => .array .int
  | 4 => .array .int
  | 5 => .int
  | _ => .int
abbrev wsX50 : List Cond := u_ws RX5 TX5 7
theorem nmX5 : ∀ a, a < 7 → ∀ b, b < 7 → a ≠ b → (TX5 a).2.1 ≠ (TX5 b).2.1 := by decide +kernel
theorem tyX5_ok : ∀ k, k < 7 → parseFieldDescriptor (TX5 k).2.2.1 = some (tyX5 k) := by decide +kernel
abbrev cX5_init : ByteArray := prog_7_method_1_code
def yX5_init : MethodName := ⟨RX5, "<init>", "()V"⟩
abbrev cX5_clear : ByteArray := prog_7_method_2_code
def yX5_clear : MethodName := ⟨RX5, "clear", "()V"⟩
abbrev cX5_addSaid : ByteArray := prog_7_method_3_code
def yX5_addSaid : MethodName := ⟨RX5, "addSaid", "(III)Z"⟩
abbrev cX5_addEntry : ByteArray := prog_7_method_4_code
def yX5_addEntry : MethodName := ⟨RX5, "addEntry", "(II)Z"⟩
abbrev cX5_fitting : ByteArray := prog_7_method_5_code
def yX5_fitting : MethodName := ⟨RX5, "fitting", "(LLetterTray$Words;)I"⟩
abbrev cX5_fits : ByteArray := prog_7_method_6_code
def yX5_fits : MethodName := ⟨RX5, "fits", "(LLetterTray$Words;I)Z"⟩
abbrev cX5_bestToAsk : ByteArray := prog_7_method_7_code
def yX5_bestToAsk : MethodName := ⟨RX5, "bestToAsk", "(LLetterTray$Words;)I"⟩
abbrev cX5_greatestPart : ByteArray := prog_7_method_8_code
def yX5_greatestPart : MethodName := ⟨RX5, "greatestPart", "(LLetterTray$Words;II)I"⟩
abbrev cX5_partWith : ByteArray := prog_7_method_9_code
def yX5_partWith : MethodName := ⟨RX5, "partWith", "(LLetterTray$Words;III)I"⟩
abbrev cX5_firstWrong : ByteArray := prog_7_method_10_code
def yX5_firstWrong : MethodName := ⟨RX5, "firstWrong", "(LLetterTray$Desk;)I"⟩
def RX6 : String := "LetterTray$Words"
def TX6 : u_T := fun k => match k with
  | 0 => ("LetterTray$Words", "values", "[I", true)
  | 1 => ("LetterTray$Words", "bag", "[I", true)
  | 2 => ("LetterTray$Words", "kinds", "[I", true)
  | 3 => ("LetterTray$Words", "lengths", "[I", true)
  | 4 => ("LetterTray$Words", "worths", "[I", true)
  | 5 => ("LetterTray$Words", "spelling", "[I", true)
  | 6 => ("LetterTray$Words", "needed", "[I", true)
  | 7 => ("LetterTray$Words", "steps", "[I", true)
  | 8 => ("LetterTray$Words", "rights", "[I", true)
  | 9 => ("LetterTray$Words", "mores", "[I", true)
  | 10 => ("LetterTray$Words", "isGame", "Z", false)
  | 11 => ("LetterTray$Words", "hasBag", "Z", false)
  | _ => ("LetterTray$Words", "count", "I", false)
def tyX6 : Nat → FieldType := fun k => match k with
  | 0 => .array .int
  | 1 => .array .int
  | 2 => .array .int
  | 3 => .array .int
  | 4 => .array .int
  | 5 => .array .int
  | 6 => .array .int
  | 7 => .array .int
  | 8 => .array .int
  | 9 => .array .int
  | 10 => .boolean
  | 11 => .boolean
  | _ => .int
abbrev wsX60 : List Cond := u_ws RX6 TX6 13
theorem nmX6 : ∀ a, a < 13 → ∀ b, b < 13 → a ≠ b → (TX6 a).2.1 ≠ (TX6 b).2.1 := by decide +kernel
theorem tyX6_ok : ∀ k, k < 13 → parseFieldDescriptor (TX6 k).2.2.1 = some (tyX6 k) := by decide +kernel
abbrev cX6_init : ByteArray := prog_8_method_1_code
def yX6_init : MethodName := ⟨RX6, "<init>", "()V"⟩
abbrev cX6_clear : ByteArray := prog_8_method_2_code
def yX6_clear : MethodName := ⟨RX6, "clear", "()V"⟩
abbrev cX6_has : ByteArray := prog_8_method_3_code
def yX6_has : MethodName := ⟨RX6, "has", "(I)Z"⟩
abbrev cX6_spell : ByteArray := prog_8_method_4_code
def yX6_spell : MethodName := ⟨RX6, "spell", "(II)V"⟩
abbrev cX6_add : ByteArray := prog_8_method_5_code
def yX6_add : MethodName := ⟨RX6, "add", "(II)Z"⟩
abbrev cX6_lengthOf : ByteArray := prog_8_method_6_code
def yX6_lengthOf : MethodName := ⟨RX6, "lengthOf", "(I)I"⟩
abbrev cX6_letterAt : ByteArray := prog_8_method_7_code
def yX6_letterAt : MethodName := ⟨RX6, "letterAt", "(II)I"⟩
abbrev cX6_needOf : ByteArray := prog_8_method_8_code
def yX6_needOf : MethodName := ⟨RX6, "needOf", "(II)I"⟩
abbrev cX6_prepare : ByteArray := prog_8_method_9_code
def yX6_prepare : MethodName := ⟨RX6, "prepare", "()V"⟩
abbrev cX6_countNeeds : ByteArray := prog_8_method_10_code
def yX6_countNeeds : MethodName := ⟨RX6, "countNeeds", "(I)V"⟩
abbrev cX6_worthOf : ByteArray := prog_8_method_11_code
def yX6_worthOf : MethodName := ⟨RX6, "worthOf", "(I)I"⟩
abbrev cX6_isMirror : ByteArray := prog_8_method_12_code
def yX6_isMirror : MethodName := ⟨RX6, "isMirror", "(I)Z"⟩
abbrev cX6_samePlaces : ByteArray := prog_8_method_13_code
def yX6_samePlaces : MethodName := ⟨RX6, "samePlaces", "(II)I"⟩
abbrev cX6_inBoth : ByteArray := prog_8_method_14_code
def yX6_inBoth : MethodName := ⟨RX6, "inBoth", "(II)I"⟩
abbrev cX6_areKin : ByteArray := prog_8_method_15_code
def yX6_areKin : MethodName := ⟨RX6, "areKin", "(II)Z"⟩
abbrev cX6_isStep : ByteArray := prog_8_method_16_code
def yX6_isStep : MethodName := ⟨RX6, "isStep", "(II)Z"⟩
abbrev cX6_isLonger : ByteArray := prog_8_method_17_code
def yX6_isLonger : MethodName := ⟨RX6, "isLonger", "(II)Z"⟩
abbrev cX6_joinSteps : ByteArray := prog_8_method_18_code
def yX6_joinSteps : MethodName := ⟨RX6, "joinSteps", "()V"⟩
abbrev cX6_kinOf : ByteArray := prog_8_method_19_code
def yX6_kinOf : MethodName := ⟨RX6, "kinOf", "(I)I"⟩
abbrev cX6_insideOf : ByteArray := prog_8_method_20_code
def yX6_insideOf : MethodName := ⟨RX6, "insideOf", "(I)I"⟩
abbrev cX6_unused : ByteArray := prog_8_method_21_code
def yX6_unused : MethodName := ⟨RX6, "unused", "()I"⟩
abbrev cX6_rightOf : ByteArray := prog_8_method_22_code
def yX6_rightOf : MethodName := ⟨RX6, "rightOf", "(II)I"⟩
abbrev cX6_moreOf : ByteArray := prog_8_method_23_code
def yX6_moreOf : MethodName := ⟨RX6, "moreOf", "(II)I"⟩
abbrev cX6_stepsTo : ByteArray := prog_8_method_24_code
def yX6_stepsTo : MethodName := ⟨RX6, "stepsTo", "(II)I"⟩
abbrev cX6_nextTo : ByteArray := prog_8_method_25_code
def yX6_nextTo : MethodName := ⟨RX6, "nextTo", "(II)I"⟩
abbrev cX6_farSet : ByteArray := prog_8_method_26_code
def yX6_farSet : MethodName := ⟨RX6, "farSet", "(II)I"⟩
abbrev cX6_farthest : ByteArray := prog_8_method_27_code
def yX6_farthest : MethodName := ⟨RX6, "farthest", "()I"⟩
def RX7 : String := "LetterTray"
def TX7 : u_T := fun k => match k with
  | 0 => ("LetterTray", "reader", "LLetterTray$Reader;", true)
  | 1 => ("LetterTray", "desk", "LLetterTray$Desk;", true)
  | 2 => ("LetterTray", "history", "LLetterTray$History;", true)
  | 3 => ("LetterTray", "images", "[LLetterTray$Image;", true)
  | 4 => ("LetterTray", "rows", "LLetterTray$Rows;", true)
  | 5 => ("LetterTray", "talk", "LLetterTray$Talk;", true)
  | 6 => ("LetterTray", "words", "LLetterTray$Words;", false)
  | 7 => ("LetterTray", "spare", "LLetterTray$Words;", false)
  | 8 => ("LetterTray", "chance", "I", false)
  | _ => ("LetterTray", "faultAt", "I", false)
def tyX7 : Nat → FieldType := fun k => match k with
  | 0 => .object "LetterTray$Reader"
  | 1 => .object "LetterTray$Desk"
  | 2 => .object "LetterTray$History"
  | 3 => .array (.object "LetterTray$Image")
  | 4 => .object "LetterTray$Rows"
  | 5 => .object "LetterTray$Talk"
  | 6 => .object "LetterTray$Words"
  | 7 => .object "LetterTray$Words"
  | 8 => .int
  | _ => .int
abbrev wsX70 : List Cond := u_ws RX7 TX7 10
theorem nmX7 : ∀ a, a < 10 → ∀ b, b < 10 → a ≠ b → (TX7 a).2.1 ≠ (TX7 b).2.1 := by decide +kernel
theorem tyX7_ok : ∀ k, k < 10 → parseFieldDescriptor (TX7 k).2.2.1 = some (tyX7 k) := by decide +kernel
abbrev cX7_init : ByteArray := prog_1_method_1_code
def yX7_init : MethodName := ⟨RX7, "<init>", "()V"⟩
abbrev cX7_feed : ByteArray := prog_1_method_2_code
def yX7_feed : MethodName := ⟨RX7, "feed", "(I)I"⟩
abbrev cX7_game : ByteArray := prog_1_method_3_code
def yX7_game : MethodName := ⟨RX7, "game", "()I"⟩
abbrev cX7_begin : ByteArray := prog_1_method_4_code
def yX7_begin : MethodName := ⟨RX7, "begin", "()V"⟩
abbrev cX7_fault : ByteArray := prog_1_method_5_code
def yX7_fault : MethodName := ⟨RX7, "fault", "()I"⟩
abbrev cX7_told : ByteArray := prog_1_method_6_code
def yX7_told : MethodName := ⟨RX7, "told", "(I)I"⟩
abbrev cX7_letters : ByteArray := prog_1_method_7_code
def yX7_letters : MethodName := ⟨RX7, "letters", "(II)I"⟩
abbrev cX7_word : ByteArray := prog_1_method_8_code
def yX7_word : MethodName := ⟨RX7, "word", "(II)I"⟩
abbrev cX7_spelt : ByteArray := prog_1_method_9_code
def yX7_spelt : MethodName := ⟨RX7, "spelt", "(II)I"⟩
abbrev cX7_laid : ByteArray := prog_1_method_10_code
def yX7_laid : MethodName := ⟨RX7, "laid", "(II)I"⟩
abbrev cX7_draw : ByteArray := prog_1_method_11_code
def yX7_draw : MethodName := ⟨RX7, "draw", "()I"⟩
abbrev cX7_give : ByteArray := prog_1_method_12_code
def yX7_give : MethodName := ⟨RX7, "give", "(I)I"⟩
abbrev cX7_change : ByteArray := prog_1_method_13_code
def yX7_change : MethodName := ⟨RX7, "change", "(I)I"⟩
abbrev cX7_lay : ByteArray := prog_1_method_14_code
def yX7_lay : MethodName := ⟨RX7, "lay", "(I)I"⟩
abbrev cX7_take : ByteArray := prog_1_method_15_code
def yX7_take : MethodName := ⟨RX7, "take", "(I)I"⟩
abbrev cX7_drift : ByteArray := prog_1_method_16_code
def yX7_drift : MethodName := ⟨RX7, "drift", "(I)I"⟩
abbrev cX7_undo : ByteArray := prog_1_method_17_code
def yX7_undo : MethodName := ⟨RX7, "undo", "(I)I"⟩
abbrev cX7_drawRefusal : ByteArray := prog_1_method_18_code
def yX7_drawRefusal : MethodName := ⟨RX7, "drawRefusal", "()I"⟩
abbrev cX7_giveRefusal : ByteArray := prog_1_method_19_code
def yX7_giveRefusal : MethodName := ⟨RX7, "giveRefusal", "(I)I"⟩
abbrev cX7_layRefusal : ByteArray := prog_1_method_20_code
def yX7_layRefusal : MethodName := ⟨RX7, "layRefusal", "(I)I"⟩
abbrev cX7_takeRefusal : ByteArray := prog_1_method_21_code
def yX7_takeRefusal : MethodName := ⟨RX7, "takeRefusal", "(I)I"⟩
abbrev cX7_drawOne : ByteArray := prog_1_method_22_code
def yX7_drawOne : MethodName := ⟨RX7, "drawOne", "()I"⟩
abbrev cX7_giveOne : ByteArray := prog_1_method_23_code
def yX7_giveOne : MethodName := ⟨RX7, "giveOne", "(I)V"⟩
abbrev cX7_layOne : ByteArray := prog_1_method_24_code
def yX7_layOne : MethodName := ⟨RX7, "layOne", "(I)V"⟩
abbrev cX7_takeOne : ByteArray := prog_1_method_25_code
def yX7_takeOne : MethodName := ⟨RX7, "takeOne", "(I)V"⟩
abbrev cX7_driftOnce : ByteArray := prog_1_method_26_code
def yX7_driftOnce : MethodName := ⟨RX7, "driftOnce", "(I)V"⟩
abbrev cX7_driftGive : ByteArray := prog_1_method_27_code
def yX7_driftGive : MethodName := ⟨RX7, "driftGive", "()V"⟩
abbrev cX7_driftLay : ByteArray := prog_1_method_28_code
def yX7_driftLay : MethodName := ⟨RX7, "driftLay", "()V"⟩
abbrev cX7_driftTake : ByteArray := prog_1_method_29_code
def yX7_driftTake : MethodName := ⟨RX7, "driftTake", "()V"⟩
abbrev cX7_drawOf : ByteArray := prog_1_method_30_code
def yX7_drawOf : MethodName := ⟨RX7, "drawOf", "(I)I"⟩
abbrev cX7_needs : ByteArray := prog_1_method_31_code
def yX7_needs : MethodName := ⟨RX7, "needs", "(II)I"⟩
abbrev cX7_first : ByteArray := prog_1_method_32_code
def yX7_first : MethodName := ⟨RX7, "first", "(I)I"⟩
abbrev cX7_ladder : ByteArray := prog_1_method_33_code
def yX7_ladder : MethodName := ⟨RX7, "ladder", "(III)I"⟩
abbrev cX7_far : ByteArray := prog_1_method_34_code
def yX7_far : MethodName := ⟨RX7, "far", "(II)I"⟩
abbrev cX7_right : ByteArray := prog_1_method_35_code
def yX7_right : MethodName := ⟨RX7, "right", "(III)I"⟩
abbrev cX7_luck : ByteArray := prog_1_method_36_code
def yX7_luck : MethodName := ⟨RX7, "luck", "(II)I"⟩
abbrev cX7_missing : ByteArray := prog_1_method_37_code
def yX7_missing : MethodName := ⟨RX7, "missing", "(I)I"⟩
abbrev cX7_can : ByteArray := prog_1_method_38_code
def yX7_can : MethodName := ⟨RX7, "can", "(I)Z"⟩
abbrev cX7_canSet : ByteArray := prog_1_method_39_code
def yX7_canSet : MethodName := ⟨RX7, "canSet", "()I"⟩
abbrev cX7_bestWord : ByteArray := prog_1_method_40_code
def yX7_bestWord : MethodName := ⟨RX7, "bestWord", "()I"⟩
abbrev cX7_odds : ByteArray := prog_1_method_41_code
def yX7_odds : MethodName := ⟨RX7, "odds", "(I)I"⟩
abbrev cX7_tried : ByteArray := prog_1_method_42_code
def yX7_tried : MethodName := ⟨RX7, "tried", "()LLetterTray$Rows;"⟩
abbrev cX7_say : ByteArray := prog_1_method_43_code
def yX7_say : MethodName := ⟨RX7, "say", "(III)I"⟩
abbrev cX7_couldBe : ByteArray := prog_1_method_44_code
def yX7_couldBe : MethodName := ⟨RX7, "couldBe", "()I"⟩
abbrev cX7_ask : ByteArray := prog_1_method_45_code
def yX7_ask : MethodName := ⟨RX7, "ask", "()I"⟩
abbrev cX7_write : ByteArray := prog_1_method_46_code
def yX7_write : MethodName := ⟨RX7, "write", "(II)I"⟩
abbrev cX7_judge : ByteArray := prog_1_method_47_code
def yX7_judge : MethodName := ⟨RX7, "judge", "()I"⟩
abbrev cX7_tear : ByteArray := prog_1_method_48_code
def yX7_tear : MethodName := ⟨RX7, "tear", "()I"⟩
abbrev cX7_seed : ByteArray := prog_1_method_49_code
def yX7_seed : MethodName := ⟨RX7, "seed", "(I)I"⟩
abbrev cX7_keep : ByteArray := prog_1_method_50_code
def yX7_keep : MethodName := ⟨RX7, "keep", "(I)I"⟩
abbrev cX7_goBack : ByteArray := prog_1_method_51_code
def yX7_goBack : MethodName := ⟨RX7, "goBack", "(I)I"⟩
abbrev cX7_sum : ByteArray := prog_1_method_52_code
def yX7_sum : MethodName := ⟨RX7, "sum", "([I)I"⟩
abbrev cX7_nthSort : ByteArray := prog_1_method_53_code
def yX7_nthSort : MethodName := ⟨RX7, "nthSort", "([II)I"⟩
def RX8 : String := "LetterTrayModel"
def TX8 : u_T := fun k => match k with
  | 0 => ("LetterTrayModel", "values", "[I", true)
  | 1 => ("LetterTrayModel", "kinds", "[I", true)
  | 2 => ("LetterTrayModel", "sizes", "[I", true)
  | 3 => ("LetterTrayModel", "spelt", "[I", true)
  | 4 => ("LetterTrayModel", "has", "[I", true)
  | 5 => ("LetterTrayModel", "words", "I", false)
  | 6 => ("LetterTrayModel", "isGame", "Z", false)
  | 7 => ("LetterTrayModel", "st", "[I", true)
  | 8 => ("LetterTrayModel", "seed", "I", false)
  | 9 => ("LetterTrayModel", "past", "[I", true)
  | 10 => ("LetterTrayModel", "undoMany", "I", false)
  | 11 => ("LetterTrayModel", "text", "[I", true)
  | 12 => ("LetterTrayModel", "length", "I", false)
  | 13 => ("LetterTrayModel", "place", "I", false)
  | 14 => ("LetterTrayModel", "wrongAt", "I", false)
  | 15 => ("LetterTrayModel", "wrong", "I", false)
  | 16 => ("LetterTrayModel", "number", "I", false)
  | 17 => ("LetterTrayModel", "newValues", "[I", true)
  | 18 => ("LetterTrayModel", "newBag", "[I", true)
  | 19 => ("LetterTrayModel", "newKinds", "[I", true)
  | 20 => ("LetterTrayModel", "newSizes", "[I", true)
  | 21 => ("LetterTrayModel", "newSpelt", "[I", true)
  | 22 => ("LetterTrayModel", "newWords", "I", false)
  | 23 => ("LetterTrayModel", "newIsBag", "Z", false)
  | 24 => ("LetterTrayModel", "row", "[I", true)
  | 25 => ("LetterTrayModel", "rowMany", "I", false)
  | 26 => ("LetterTrayModel", "needed", "[I", true)
  | 27 => ("LetterTrayModel", "rowLong", "I", false)
  | 28 => ("LetterTrayModel", "rowWorth", "I", false)
  | 29 => ("LetterTrayModel", "allRows", "I", false)
  | 30 => ("LetterTrayModel", "mostWorth", "I", false)
  | 31 => ("LetterTrayModel", "mostMany", "I", false)
  | 32 => ("LetterTrayModel", "mostRow", "[I", true)
  | 33 => ("LetterTrayModel", "said", "[I", true)
  | 34 => ("LetterTrayModel", "saidMany", "I", false)
  | 35 => ("LetterTrayModel", "book", "[I", true)
  | 36 => ("LetterTrayModel", "bookMany", "I", false)
  | 37 => ("LetterTrayModel", "images", "[I", true)
  | _ => ("LetterTrayModel", "isKept", "[Z", true)
def tyX8 : Nat → FieldType := fun k => match k with
  | 0 => .array .int
  | 1 => .array .int
  | 2 => .array .int
  | 3 => .array .int
  | 4 => .array .int
  | 5 => .int
  | 6 => .boolean
  | 7 => .array .int
  | 8 => .int
  | 9 => .array .int
  | 10 => .int
  | 11 => .array .int
  | 12 => .int
  | 13 => .int
  | 14 => .int
  | 15 => .int
  | 16 => .int
  | 17 => .array .int
  | 18 => .array .int
  | 19 => .array .int
  | 20 => .array .int
  | 21 => .array .int
  | 22 => .int
  | 23 => .boolean
  | 24 => .array .int
  | 25 => .int
  | 26 => .array .int
  | 27 => .int
  | 28 => .int
  | 29 => .int
  | 30 => .int
  | 31 => .int
  | 32 => .array .int
  | 33 => .array .int
  | 34 => .int
  | 35 => .array .int
  | 36 => .int
  | 37 => .array .int
  | _ => .array .boolean
abbrev wsX80 : List Cond := u_ws RX8 TX8 39
theorem nmX8 : ∀ a, a < 39 → ∀ b, b < 39 → a ≠ b → (TX8 a).2.1 ≠ (TX8 b).2.1 := by decide +kernel
theorem tyX8_ok : ∀ k, k < 39 → parseFieldDescriptor (TX8 k).2.2.1 = some (tyX8 k) := by decide +kernel
abbrev cX8_init : ByteArray := prog_10_method_1_code
def yX8_init : MethodName := ⟨RX8, "<init>", "()V"⟩
abbrev cX8_in : ByteArray := prog_10_method_2_code
def yX8_in : MethodName := ⟨RX8, "in", "(JJJ)Z"⟩
abbrev cX8_isIn : ByteArray := prog_10_method_3_code
def yX8_isIn : MethodName := ⟨RX8, "isIn", "(II)Z"⟩
abbrev cX8_ones : ByteArray := prog_10_method_4_code
def yX8_ones : MethodName := ⟨RX8, "ones", "(I)I"⟩
abbrev cX8_isWord : ByteArray := prog_10_method_5_code
def yX8_isWord : MethodName := ⟨RX8, "isWord", "(I)Z"⟩
abbrev cX8_isSort : ByteArray := prog_10_method_6_code
def yX8_isSort : MethodName := ⟨RX8, "isSort", "(I)Z"⟩
abbrev cX8_feed : ByteArray := prog_10_method_7_code
def yX8_feed : MethodName := ⟨RX8, "feed", "(I)I"⟩
abbrev cX8_letter : ByteArray := prog_10_method_8_code
def yX8_letter : MethodName := ⟨RX8, "letter", "()I"⟩
abbrev cX8_faults : ByteArray := prog_10_method_9_code
def yX8_faults : MethodName := ⟨RX8, "faults", "(II)Z"⟩
abbrev cX8_takes : ByteArray := prog_10_method_10_code
def yX8_takes : MethodName := ⟨RX8, "takes", "(I)Z"⟩
abbrev cX8_takesNumber : ByteArray := prog_10_method_11_code
def yX8_takesNumber : MethodName := ⟨RX8, "takesNumber", "(II)Z"⟩
abbrev cX8_readValues : ByteArray := prog_10_method_12_code
def yX8_readValues : MethodName := ⟨RX8, "readValues", "()Z"⟩
abbrev cX8_sortBy : ByteArray := prog_10_method_13_code
def yX8_sortBy : MethodName := ⟨RX8, "sortBy", "(I)I"⟩
abbrev cX8_readBag : ByteArray := prog_10_method_14_code
def yX8_readBag : MethodName := ⟨RX8, "readBag", "()Z"⟩
abbrev cX8_isToldAlready : ByteArray := prog_10_method_15_code
def yX8_isToldAlready : MethodName := ⟨RX8, "isToldAlready", "()Z"⟩
abbrev cX8_readWord : ByteArray := prog_10_method_16_code
def yX8_readWord : MethodName := ⟨RX8, "readWord", "()Z"⟩
abbrev cX8_readClause : ByteArray := prog_10_method_17_code
def yX8_readClause : MethodName := ⟨RX8, "readClause", "()Z"⟩
abbrev cX8_readGame : ByteArray := prog_10_method_18_code
def yX8_readGame : MethodName := ⟨RX8, "readGame", "()Z"⟩
abbrev cX8_clear : ByteArray := prog_10_method_19_code
def yX8_clear : MethodName := ⟨RX8, "clear", "()V"⟩
abbrev cX8_game : ByteArray := prog_10_method_20_code
def yX8_game : MethodName := ⟨RX8, "game", "()I"⟩
abbrev cX8_fault : ByteArray := prog_10_method_21_code
def yX8_fault : MethodName := ⟨RX8, "fault", "()I"⟩
abbrev cX8_sumOf : ByteArray := prog_10_method_22_code
def yX8_sumOf : MethodName := ⟨RX8, "sumOf", "(I)I"⟩
abbrev cX8_readsAlike : ByteArray := prog_10_method_23_code
def yX8_readsAlike : MethodName := ⟨RX8, "readsAlike", "(I)Z"⟩
abbrev cX8_worthOf : ByteArray := prog_10_method_24_code
def yX8_worthOf : MethodName := ⟨RX8, "worthOf", "(I)I"⟩
abbrev cX8_missingOf : ByteArray := prog_10_method_25_code
def yX8_missingOf : MethodName := ⟨RX8, "missingOf", "(I)I"⟩
abbrev cX8_can : ByteArray := prog_10_method_26_code
def yX8_can : MethodName := ⟨RX8, "can", "(I)Z"⟩
abbrev cX8_canSet : ByteArray := prog_10_method_27_code
def yX8_canSet : MethodName := ⟨RX8, "canSet", "()I"⟩
abbrev cX8_bestNow : ByteArray := prog_10_method_28_code
def yX8_bestNow : MethodName := ⟨RX8, "bestNow", "()I"⟩
abbrev cX8_isInside : ByteArray := prog_10_method_29_code
def yX8_isInside : MethodName := ⟨RX8, "isInside", "(II)Z"⟩
abbrev cX8_areKin : ByteArray := prog_10_method_30_code
def yX8_areKin : MethodName := ⟨RX8, "areKin", "(II)Z"⟩
abbrev cX8_kinOf : ByteArray := prog_10_method_31_code
def yX8_kinOf : MethodName := ⟨RX8, "kinOf", "(I)I"⟩
abbrev cX8_insideOf : ByteArray := prog_10_method_32_code
def yX8_insideOf : MethodName := ⟨RX8, "insideOf", "(I)I"⟩
abbrev cX8_unusedNow : ByteArray := prog_10_method_33_code
def yX8_unusedNow : MethodName := ⟨RX8, "unusedNow", "()I"⟩
abbrev cX8_oddsOf : ByteArray := prog_10_method_34_code
def yX8_oddsOf : MethodName := ⟨RX8, "oddsOf", "(I)I"⟩
abbrev cX8_letters : ByteArray := prog_10_method_35_code
def yX8_letters : MethodName := ⟨RX8, "letters", "(II)I"⟩
abbrev cX8_word : ByteArray := prog_10_method_36_code
def yX8_word : MethodName := ⟨RX8, "word", "(II)I"⟩
abbrev cX8_spelt : ByteArray := prog_10_method_37_code
def yX8_spelt : MethodName := ⟨RX8, "spelt", "(II)I"⟩
abbrev cX8_isLaid : ByteArray := prog_10_method_38_code
def yX8_isLaid : MethodName := ⟨RX8, "isLaid", "(I)Z"⟩
abbrev cX8_laid : ByteArray := prog_10_method_39_code
def yX8_laid : MethodName := ⟨RX8, "laid", "(II)I"⟩
abbrev cX8_join : ByteArray := prog_10_method_40_code
def yX8_join : MethodName := ⟨RX8, "join", "(II)V"⟩
abbrev cX8_fits : ByteArray := prog_10_method_41_code
def yX8_fits : MethodName := ⟨RX8, "fits", "()Z"⟩
abbrev cX8_judgeRow : ByteArray := prog_10_method_42_code
def yX8_judgeRow : MethodName := ⟨RX8, "judgeRow", "(I)V"⟩
abbrev cX8_goRows : ByteArray := prog_10_method_43_code
def yX8_goRows : MethodName := ⟨RX8, "goRows", "()V"⟩
abbrev cX8_first : ByteArray := prog_10_method_44_code
def yX8_first : MethodName := ⟨RX8, "first", "(I)I"⟩
abbrev cX8_needs : ByteArray := prog_10_method_45_code
def yX8_needs : MethodName := ⟨RX8, "needs", "(II)I"⟩
abbrev cX8_isOneOther : ByteArray := prog_10_method_46_code
def yX8_isOneOther : MethodName := ⟨RX8, "isOneOther", "(II)Z"⟩
abbrev cX8_isOneMore : ByteArray := prog_10_method_47_code
def yX8_isOneMore : MethodName := ⟨RX8, "isOneMore", "(II)Z"⟩
abbrev cX8_isStep : ByteArray := prog_10_method_48_code
def yX8_isStep : MethodName := ⟨RX8, "isStep", "(II)Z"⟩
abbrev cX8_spread : ByteArray := prog_10_method_49_code
def yX8_spread : MethodName := ⟨RX8, "spread", "(I)I"⟩
abbrev cX8_stepsTo : ByteArray := prog_10_method_50_code
def yX8_stepsTo : MethodName := ⟨RX8, "stepsTo", "(II)I"⟩
abbrev cX8_ladder : ByteArray := prog_10_method_51_code
def yX8_ladder : MethodName := ⟨RX8, "ladder", "(III)I"⟩
abbrev cX8_far : ByteArray := prog_10_method_52_code
def yX8_far : MethodName := ⟨RX8, "far", "(II)I"⟩
abbrev cX8_farthest : ByteArray := prog_10_method_53_code
def yX8_farthest : MethodName := ⟨RX8, "farthest", "()I"⟩
abbrev cX8_note : ByteArray := prog_10_method_54_code
def yX8_note : MethodName := ⟨RX8, "note", "()V"⟩
abbrev cX8_drawOf : ByteArray := prog_10_method_55_code
def yX8_drawOf : MethodName := ⟨RX8, "drawOf", "(I)I"⟩
abbrev cX8_sortAt : ByteArray := prog_10_method_56_code
def yX8_sortAt : MethodName := ⟨RX8, "sortAt", "(II)I"⟩
abbrev cX8_move : ByteArray := prog_10_method_57_code
def yX8_move : MethodName := ⟨RX8, "move", "(III)V"⟩
abbrev cX8_drawsOne : ByteArray := prog_10_method_58_code
def yX8_drawsOne : MethodName := ⟨RX8, "drawsOne", "()I"⟩
abbrev cX8_draw : ByteArray := prog_10_method_59_code
def yX8_draw : MethodName := ⟨RX8, "draw", "()I"⟩
abbrev cX8_lacksTurn : ByteArray := prog_10_method_60_code
def yX8_lacksTurn : MethodName := ⟨RX8, "lacksTurn", "(I)I"⟩
abbrev cX8_give : ByteArray := prog_10_method_61_code
def yX8_give : MethodName := ⟨RX8, "give", "(I)I"⟩
abbrev cX8_change : ByteArray := prog_10_method_62_code
def yX8_change : MethodName := ⟨RX8, "change", "(I)I"⟩
abbrev cX8_lays : ByteArray := prog_10_method_63_code
def yX8_lays : MethodName := ⟨RX8, "lays", "(I)V"⟩
abbrev cX8_lay : ByteArray := prog_10_method_64_code
def yX8_lay : MethodName := ⟨RX8, "lay", "(I)I"⟩
abbrev cX8_hasRoom : ByteArray := prog_10_method_65_code
def yX8_hasRoom : MethodName := ⟨RX8, "hasRoom", "(I)Z"⟩
abbrev cX8_takesUp : ByteArray := prog_10_method_66_code
def yX8_takesUp : MethodName := ⟨RX8, "takesUp", "(I)V"⟩
abbrev cX8_take : ByteArray := prog_10_method_67_code
def yX8_take : MethodName := ⟨RX8, "take", "(I)I"⟩
abbrev cX8_byDraws : ByteArray := prog_10_method_68_code
def yX8_byDraws : MethodName := ⟨RX8, "byDraws", "()V"⟩
abbrev cX8_drift : ByteArray := prog_10_method_69_code
def yX8_drift : MethodName := ⟨RX8, "drift", "(I)I"⟩
abbrev cX8_undo : ByteArray := prog_10_method_70_code
def yX8_undo : MethodName := ⟨RX8, "undo", "(I)I"⟩
abbrev cX8_rightOf : ByteArray := prog_10_method_71_code
def yX8_rightOf : MethodName := ⟨RX8, "rightOf", "(II)I"⟩
abbrev cX8_moreOf : ByteArray := prog_10_method_72_code
def yX8_moreOf : MethodName := ⟨RX8, "moreOf", "(II)I"⟩
abbrev cX8_right : ByteArray := prog_10_method_73_code
def yX8_right : MethodName := ⟨RX8, "right", "(III)I"⟩
abbrev cX8_luck : ByteArray := prog_10_method_74_code
def yX8_luck : MethodName := ⟨RX8, "luck", "(II)I"⟩
abbrev cX8_say : ByteArray := prog_10_method_75_code
def yX8_say : MethodName := ⟨RX8, "say", "(III)I"⟩
abbrev cX8_couldBe : ByteArray := prog_10_method_76_code
def yX8_couldBe : MethodName := ⟨RX8, "couldBe", "()I"⟩
abbrev cX8_partBy : ByteArray := prog_10_method_77_code
def yX8_partBy : MethodName := ⟨RX8, "partBy", "(II)I"⟩
abbrev cX8_ask : ByteArray := prog_10_method_78_code
def yX8_ask : MethodName := ⟨RX8, "ask", "()I"⟩
abbrev cX8_write : ByteArray := prog_10_method_79_code
def yX8_write : MethodName := ⟨RX8, "write", "(II)I"⟩
abbrev cX8_judge : ByteArray := prog_10_method_80_code
def yX8_judge : MethodName := ⟨RX8, "judge", "()I"⟩
abbrev cX8_tear : ByteArray := prog_10_method_81_code
def yX8_tear : MethodName := ⟨RX8, "tear", "()I"⟩
abbrev cX8_seed : ByteArray := prog_10_method_82_code
def yX8_seed : MethodName := ⟨RX8, "seed", "(I)I"⟩
abbrev cX8_keep : ByteArray := prog_10_method_83_code
def yX8_keep : MethodName := ⟨RX8, "keep", "(I)I"⟩
abbrev cX8_goBack : ByteArray := prog_10_method_84_code
def yX8_goBack : MethodName := ⟨RX8, "goBack", "(I)I"⟩
abbrev cX8_toldOfRows : ByteArray := prog_10_method_85_code
def yX8_toldOfRows : MethodName := ⟨RX8, "toldOfRows", "(I)I"⟩
abbrev cX8_told : ByteArray := prog_10_method_86_code
def yX8_told : MethodName := ⟨RX8, "told", "(I)I"⟩
def RJ6 : String := "java/lang/Integer"
def TJ6 : u_T := fun k => match k with
  | _ => ("", "", "", false)
def tyJ6 : Nat → FieldType := fun k => match k with
  | _ => .int
abbrev wsJ60 : List Cond := u_ws RJ6 TJ6 0
theorem nmJ6 : ∀ a, a < 0 → ∀ b, b < 0 → a ≠ b → (TJ6 a).2.1 ≠ (TJ6 b).2.1 := by decide +kernel
theorem tyJ6_ok : ∀ k, k < 0 → parseFieldDescriptor (TJ6 k).2.2.1 = some (tyJ6 k) := by decide +kernel
abbrev cJ6_bitCount_0f7a4 : ByteArray := prog_11_method_49_code
def yJ6_bitCount_0f7a4 : MethodName := ⟨RJ6, "bitCount", "(I)I"⟩
def RJ9 : String := "java/lang/Math"
def TJ9 : u_T := fun k => match k with
  | _ => ("", "", "", false)
def tyJ9 : Nat → FieldType := fun k => match k with
  | _ => .int
abbrev wsJ90 : List Cond := u_ws RJ9 TJ9 0
theorem nmJ9 : ∀ a, a < 0 → ∀ b, b < 0 → a ≠ b → (TJ9 a).2.1 ≠ (TJ9 b).2.1 := by decide +kernel
theorem tyJ9_ok : ∀ k, k < 0 → parseFieldDescriptor (TJ9 k).2.2.1 = some (tyJ9 k) := by decide +kernel
abbrev cJ9_max_7cf53 : ByteArray := prog_12_method_65_code
def yJ9_max_7cf53 : MethodName := ⟨RJ9, "max", "(II)I"⟩
abbrev cJ9_min_7cf53 : ByteArray := prog_12_method_69_code
def yJ9_min_7cf53 : MethodName := ⟨RJ9, "min", "(II)I"⟩
def RJ10 : String := "java/lang/System"
def TJ10 : u_T := fun k => match k with
  | _ => ("", "", "", false)
def tyJ10 : Nat → FieldType := fun k => match k with
  | _ => .int
abbrev wsJ100 : List Cond := u_ws RJ10 TJ10 0
theorem nmJ10 : ∀ a, a < 0 → ∀ b, b < 0 → a ≠ b → (TJ10 a).2.1 ≠ (TJ10 b).2.1 := by decide +kernel
theorem tyJ10_ok : ∀ k, k < 0 → parseFieldDescriptor (TJ10 k).2.2.1 = some (tyJ10 k) := by decide +kernel
def RJ7 : String := "java/util/Arrays"
def TJ7 : u_T := fun k => match k with
  | _ => ("", "", "", false)
def tyJ7 : Nat → FieldType := fun k => match k with
  | _ => .int
abbrev wsJ70 : List Cond := u_ws RJ7 TJ7 0
theorem nmJ7 : ∀ a, a < 0 → ∀ b, b < 0 → a ≠ b → (TJ7 a).2.1 ≠ (TJ7 b).2.1 := by decide +kernel
theorem tyJ7_ok : ∀ k, k < 0 → parseFieldDescriptor (TJ7 k).2.2.1 = some (tyJ7 k) := by decide +kernel
abbrev cJ7_fill_53178 : ByteArray := prog_14_method_103_code
def yJ7_fill_53178 : MethodName := ⟨RJ7, "fill", "([II)V"⟩
def RL : String := "LetterTrayLaw"
abbrev cL_law : ByteArray := code
def yL_law : MethodName := ⟨RL, "law", "([I)Z"⟩
def wsX0_init : List Cond := .code yX0_init cX0_init 1 none :: ([.methodLink RX0 3 objectInit, .instanceMethod objectInit, .code objectInit ⟨#[0xb1]⟩ 1 none, .arrayClass .int, .fieldLink RX0 9 "LetterTray$Desk" "bag" "[I", .fieldLink RX0 15 "LetterTray$Desk" "tray" "[I", .fieldLink RX0 18 "LetterTray$Desk" "laidWords" "[I", .fieldLink RX0 21 "LetterTray$Desk" "laidBlanks" "[I", .fieldLink RX0 24 "LetterTray$Desk" "count" "I", .fieldLink RX0 28 "LetterTray$Desk" "score" "I", .fieldLink RX0 31 "LetterTray$Desk" "turns" "I"] ++ wsX00)
def wsJ7_fill_53178 : List Cond := .code yJ7_fill_53178 cJ7_fill_53178 4 none :: ([])
def wsX0_clear : List Cond := .code yX0_clear cX0_clear 2 none :: ([.fieldLink RX0 9 "LetterTray$Desk" "bag" "[I", .methodLink RX0 34 arraycopyName, .native arraycopyName, .static arraycopyName, .initialized "java/lang/System", .fieldLink RX0 15 "LetterTray$Desk" "tray" "[I", .fieldLink RX0 24 "LetterTray$Desk" "count" "I", .fieldLink RX0 28 "LetterTray$Desk" "score" "I", .fieldLink RX0 31 "LetterTray$Desk" "turns" "I", .methodLink RX0 40 yJ7_fill_53178, .static yJ7_fill_53178, .initialized RJ7, .code yJ7_fill_53178 cJ7_fill_53178 4 none] ++ wsX00)
abbrev vwCl : List vw_C := [(RX0, TX0, 7), (RX1, TX1, 3), (RX2, TX2, 3), (RX3, TX3, 5), (RX4, TX4, 7), (RX5, TX5, 7), (RX6, TX6, 13), (RX7, TX7, 10), (RX8, TX8, 39)]
end
section
theorem dX3_init_0 : decode cX3_init 0 = .ok (.aload_n 0, 1) := by decide +kernel
theorem dX3_init_1 : decode cX3_init 1 = .ok (.invokespecial 3, 3) := by decide +kernel
theorem dX3_init_4 : decode cX3_init 4 = .ok (.aload_n 0, 1) := by decide +kernel
theorem dX3_init_5 : decode cX3_init 5 = .ok (.sipush 240, 3) := by decide +kernel
theorem dX3_init_8 : decode cX3_init 8 = .ok (.newarray .char, 2) := by decide +kernel
theorem dX3_init_10 : decode cX3_init 10 = .ok (.putfield 9, 3) := by decide +kernel
theorem dX3_init_13 : decode cX3_init 13 = .ok (.aload_n 0, 1) := by decide +kernel
theorem dX3_init_14 : decode cX3_init 14 = .ok (.iconst 0, 1) := by decide +kernel
theorem dX3_init_15 : decode cX3_init 15 = .ok (.putfield 15, 3) := by decide +kernel
theorem dX3_init_18 : decode cX3_init 18 = .ok (.aload_n 0, 1) := by decide +kernel
theorem dX3_init_19 : decode cX3_init 19 = .ok (.iconst 0, 1) := by decide +kernel
theorem dX3_init_20 : decode cX3_init 20 = .ok (.putfield 19, 3) := by decide +kernel
theorem dX3_init_23 : decode cX3_init 23 = .ok (.aload_n 0, 1) := by decide +kernel
theorem dX3_init_24 : decode cX3_init 24 = .ok (.iconst 0, 1) := by decide +kernel
theorem dX3_init_25 : decode cX3_init 25 = .ok (.putfield 22, 3) := by decide +kernel
theorem dX3_init_28 : decode cX3_init 28 = .ok (.aload_n 0, 1) := by decide +kernel
theorem dX3_init_29 : decode cX3_init 29 = .ok (.iconst (-1), 1) := by decide +kernel
theorem dX3_init_30 : decode cX3_init 30 = .ok (.putfield 25, 3) := by decide +kernel
theorem dX3_init_33 : decode cX3_init 33 = .ok (.return_, 1) := by decide +kernel
theorem dX3_append_0 : decode cX3_append 0 = .ok (.aload_n 0, 1) := by decide +kernel
theorem dX3_append_1 : decode cX3_append 1 = .ok (.getfield 15, 3) := by decide +kernel
theorem dX3_append_4 : decode cX3_append 4 = .ok (.sipush 240, 3) := by decide +kernel
theorem dX3_append_7 : decode cX3_append 7 = .ok (.if_icmp .lt 5, 3) := by decide +kernel
theorem dX3_append_10 : decode cX3_append 10 = .ok (.iconst 0, 1) := by decide +kernel
theorem dX3_append_11 : decode cX3_append 11 = .ok (.ireturn, 1) := by decide +kernel
theorem dX3_append_12 : decode cX3_append 12 = .ok (.aload_n 0, 1) := by decide +kernel
theorem dX3_append_13 : decode cX3_append 13 = .ok (.getfield 9, 3) := by decide +kernel
theorem dX3_append_16 : decode cX3_append 16 = .ok (.aload_n 0, 1) := by decide +kernel
theorem dX3_append_17 : decode cX3_append 17 = .ok (.getfield 15, 3) := by decide +kernel
theorem dX3_append_20 : decode cX3_append 20 = .ok (.iload_n 1, 1) := by decide +kernel
theorem dX3_append_21 : decode cX3_append 21 = .ok (.i2c, 1) := by decide +kernel
theorem dX3_append_22 : decode cX3_append 22 = .ok (.castore, 1) := by decide +kernel
theorem dX3_append_23 : decode cX3_append 23 = .ok (.aload_n 0, 1) := by decide +kernel
theorem dX3_append_24 : decode cX3_append 24 = .ok (.dup, 1) := by decide +kernel
theorem dX3_append_25 : decode cX3_append 25 = .ok (.getfield 15, 3) := by decide +kernel
theorem dX3_append_28 : decode cX3_append 28 = .ok (.iconst 1, 1) := by decide +kernel
theorem dX3_append_29 : decode cX3_append 29 = .ok (.iadd, 1) := by decide +kernel
theorem dX3_append_30 : decode cX3_append 30 = .ok (.putfield 15, 3) := by decide +kernel
theorem dX3_append_33 : decode cX3_append 33 = .ok (.iconst 1, 1) := by decide +kernel
theorem dX3_append_34 : decode cX3_append 34 = .ok (.ireturn, 1) := by decide +kernel
theorem dX3_read_0 : decode cX3_read 0 = .ok (.aload_n 1, 1) := by decide +kernel
theorem dX3_read_1 : decode cX3_read 1 = .ok (.invokevirtual 28, 3) := by decide +kernel
theorem dX3_read_4 : decode cX3_read 4 = .ok (.aload_n 0, 1) := by decide +kernel
theorem dX3_read_5 : decode cX3_read 5 = .ok (.iconst 0, 1) := by decide +kernel
theorem dX3_read_6 : decode cX3_read 6 = .ok (.putfield 19, 3) := by decide +kernel
theorem dX3_read_9 : decode cX3_read 9 = .ok (.aload_n 0, 1) := by decide +kernel
theorem dX3_read_10 : decode cX3_read 10 = .ok (.iconst 0, 1) := by decide +kernel
theorem dX3_read_11 : decode cX3_read 11 = .ok (.putfield 22, 3) := by decide +kernel
theorem dX3_read_14 : decode cX3_read 14 = .ok (.aload_n 0, 1) := by decide +kernel
theorem dX3_read_15 : decode cX3_read 15 = .ok (.iconst (-1), 1) := by decide +kernel
theorem dX3_read_16 : decode cX3_read 16 = .ok (.putfield 25, 3) := by decide +kernel
theorem dX3_read_19 : decode cX3_read 19 = .ok (.aload_n 0, 1) := by decide +kernel
theorem dX3_read_20 : decode cX3_read 20 = .ok (.invokevirtual 33, 3) := by decide +kernel
theorem dX3_read_23 : decode cX3_read 23 = .ok (.iconst 0, 1) := by decide +kernel
theorem dX3_read_24 : decode cX3_read 24 = .ok (.istore_n 2, 1) := by decide +kernel
theorem dX3_read_25 : decode cX3_read 25 = .ok (.iload_n 2, 1) := by decide +kernel
theorem dX3_read_26 : decode cX3_read 26 = .ok (.sipush 240, 3) := by decide +kernel
theorem dX3_read_29 : decode cX3_read 29 = .ok (.if_icmp .ge 36, 3) := by decide +kernel
theorem dX3_read_32 : decode cX3_read 32 = .ok (.aload_n 0, 1) := by decide +kernel
theorem dX3_read_33 : decode cX3_read 33 = .ok (.getfield 19, 3) := by decide +kernel
theorem dX3_read_36 : decode cX3_read 36 = .ok (.aload_n 0, 1) := by decide +kernel
theorem dX3_read_37 : decode cX3_read 37 = .ok (.getfield 15, 3) := by decide +kernel
theorem dX3_read_40 : decode cX3_read 40 = .ok (.if_icmp .ge 25, 3) := by decide +kernel
theorem dX3_read_43 : decode cX3_read 43 = .ok (.aload_n 0, 1) := by decide +kernel
theorem dX3_read_44 : decode cX3_read 44 = .ok (.getfield 22, 3) := by decide +kernel
theorem dX3_read_47 : decode cX3_read 47 = .ok (.ifCond .ne 18, 3) := by decide +kernel
theorem dX3_read_50 : decode cX3_read 50 = .ok (.aload_n 0, 1) := by decide +kernel
theorem dX3_read_51 : decode cX3_read 51 = .ok (.aload_n 1, 1) := by decide +kernel
theorem dX3_read_52 : decode cX3_read 52 = .ok (.invokevirtual 36, 3) := by decide +kernel
theorem dX3_read_55 : decode cX3_read 55 = .ok (.aload_n 0, 1) := by decide +kernel
theorem dX3_read_56 : decode cX3_read 56 = .ok (.invokevirtual 33, 3) := by decide +kernel
theorem dX3_read_59 : decode cX3_read 59 = .ok (.iinc 2 1, 3) := by decide +kernel
theorem dX3_read_62 : decode cX3_read 62 = .ok (.goto (-37), 3) := by decide +kernel
theorem dX3_read_65 : decode cX3_read 65 = .ok (.aload_n 0, 1) := by decide +kernel
theorem dX3_read_66 : decode cX3_read 66 = .ok (.getfield 22, 3) := by decide +kernel
theorem dX3_read_69 : decode cX3_read 69 = .ok (.ireturn, 1) := by decide +kernel
theorem dX3_readClause_0 : decode cX3_readClause 0 = .ok (.aload_n 0, 1) := by decide +kernel
theorem dX3_readClause_1 : decode cX3_readClause 1 = .ok (.bipush 118, 2) := by decide +kernel
theorem dX3_readClause_3 : decode cX3_readClause 3 = .ok (.invokevirtual 40, 3) := by decide +kernel
theorem dX3_readClause_6 : decode cX3_readClause 6 = .ok (.ifCond .eq 19, 3) := by decide +kernel
theorem dX3_readClause_9 : decode cX3_readClause 9 = .ok (.aload_n 0, 1) := by decide +kernel
theorem dX3_readClause_10 : decode cX3_readClause 10 = .ok (.aload_n 1, 1) := by decide +kernel
theorem dX3_readClause_11 : decode cX3_readClause 11 = .ok (.getfield 44, 3) := by decide +kernel
theorem dX3_readClause_14 : decode cX3_readClause 14 = .ok (.invokevirtual 48, 3) := by decide +kernel
theorem dX3_readClause_17 : decode cX3_readClause 17 = .ok (.aload_n 0, 1) := by decide +kernel
theorem dX3_readClause_18 : decode cX3_readClause 18 = .ok (.aload_n 1, 1) := by decide +kernel
theorem dX3_readClause_19 : decode cX3_readClause 19 = .ok (.invokevirtual 52, 3) := by decide +kernel
theorem dX3_readClause_22 : decode cX3_readClause 22 = .ok (.goto 86, 3) := by decide +kernel
theorem dX3_readClause_25 : decode cX3_readClause 25 = .ok (.aload_n 0, 1) := by decide +kernel
theorem dX3_readClause_26 : decode cX3_readClause 26 = .ok (.bipush 98, 2) := by decide +kernel
theorem dX3_readClause_28 : decode cX3_readClause 28 = .ok (.invokevirtual 40, 3) := by decide +kernel
theorem dX3_readClause_31 : decode cX3_readClause 31 = .ok (.ifCond .eq 26, 3) := by decide +kernel
theorem dX3_readClause_34 : decode cX3_readClause 34 = .ok (.aload_n 1, 1) := by decide +kernel
theorem dX3_readClause_35 : decode cX3_readClause 35 = .ok (.getfield 44, 3) := by decide +kernel
theorem dX3_readClause_38 : decode cX3_readClause 38 = .ok (.ifCond .eq 19, 3) := by decide +kernel
theorem dX3_readClause_41 : decode cX3_readClause 41 = .ok (.aload_n 0, 1) := by decide +kernel
theorem dX3_readClause_42 : decode cX3_readClause 42 = .ok (.aload_n 1, 1) := by decide +kernel
theorem dX3_readClause_43 : decode cX3_readClause 43 = .ok (.getfield 55, 3) := by decide +kernel
theorem dX3_readClause_46 : decode cX3_readClause 46 = .ok (.invokevirtual 48, 3) := by decide +kernel
theorem dX3_readClause_49 : decode cX3_readClause 49 = .ok (.aload_n 0, 1) := by decide +kernel
theorem dX3_readClause_50 : decode cX3_readClause 50 = .ok (.aload_n 1, 1) := by decide +kernel
theorem dX3_readClause_51 : decode cX3_readClause 51 = .ok (.invokevirtual 58, 3) := by decide +kernel
theorem dX3_readClause_54 : decode cX3_readClause 54 = .ok (.goto 54, 3) := by decide +kernel
theorem dX3_readClause_57 : decode cX3_readClause 57 = .ok (.aload_n 0, 1) := by decide +kernel
theorem dX3_readClause_58 : decode cX3_readClause 58 = .ok (.bipush 119, 2) := by decide +kernel
theorem dX3_readClause_60 : decode cX3_readClause 60 = .ok (.invokevirtual 40, 3) := by decide +kernel
theorem dX3_readClause_63 : decode cX3_readClause 63 = .ok (.ifCond .eq 36, 3) := by decide +kernel
theorem dX3_readClause_66 : decode cX3_readClause 66 = .ok (.aload_n 1, 1) := by decide +kernel
theorem dX3_readClause_67 : decode cX3_readClause 67 = .ok (.getfield 44, 3) := by decide +kernel
theorem dX3_readClause_70 : decode cX3_readClause 70 = .ok (.ifCond .eq 29, 3) := by decide +kernel
theorem dX3_readClause_73 : decode cX3_readClause 73 = .ok (.aload_n 0, 1) := by decide +kernel
theorem dX3_readClause_74 : decode cX3_readClause 74 = .ok (.aload_n 1, 1) := by decide +kernel
theorem dX3_readClause_75 : decode cX3_readClause 75 = .ok (.getfield 61, 3) := by decide +kernel
theorem dX3_readClause_78 : decode cX3_readClause 78 = .ok (.bipush 10, 2) := by decide +kernel
theorem dX3_readClause_80 : decode cX3_readClause 80 = .ok (.if_icmp .lt 7, 3) := by decide +kernel
theorem dX3_readClause_83 : decode cX3_readClause 83 = .ok (.iconst 1, 1) := by decide +kernel
theorem dX3_readClause_84 : decode cX3_readClause 84 = .ok (.goto 4, 3) := by decide +kernel
theorem dX3_readClause_87 : decode cX3_readClause 87 = .ok (.iconst 0, 1) := by decide +kernel
theorem dX3_readClause_88 : decode cX3_readClause 88 = .ok (.invokevirtual 48, 3) := by decide +kernel
theorem dX3_readClause_91 : decode cX3_readClause 91 = .ok (.aload_n 0, 1) := by decide +kernel
theorem dX3_readClause_92 : decode cX3_readClause 92 = .ok (.aload_n 1, 1) := by decide +kernel
theorem dX3_readClause_93 : decode cX3_readClause 93 = .ok (.invokevirtual 64, 3) := by decide +kernel
theorem dX3_readClause_96 : decode cX3_readClause 96 = .ok (.goto 12, 3) := by decide +kernel
theorem dX3_readClause_99 : decode cX3_readClause 99 = .ok (.aload_n 0, 1) := by decide +kernel
theorem dX3_readClause_100 : decode cX3_readClause 100 = .ok (.iconst 1, 1) := by decide +kernel
theorem dX3_readClause_101 : decode cX3_readClause 101 = .ok (.aload_n 0, 1) := by decide +kernel
theorem dX3_readClause_102 : decode cX3_readClause 102 = .ok (.getfield 19, 3) := by decide +kernel
theorem dX3_readClause_105 : decode cX3_readClause 105 = .ok (.invokevirtual 67, 3) := by decide +kernel
theorem dX3_readClause_108 : decode cX3_readClause 108 = .ok (.return_, 1) := by decide +kernel
theorem dX3_startClause_0 : decode cX3_startClause 0 = .ok (.iload_n 1, 1) := by decide +kernel
theorem dX3_startClause_1 : decode cX3_startClause 1 = .ok (.ifCond .eq 12, 3) := by decide +kernel
theorem dX3_startClause_4 : decode cX3_startClause 4 = .ok (.aload_n 0, 1) := by decide +kernel
theorem dX3_startClause_5 : decode cX3_startClause 5 = .ok (.iconst 3, 1) := by decide +kernel
theorem dX3_startClause_6 : decode cX3_startClause 6 = .ok (.aload_n 0, 1) := by decide +kernel
theorem dX3_startClause_7 : decode cX3_startClause 7 = .ok (.getfield 19, 3) := by decide +kernel
theorem dX3_startClause_10 : decode cX3_startClause 10 = .ok (.invokevirtual 67, 3) := by decide +kernel
theorem dX3_startClause_13 : decode cX3_startClause 13 = .ok (.aload_n 0, 1) := by decide +kernel
theorem dX3_startClause_14 : decode cX3_startClause 14 = .ok (.dup, 1) := by decide +kernel
theorem dX3_startClause_15 : decode cX3_startClause 15 = .ok (.getfield 19, 3) := by decide +kernel
theorem dX3_startClause_18 : decode cX3_startClause 18 = .ok (.iconst 1, 1) := by decide +kernel
theorem dX3_startClause_19 : decode cX3_startClause 19 = .ok (.iadd, 1) := by decide +kernel
theorem dX3_startClause_20 : decode cX3_startClause 20 = .ok (.putfield 19, 3) := by decide +kernel
theorem dX3_startClause_23 : decode cX3_startClause 23 = .ok (.return_, 1) := by decide +kernel
theorem dX3_readValues_0 : decode cX3_readValues 0 = .ok (.aload_n 1, 1) := by decide +kernel
theorem dX3_readValues_1 : decode cX3_readValues 1 = .ok (.iconst 1, 1) := by decide +kernel
theorem dX3_readValues_2 : decode cX3_readValues 2 = .ok (.putfield 44, 3) := by decide +kernel
theorem dX3_readValues_5 : decode cX3_readValues 5 = .ok (.iconst 0, 1) := by decide +kernel
theorem dX3_readValues_6 : decode cX3_readValues 6 = .ok (.istore_n 2, 1) := by decide +kernel
theorem dX3_readValues_7 : decode cX3_readValues 7 = .ok (.iload_n 2, 1) := by decide +kernel
theorem dX3_readValues_8 : decode cX3_readValues 8 = .ok (.bipush 8, 2) := by decide +kernel
theorem dX3_readValues_10 : decode cX3_readValues 10 = .ok (.if_icmp .ge 50, 3) := by decide +kernel
theorem dX3_readValues_13 : decode cX3_readValues 13 = .ok (.aload_n 0, 1) := by decide +kernel
theorem dX3_readValues_14 : decode cX3_readValues 14 = .ok (.getfield 22, 3) := by decide +kernel
theorem dX3_readValues_17 : decode cX3_readValues 17 = .ok (.ifCond .ne 43, 3) := by decide +kernel
theorem dX3_readValues_20 : decode cX3_readValues 20 = .ok (.aload_n 1, 1) := by decide +kernel
theorem dX3_readValues_21 : decode cX3_readValues 21 = .ok (.getfield 71, 3) := by decide +kernel
theorem dX3_readValues_24 : decode cX3_readValues 24 = .ok (.iload_n 2, 1) := by decide +kernel
theorem dX3_readValues_25 : decode cX3_readValues 25 = .ok (.aload_n 0, 1) := by decide +kernel
theorem dX3_readValues_26 : decode cX3_readValues 26 = .ok (.iconst 1, 1) := by decide +kernel
theorem dX3_readValues_27 : decode cX3_readValues 27 = .ok (.bipush 9, 2) := by decide +kernel
theorem dX3_readValues_29 : decode cX3_readValues 29 = .ok (.invokevirtual 75, 3) := by decide +kernel
theorem dX3_readValues_32 : decode cX3_readValues 32 = .ok (.iastore, 1) := by decide +kernel
theorem dX3_readValues_33 : decode cX3_readValues 33 = .ok (.aload_n 0, 1) := by decide +kernel
theorem dX3_readValues_34 : decode cX3_readValues 34 = .ok (.invokevirtual 33, 3) := by decide +kernel
theorem dX3_readValues_37 : decode cX3_readValues 37 = .ok (.aload_n 0, 1) := by decide +kernel
theorem dX3_readValues_38 : decode cX3_readValues 38 = .ok (.iload_n 2, 1) := by decide +kernel
theorem dX3_readValues_39 : decode cX3_readValues 39 = .ok (.bipush 7, 2) := by decide +kernel
theorem dX3_readValues_41 : decode cX3_readValues 41 = .ok (.if_icmp .ge 8, 3) := by decide +kernel
theorem dX3_readValues_44 : decode cX3_readValues 44 = .ok (.bipush 44, 2) := by decide +kernel
theorem dX3_readValues_46 : decode cX3_readValues 46 = .ok (.goto 5, 3) := by decide +kernel
theorem dX3_readValues_49 : decode cX3_readValues 49 = .ok (.bipush 59, 2) := by decide +kernel
theorem dX3_readValues_51 : decode cX3_readValues 51 = .ok (.invokevirtual 79, 3) := by decide +kernel
theorem dX3_readValues_54 : decode cX3_readValues 54 = .ok (.iinc 2 1, 3) := by decide +kernel
theorem dX3_readValues_57 : decode cX3_readValues 57 = .ok (.goto (-50), 3) := by decide +kernel
theorem dX3_readValues_60 : decode cX3_readValues 60 = .ok (.return_, 1) := by decide +kernel
theorem dX3_readBag_0 : decode cX3_readBag 0 = .ok (.aload_n 1, 1) := by decide +kernel
theorem dX3_readBag_1 : decode cX3_readBag 1 = .ok (.iconst 1, 1) := by decide +kernel
theorem dX3_readBag_2 : decode cX3_readBag 2 = .ok (.putfield 55, 3) := by decide +kernel
theorem dX3_readBag_5 : decode cX3_readBag 5 = .ok (.iconst 0, 1) := by decide +kernel
theorem dX3_readBag_6 : decode cX3_readBag 6 = .ok (.istore_n 2, 1) := by decide +kernel
theorem dX3_readBag_7 : decode cX3_readBag 7 = .ok (.iload_n 2, 1) := by decide +kernel
theorem dX3_readBag_8 : decode cX3_readBag 8 = .ok (.bipush 40, 2) := by decide +kernel
theorem dX3_readBag_10 : decode cX3_readBag 10 = .ok (.if_icmp .gt 71, 3) := by decide +kernel
theorem dX3_readBag_13 : decode cX3_readBag 13 = .ok (.aload_n 0, 1) := by decide +kernel
theorem dX3_readBag_14 : decode cX3_readBag 14 = .ok (.getfield 22, 3) := by decide +kernel
theorem dX3_readBag_17 : decode cX3_readBag 17 = .ok (.ifCond .ne 64, 3) := by decide +kernel
theorem dX3_readBag_20 : decode cX3_readBag 20 = .ok (.aload_n 0, 1) := by decide +kernel
theorem dX3_readBag_21 : decode cX3_readBag 21 = .ok (.invokevirtual 33, 3) := by decide +kernel
theorem dX3_readBag_24 : decode cX3_readBag 24 = .ok (.aload_n 0, 1) := by decide +kernel
theorem dX3_readBag_25 : decode cX3_readBag 25 = .ok (.invokevirtual 83, 3) := by decide +kernel
theorem dX3_readBag_28 : decode cX3_readBag 28 = .ok (.istore_n 3, 1) := by decide +kernel
theorem dX3_readBag_29 : decode cX3_readBag 29 = .ok (.iload_n 3, 1) := by decide +kernel
theorem dX3_readBag_30 : decode cX3_readBag 30 = .ok (.iconst (-1), 1) := by decide +kernel
theorem dX3_readBag_31 : decode cX3_readBag 31 = .ok (.if_icmp .ne 9, 3) := by decide +kernel
theorem dX3_readBag_34 : decode cX3_readBag 34 = .ok (.aload_n 0, 1) := by decide +kernel
theorem dX3_readBag_35 : decode cX3_readBag 35 = .ok (.iload_n 2, 1) := by decide +kernel
theorem dX3_readBag_36 : decode cX3_readBag 36 = .ok (.invokevirtual 87, 3) := by decide +kernel
theorem dX3_readBag_39 : decode cX3_readBag 39 = .ok (.return_, 1) := by decide +kernel
theorem dX3_readBag_40 : decode cX3_readBag 40 = .ok (.iload_n 2, 1) := by decide +kernel
theorem dX3_readBag_41 : decode cX3_readBag 41 = .ok (.bipush 40, 2) := by decide +kernel
theorem dX3_readBag_43 : decode cX3_readBag 43 = .ok (.if_icmp .ne 12, 3) := by decide +kernel
theorem dX3_readBag_46 : decode cX3_readBag 46 = .ok (.aload_n 0, 1) := by decide +kernel
theorem dX3_readBag_47 : decode cX3_readBag 47 = .ok (.iconst 2, 1) := by decide +kernel
theorem dX3_readBag_48 : decode cX3_readBag 48 = .ok (.aload_n 0, 1) := by decide +kernel
theorem dX3_readBag_49 : decode cX3_readBag 49 = .ok (.getfield 19, 3) := by decide +kernel
theorem dX3_readBag_52 : decode cX3_readBag 52 = .ok (.invokevirtual 67, 3) := by decide +kernel
theorem dX3_readBag_55 : decode cX3_readBag 55 = .ok (.aload_n 1, 1) := by decide +kernel
theorem dX3_readBag_56 : decode cX3_readBag 56 = .ok (.getfield 91, 3) := by decide +kernel
theorem dX3_readBag_59 : decode cX3_readBag 59 = .ok (.iload_n 3, 1) := by decide +kernel
theorem dX3_readBag_60 : decode cX3_readBag 60 = .ok (.dup2, 1) := by decide +kernel
theorem dX3_readBag_61 : decode cX3_readBag 61 = .ok (.iaload, 1) := by decide +kernel
theorem dX3_readBag_62 : decode cX3_readBag 62 = .ok (.iconst 1, 1) := by decide +kernel
theorem dX3_readBag_63 : decode cX3_readBag 63 = .ok (.iadd, 1) := by decide +kernel
theorem dX3_readBag_64 : decode cX3_readBag 64 = .ok (.iastore, 1) := by decide +kernel
theorem dX3_readBag_65 : decode cX3_readBag 65 = .ok (.aload_n 0, 1) := by decide +kernel
theorem dX3_readBag_66 : decode cX3_readBag 66 = .ok (.dup, 1) := by decide +kernel
theorem dX3_readBag_67 : decode cX3_readBag 67 = .ok (.getfield 19, 3) := by decide +kernel
theorem dX3_readBag_70 : decode cX3_readBag 70 = .ok (.iconst 1, 1) := by decide +kernel
theorem dX3_readBag_71 : decode cX3_readBag 71 = .ok (.iadd, 1) := by decide +kernel
theorem dX3_readBag_72 : decode cX3_readBag 72 = .ok (.putfield 19, 3) := by decide +kernel
theorem dX3_readBag_75 : decode cX3_readBag 75 = .ok (.iinc 2 1, 3) := by decide +kernel
theorem dX3_readBag_78 : decode cX3_readBag 78 = .ok (.goto (-71), 3) := by decide +kernel
theorem dX3_readBag_81 : decode cX3_readBag 81 = .ok (.return_, 1) := by decide +kernel
theorem dX3_readWord_0 : decode cX3_readWord 0 = .ok (.aload_n 0, 1) := by decide +kernel
theorem dX3_readWord_1 : decode cX3_readWord 1 = .ok (.iconst 0, 1) := by decide +kernel
theorem dX3_readWord_2 : decode cX3_readWord 2 = .ok (.iconst 3, 1) := by decide +kernel
theorem dX3_readWord_3 : decode cX3_readWord 3 = .ok (.invokevirtual 75, 3) := by decide +kernel
theorem dX3_readWord_6 : decode cX3_readWord 6 = .ok (.istore_n 2, 1) := by decide +kernel
theorem dX3_readWord_7 : decode cX3_readWord 7 = .ok (.iconst 0, 1) := by decide +kernel
theorem dX3_readWord_8 : decode cX3_readWord 8 = .ok (.istore_n 3, 1) := by decide +kernel
theorem dX3_readWord_9 : decode cX3_readWord 9 = .ok (.iload_n 3, 1) := by decide +kernel
theorem dX3_readWord_10 : decode cX3_readWord 10 = .ok (.bipush 6, 2) := by decide +kernel
theorem dX3_readWord_12 : decode cX3_readWord 12 = .ok (.if_icmp .gt 82, 3) := by decide +kernel
theorem dX3_readWord_15 : decode cX3_readWord 15 = .ok (.aload_n 0, 1) := by decide +kernel
theorem dX3_readWord_16 : decode cX3_readWord 16 = .ok (.getfield 22, 3) := by decide +kernel
theorem dX3_readWord_19 : decode cX3_readWord 19 = .ok (.ifCond .ne 75, 3) := by decide +kernel
theorem dX3_readWord_22 : decode cX3_readWord 22 = .ok (.aload_n 0, 1) := by decide +kernel
theorem dX3_readWord_23 : decode cX3_readWord 23 = .ok (.invokevirtual 33, 3) := by decide +kernel
theorem dX3_readWord_26 : decode cX3_readWord 26 = .ok (.aload_n 0, 1) := by decide +kernel
theorem dX3_readWord_27 : decode cX3_readWord 27 = .ok (.invokevirtual 83, 3) := by decide +kernel
theorem dX3_readWord_30 : decode cX3_readWord 30 = .ok (.istore 4, 2) := by decide +kernel
theorem dX3_readWord_32 : decode cX3_readWord 32 = .ok (.iload 4, 2) := by decide +kernel
theorem dX3_readWord_34 : decode cX3_readWord 34 = .ok (.iconst (-1), 1) := by decide +kernel
theorem dX3_readWord_35 : decode cX3_readWord 35 = .ok (.if_icmp .eq 10, 3) := by decide +kernel
theorem dX3_readWord_38 : decode cX3_readWord 38 = .ok (.iload 4, 2) := by decide +kernel
theorem dX3_readWord_40 : decode cX3_readWord 40 = .ok (.bipush 8, 2) := by decide +kernel
theorem dX3_readWord_42 : decode cX3_readWord 42 = .ok (.if_icmp .ne 11, 3) := by decide +kernel
theorem dX3_readWord_45 : decode cX3_readWord 45 = .ok (.aload_n 0, 1) := by decide +kernel
theorem dX3_readWord_46 : decode cX3_readWord 46 = .ok (.aload_n 1, 1) := by decide +kernel
theorem dX3_readWord_47 : decode cX3_readWord 47 = .ok (.iload_n 2, 1) := by decide +kernel
theorem dX3_readWord_48 : decode cX3_readWord 48 = .ok (.iload_n 3, 1) := by decide +kernel
theorem dX3_readWord_49 : decode cX3_readWord 49 = .ok (.invokevirtual 94, 3) := by decide +kernel
theorem dX3_readWord_52 : decode cX3_readWord 52 = .ok (.return_, 1) := by decide +kernel
theorem dX3_readWord_53 : decode cX3_readWord 53 = .ok (.iload_n 3, 1) := by decide +kernel
theorem dX3_readWord_54 : decode cX3_readWord 54 = .ok (.bipush 6, 2) := by decide +kernel
theorem dX3_readWord_56 : decode cX3_readWord 56 = .ok (.if_icmp .ne 15, 3) := by decide +kernel
theorem dX3_readWord_59 : decode cX3_readWord 59 = .ok (.aload_n 0, 1) := by decide +kernel
theorem dX3_readWord_60 : decode cX3_readWord 60 = .ok (.iconst 2, 1) := by decide +kernel
theorem dX3_readWord_61 : decode cX3_readWord 61 = .ok (.aload_n 0, 1) := by decide +kernel
theorem dX3_readWord_62 : decode cX3_readWord 62 = .ok (.getfield 19, 3) := by decide +kernel
theorem dX3_readWord_65 : decode cX3_readWord 65 = .ok (.invokevirtual 67, 3) := by decide +kernel
theorem dX3_readWord_68 : decode cX3_readWord 68 = .ok (.goto 10, 3) := by decide +kernel
theorem dX3_readWord_71 : decode cX3_readWord 71 = .ok (.aload_n 1, 1) := by decide +kernel
theorem dX3_readWord_72 : decode cX3_readWord 72 = .ok (.iload_n 3, 1) := by decide +kernel
theorem dX3_readWord_73 : decode cX3_readWord 73 = .ok (.iload 4, 2) := by decide +kernel
theorem dX3_readWord_75 : decode cX3_readWord 75 = .ok (.invokevirtual 98, 3) := by decide +kernel
theorem dX3_readWord_78 : decode cX3_readWord 78 = .ok (.aload_n 0, 1) := by decide +kernel
theorem dX3_readWord_79 : decode cX3_readWord 79 = .ok (.dup, 1) := by decide +kernel
theorem dX3_readWord_80 : decode cX3_readWord 80 = .ok (.getfield 19, 3) := by decide +kernel
theorem dX3_readWord_83 : decode cX3_readWord 83 = .ok (.iconst 1, 1) := by decide +kernel
theorem dX3_readWord_84 : decode cX3_readWord 84 = .ok (.iadd, 1) := by decide +kernel
theorem dX3_readWord_85 : decode cX3_readWord 85 = .ok (.putfield 19, 3) := by decide +kernel
theorem dX3_readWord_88 : decode cX3_readWord 88 = .ok (.iinc 3 1, 3) := by decide +kernel
theorem dX3_readWord_91 : decode cX3_readWord 91 = .ok (.goto (-82), 3) := by decide +kernel
theorem dX3_readWord_94 : decode cX3_readWord 94 = .ok (.return_, 1) := by decide +kernel
theorem dX3_endWord_0 : decode cX3_endWord 0 = .ok (.aload_n 0, 1) := by decide +kernel
theorem dX3_endWord_1 : decode cX3_endWord 1 = .ok (.getfield 19, 3) := by decide +kernel
theorem dX3_endWord_4 : decode cX3_endWord 4 = .ok (.istore 4, 2) := by decide +kernel
theorem dX3_endWord_6 : decode cX3_endWord 6 = .ok (.aload_n 0, 1) := by decide +kernel
theorem dX3_endWord_7 : decode cX3_endWord 7 = .ok (.iload_n 3, 1) := by decide +kernel
theorem dX3_endWord_8 : decode cX3_endWord 8 = .ok (.invokevirtual 87, 3) := by decide +kernel
theorem dX3_endWord_11 : decode cX3_endWord 11 = .ok (.aload_n 0, 1) := by decide +kernel
theorem dX3_endWord_12 : decode cX3_endWord 12 = .ok (.getfield 22, 3) := by decide +kernel
theorem dX3_endWord_15 : decode cX3_endWord 15 = .ok (.ifCond .ne 19, 3) := by decide +kernel
theorem dX3_endWord_18 : decode cX3_endWord 18 = .ok (.aload_n 1, 1) := by decide +kernel
theorem dX3_endWord_19 : decode cX3_endWord 19 = .ok (.iload_n 2, 1) := by decide +kernel
theorem dX3_endWord_20 : decode cX3_endWord 20 = .ok (.iload_n 3, 1) := by decide +kernel
theorem dX3_endWord_21 : decode cX3_endWord 21 = .ok (.invokevirtual 101, 3) := by decide +kernel
theorem dX3_endWord_24 : decode cX3_endWord 24 = .ok (.ifCond .ne 10, 3) := by decide +kernel
theorem dX3_endWord_27 : decode cX3_endWord 27 = .ok (.aload_n 0, 1) := by decide +kernel
theorem dX3_endWord_28 : decode cX3_endWord 28 = .ok (.iconst 4, 1) := by decide +kernel
theorem dX3_endWord_29 : decode cX3_endWord 29 = .ok (.iload 4, 2) := by decide +kernel
theorem dX3_endWord_31 : decode cX3_endWord 31 = .ok (.invokevirtual 67, 3) := by decide +kernel
theorem dX3_endWord_34 : decode cX3_endWord 34 = .ok (.return_, 1) := by decide +kernel
theorem dX3_endLetters_0 : decode cX3_endLetters 0 = .ok (.iload_n 1, 1) := by decide +kernel
theorem dX3_endLetters_1 : decode cX3_endLetters 1 = .ok (.ifCond .ne 12, 3) := by decide +kernel
theorem dX3_endLetters_4 : decode cX3_endLetters 4 = .ok (.aload_n 0, 1) := by decide +kernel
theorem dX3_endLetters_5 : decode cX3_endLetters 5 = .ok (.iconst 1, 1) := by decide +kernel
theorem dX3_endLetters_6 : decode cX3_endLetters 6 = .ok (.aload_n 0, 1) := by decide +kernel
theorem dX3_endLetters_7 : decode cX3_endLetters 7 = .ok (.getfield 19, 3) := by decide +kernel
theorem dX3_endLetters_10 : decode cX3_endLetters 10 = .ok (.invokevirtual 67, 3) := by decide +kernel
theorem dX3_endLetters_13 : decode cX3_endLetters 13 = .ok (.aload_n 0, 1) := by decide +kernel
theorem dX3_endLetters_14 : decode cX3_endLetters 14 = .ok (.bipush 59, 2) := by decide +kernel
theorem dX3_endLetters_16 : decode cX3_endLetters 16 = .ok (.invokevirtual 79, 3) := by decide +kernel
theorem dX3_endLetters_19 : decode cX3_endLetters 19 = .ok (.return_, 1) := by decide +kernel
theorem dX3_readNumber_0 : decode cX3_readNumber 0 = .ok (.aload_n 0, 1) := by decide +kernel
theorem dX3_readNumber_1 : decode cX3_readNumber 1 = .ok (.invokevirtual 33, 3) := by decide +kernel
theorem dX3_readNumber_4 : decode cX3_readNumber 4 = .ok (.aload_n 0, 1) := by decide +kernel
theorem dX3_readNumber_5 : decode cX3_readNumber 5 = .ok (.getfield 19, 3) := by decide +kernel
theorem dX3_readNumber_8 : decode cX3_readNumber 8 = .ok (.istore_n 3, 1) := by decide +kernel
theorem dX3_readNumber_9 : decode cX3_readNumber 9 = .ok (.iconst 0, 1) := by decide +kernel
theorem dX3_readNumber_10 : decode cX3_readNumber 10 = .ok (.istore 4, 2) := by decide +kernel
theorem dX3_readNumber_12 : decode cX3_readNumber 12 = .ok (.aload_n 0, 1) := by decide +kernel
theorem dX3_readNumber_13 : decode cX3_readNumber 13 = .ok (.getfield 19, 3) := by decide +kernel
theorem dX3_readNumber_16 : decode cX3_readNumber 16 = .ok (.aload_n 0, 1) := by decide +kernel
theorem dX3_readNumber_17 : decode cX3_readNumber 17 = .ok (.getfield 15, 3) := by decide +kernel
theorem dX3_readNumber_20 : decode cX3_readNumber 20 = .ok (.if_icmp .ge 70, 3) := by decide +kernel
theorem dX3_readNumber_23 : decode cX3_readNumber 23 = .ok (.aload_n 0, 1) := by decide +kernel
theorem dX3_readNumber_24 : decode cX3_readNumber 24 = .ok (.getfield 9, 3) := by decide +kernel
theorem dX3_readNumber_27 : decode cX3_readNumber 27 = .ok (.aload_n 0, 1) := by decide +kernel
theorem dX3_readNumber_28 : decode cX3_readNumber 28 = .ok (.getfield 19, 3) := by decide +kernel
theorem dX3_readNumber_31 : decode cX3_readNumber 31 = .ok (.caload, 1) := by decide +kernel
theorem dX3_readNumber_32 : decode cX3_readNumber 32 = .ok (.bipush 48, 2) := by decide +kernel
theorem dX3_readNumber_34 : decode cX3_readNumber 34 = .ok (.if_icmp .lt 56, 3) := by decide +kernel
theorem dX3_readNumber_37 : decode cX3_readNumber 37 = .ok (.aload_n 0, 1) := by decide +kernel
theorem dX3_readNumber_38 : decode cX3_readNumber 38 = .ok (.getfield 9, 3) := by decide +kernel
theorem dX3_readNumber_41 : decode cX3_readNumber 41 = .ok (.aload_n 0, 1) := by decide +kernel
theorem dX3_readNumber_42 : decode cX3_readNumber 42 = .ok (.getfield 19, 3) := by decide +kernel
theorem dX3_readNumber_45 : decode cX3_readNumber 45 = .ok (.caload, 1) := by decide +kernel
theorem dX3_readNumber_46 : decode cX3_readNumber 46 = .ok (.bipush 57, 2) := by decide +kernel
theorem dX3_readNumber_48 : decode cX3_readNumber 48 = .ok (.if_icmp .gt 42, 3) := by decide +kernel
theorem dX3_readNumber_51 : decode cX3_readNumber 51 = .ok (.sipush 1000, 3) := by decide +kernel
theorem dX3_readNumber_54 : decode cX3_readNumber 54 = .ok (.iload 4, 2) := by decide +kernel
theorem dX3_readNumber_56 : decode cX3_readNumber 56 = .ok (.bipush 10, 2) := by decide +kernel
theorem dX3_readNumber_58 : decode cX3_readNumber 58 = .ok (.imul, 1) := by decide +kernel
theorem dX3_readNumber_59 : decode cX3_readNumber 59 = .ok (.aload_n 0, 1) := by decide +kernel
theorem dX3_readNumber_60 : decode cX3_readNumber 60 = .ok (.getfield 9, 3) := by decide +kernel
theorem dX3_readNumber_63 : decode cX3_readNumber 63 = .ok (.aload_n 0, 1) := by decide +kernel
theorem dX3_readNumber_64 : decode cX3_readNumber 64 = .ok (.getfield 19, 3) := by decide +kernel
theorem dX3_readNumber_67 : decode cX3_readNumber 67 = .ok (.caload, 1) := by decide +kernel
theorem dX3_readNumber_68 : decode cX3_readNumber 68 = .ok (.iadd, 1) := by decide +kernel
theorem dX3_readNumber_69 : decode cX3_readNumber 69 = .ok (.bipush 48, 2) := by decide +kernel
theorem dX3_readNumber_71 : decode cX3_readNumber 71 = .ok (.isub, 1) := by decide +kernel
theorem dX3_readNumber_72 : decode cX3_readNumber 72 = .ok (.invokestatic 105, 3) := by decide +kernel
theorem dX3_readNumber_75 : decode cX3_readNumber 75 = .ok (.istore 4, 2) := by decide +kernel
theorem dX3_readNumber_77 : decode cX3_readNumber 77 = .ok (.aload_n 0, 1) := by decide +kernel
theorem dX3_readNumber_78 : decode cX3_readNumber 78 = .ok (.dup, 1) := by decide +kernel
theorem dX3_readNumber_79 : decode cX3_readNumber 79 = .ok (.getfield 19, 3) := by decide +kernel
theorem dX3_readNumber_82 : decode cX3_readNumber 82 = .ok (.iconst 1, 1) := by decide +kernel
theorem dX3_readNumber_83 : decode cX3_readNumber 83 = .ok (.iadd, 1) := by decide +kernel
theorem dX3_readNumber_84 : decode cX3_readNumber 84 = .ok (.putfield 19, 3) := by decide +kernel
theorem dX3_readNumber_87 : decode cX3_readNumber 87 = .ok (.goto (-75), 3) := by decide +kernel
theorem dX3_readNumber_90 : decode cX3_readNumber 90 = .ok (.aload_n 0, 1) := by decide +kernel
theorem dX3_readNumber_91 : decode cX3_readNumber 91 = .ok (.getfield 19, 3) := by decide +kernel
theorem dX3_readNumber_94 : decode cX3_readNumber 94 = .ok (.iload_n 3, 1) := by decide +kernel
theorem dX3_readNumber_95 : decode cX3_readNumber 95 = .ok (.if_icmp .ne 15, 3) := by decide +kernel
theorem dX3_readNumber_98 : decode cX3_readNumber 98 = .ok (.aload_n 0, 1) := by decide +kernel
theorem dX3_readNumber_99 : decode cX3_readNumber 99 = .ok (.iconst 1, 1) := by decide +kernel
theorem dX3_readNumber_100 : decode cX3_readNumber 100 = .ok (.aload_n 0, 1) := by decide +kernel
theorem dX3_readNumber_101 : decode cX3_readNumber 101 = .ok (.getfield 19, 3) := by decide +kernel
theorem dX3_readNumber_104 : decode cX3_readNumber 104 = .ok (.invokevirtual 67, 3) := by decide +kernel
theorem dX3_readNumber_107 : decode cX3_readNumber 107 = .ok (.goto 31, 3) := by decide +kernel
theorem dX3_readNumber_110 : decode cX3_readNumber 110 = .ok (.aload_n 0, 1) := by decide +kernel
theorem dX3_readNumber_111 : decode cX3_readNumber 111 = .ok (.getfield 19, 3) := by decide +kernel
theorem dX3_readNumber_114 : decode cX3_readNumber 114 = .ok (.iload_n 3, 1) := by decide +kernel
theorem dX3_readNumber_115 : decode cX3_readNumber 115 = .ok (.isub, 1) := by decide +kernel
theorem dX3_readNumber_116 : decode cX3_readNumber 116 = .ok (.iconst 3, 1) := by decide +kernel
theorem dX3_readNumber_117 : decode cX3_readNumber 117 = .ok (.if_icmp .gt 15, 3) := by decide +kernel
theorem dX3_readNumber_120 : decode cX3_readNumber 120 = .ok (.iload 4, 2) := by decide +kernel
theorem dX3_readNumber_122 : decode cX3_readNumber 122 = .ok (.iload_n 1, 1) := by decide +kernel
theorem dX3_readNumber_123 : decode cX3_readNumber 123 = .ok (.if_icmp .lt 9, 3) := by decide +kernel
theorem dX3_readNumber_126 : decode cX3_readNumber 126 = .ok (.iload 4, 2) := by decide +kernel
theorem dX3_readNumber_128 : decode cX3_readNumber 128 = .ok (.iload_n 2, 1) := by decide +kernel
theorem dX3_readNumber_129 : decode cX3_readNumber 129 = .ok (.if_icmp .le 9, 3) := by decide +kernel
theorem dX3_readNumber_132 : decode cX3_readNumber 132 = .ok (.aload_n 0, 1) := by decide +kernel
theorem dX3_readNumber_133 : decode cX3_readNumber 133 = .ok (.iconst 2, 1) := by decide +kernel
theorem dX3_readNumber_134 : decode cX3_readNumber 134 = .ok (.iload_n 3, 1) := by decide +kernel
theorem dX3_readNumber_135 : decode cX3_readNumber 135 = .ok (.invokevirtual 67, 3) := by decide +kernel
theorem dX3_readNumber_138 : decode cX3_readNumber 138 = .ok (.iload 4, 2) := by decide +kernel
theorem dX3_readNumber_140 : decode cX3_readNumber 140 = .ok (.ireturn, 1) := by decide +kernel
theorem dX3_pass_0 : decode cX3_pass 0 = .ok (.aload_n 0, 1) := by decide +kernel
theorem dX3_pass_1 : decode cX3_pass 1 = .ok (.getfield 19, 3) := by decide +kernel
theorem dX3_pass_4 : decode cX3_pass 4 = .ok (.aload_n 0, 1) := by decide +kernel
theorem dX3_pass_5 : decode cX3_pass 5 = .ok (.getfield 15, 3) := by decide +kernel
theorem dX3_pass_8 : decode cX3_pass 8 = .ok (.if_icmp .ge 29, 3) := by decide +kernel
theorem dX3_pass_11 : decode cX3_pass 11 = .ok (.aload_n 0, 1) := by decide +kernel
theorem dX3_pass_12 : decode cX3_pass 12 = .ok (.getfield 9, 3) := by decide +kernel
theorem dX3_pass_15 : decode cX3_pass 15 = .ok (.aload_n 0, 1) := by decide +kernel
theorem dX3_pass_16 : decode cX3_pass 16 = .ok (.getfield 19, 3) := by decide +kernel
theorem dX3_pass_19 : decode cX3_pass 19 = .ok (.caload, 1) := by decide +kernel
theorem dX3_pass_20 : decode cX3_pass 20 = .ok (.iload_n 1, 1) := by decide +kernel
theorem dX3_pass_21 : decode cX3_pass 21 = .ok (.if_icmp .ne 16, 3) := by decide +kernel
theorem dX3_pass_24 : decode cX3_pass 24 = .ok (.aload_n 0, 1) := by decide +kernel
theorem dX3_pass_25 : decode cX3_pass 25 = .ok (.dup, 1) := by decide +kernel
theorem dX3_pass_26 : decode cX3_pass 26 = .ok (.getfield 19, 3) := by decide +kernel
theorem dX3_pass_29 : decode cX3_pass 29 = .ok (.iconst 1, 1) := by decide +kernel
theorem dX3_pass_30 : decode cX3_pass 30 = .ok (.iadd, 1) := by decide +kernel
theorem dX3_pass_31 : decode cX3_pass 31 = .ok (.putfield 19, 3) := by decide +kernel
theorem dX3_pass_34 : decode cX3_pass 34 = .ok (.goto 12, 3) := by decide +kernel
theorem dX3_pass_37 : decode cX3_pass 37 = .ok (.aload_n 0, 1) := by decide +kernel
theorem dX3_pass_38 : decode cX3_pass 38 = .ok (.iconst 1, 1) := by decide +kernel
theorem dX3_pass_39 : decode cX3_pass 39 = .ok (.aload_n 0, 1) := by decide +kernel
theorem dX3_pass_40 : decode cX3_pass 40 = .ok (.getfield 19, 3) := by decide +kernel
theorem dX3_pass_43 : decode cX3_pass 43 = .ok (.invokevirtual 67, 3) := by decide +kernel
theorem dX3_pass_46 : decode cX3_pass 46 = .ok (.return_, 1) := by decide +kernel
theorem dX3_stands_0 : decode cX3_stands 0 = .ok (.aload_n 0, 1) := by decide +kernel
theorem dX3_stands_1 : decode cX3_stands 1 = .ok (.getfield 19, 3) := by decide +kernel
theorem dX3_stands_4 : decode cX3_stands 4 = .ok (.aload_n 0, 1) := by decide +kernel
theorem dX3_stands_5 : decode cX3_stands 5 = .ok (.getfield 15, 3) := by decide +kernel
theorem dX3_stands_8 : decode cX3_stands 8 = .ok (.if_icmp .ge 20, 3) := by decide +kernel
theorem dX3_stands_11 : decode cX3_stands 11 = .ok (.aload_n 0, 1) := by decide +kernel
theorem dX3_stands_12 : decode cX3_stands 12 = .ok (.getfield 9, 3) := by decide +kernel
theorem dX3_stands_15 : decode cX3_stands 15 = .ok (.aload_n 0, 1) := by decide +kernel
theorem dX3_stands_16 : decode cX3_stands 16 = .ok (.getfield 19, 3) := by decide +kernel
theorem dX3_stands_19 : decode cX3_stands 19 = .ok (.caload, 1) := by decide +kernel
theorem dX3_stands_20 : decode cX3_stands 20 = .ok (.iload_n 1, 1) := by decide +kernel
theorem dX3_stands_21 : decode cX3_stands 21 = .ok (.if_icmp .ne 7, 3) := by decide +kernel
theorem dX3_stands_24 : decode cX3_stands 24 = .ok (.iconst 1, 1) := by decide +kernel
theorem dX3_stands_25 : decode cX3_stands 25 = .ok (.goto 4, 3) := by decide +kernel
theorem dX3_stands_28 : decode cX3_stands 28 = .ok (.iconst 0, 1) := by decide +kernel
theorem dX3_stands_29 : decode cX3_stands 29 = .ok (.ireturn, 1) := by decide +kernel
theorem dX3_skipSpaces_0 : decode cX3_skipSpaces 0 = .ok (.aload_n 0, 1) := by decide +kernel
theorem dX3_skipSpaces_1 : decode cX3_skipSpaces 1 = .ok (.getfield 19, 3) := by decide +kernel
theorem dX3_skipSpaces_4 : decode cX3_skipSpaces 4 = .ok (.aload_n 0, 1) := by decide +kernel
theorem dX3_skipSpaces_5 : decode cX3_skipSpaces 5 = .ok (.getfield 15, 3) := by decide +kernel
theorem dX3_skipSpaces_8 : decode cX3_skipSpaces 8 = .ok (.if_icmp .ge 30, 3) := by decide +kernel
theorem dX3_skipSpaces_11 : decode cX3_skipSpaces 11 = .ok (.aload_n 0, 1) := by decide +kernel
theorem dX3_skipSpaces_12 : decode cX3_skipSpaces 12 = .ok (.getfield 9, 3) := by decide +kernel
theorem dX3_skipSpaces_15 : decode cX3_skipSpaces 15 = .ok (.aload_n 0, 1) := by decide +kernel
theorem dX3_skipSpaces_16 : decode cX3_skipSpaces 16 = .ok (.getfield 19, 3) := by decide +kernel
theorem dX3_skipSpaces_19 : decode cX3_skipSpaces 19 = .ok (.caload, 1) := by decide +kernel
theorem dX3_skipSpaces_20 : decode cX3_skipSpaces 20 = .ok (.bipush 32, 2) := by decide +kernel
theorem dX3_skipSpaces_22 : decode cX3_skipSpaces 22 = .ok (.if_icmp .ne 16, 3) := by decide +kernel
theorem dX3_skipSpaces_25 : decode cX3_skipSpaces 25 = .ok (.aload_n 0, 1) := by decide +kernel
theorem dX3_skipSpaces_26 : decode cX3_skipSpaces 26 = .ok (.dup, 1) := by decide +kernel
theorem dX3_skipSpaces_27 : decode cX3_skipSpaces 27 = .ok (.getfield 19, 3) := by decide +kernel
theorem dX3_skipSpaces_30 : decode cX3_skipSpaces 30 = .ok (.iconst 1, 1) := by decide +kernel
theorem dX3_skipSpaces_31 : decode cX3_skipSpaces 31 = .ok (.iadd, 1) := by decide +kernel
theorem dX3_skipSpaces_32 : decode cX3_skipSpaces 32 = .ok (.putfield 19, 3) := by decide +kernel
theorem dX3_skipSpaces_35 : decode cX3_skipSpaces 35 = .ok (.goto (-35), 3) := by decide +kernel
theorem dX3_skipSpaces_38 : decode cX3_skipSpaces 38 = .ok (.return_, 1) := by decide +kernel
theorem dX3_sortHere_0 : decode cX3_sortHere 0 = .ok (.aload_n 0, 1) := by decide +kernel
theorem dX3_sortHere_1 : decode cX3_sortHere 1 = .ok (.getfield 19, 3) := by decide +kernel
theorem dX3_sortHere_4 : decode cX3_sortHere 4 = .ok (.aload_n 0, 1) := by decide +kernel
theorem dX3_sortHere_5 : decode cX3_sortHere 5 = .ok (.getfield 15, 3) := by decide +kernel
theorem dX3_sortHere_8 : decode cX3_sortHere 8 = .ok (.if_icmp .lt 5, 3) := by decide +kernel
theorem dX3_sortHere_11 : decode cX3_sortHere 11 = .ok (.iconst (-1), 1) := by decide +kernel
theorem dX3_sortHere_12 : decode cX3_sortHere 12 = .ok (.ireturn, 1) := by decide +kernel
theorem dX3_sortHere_13 : decode cX3_sortHere 13 = .ok (.aload_n 0, 1) := by decide +kernel
theorem dX3_sortHere_14 : decode cX3_sortHere 14 = .ok (.getfield 9, 3) := by decide +kernel
theorem dX3_sortHere_17 : decode cX3_sortHere 17 = .ok (.aload_n 0, 1) := by decide +kernel
theorem dX3_sortHere_18 : decode cX3_sortHere 18 = .ok (.getfield 19, 3) := by decide +kernel
theorem dX3_sortHere_21 : decode cX3_sortHere 21 = .ok (.caload, 1) := by decide +kernel
theorem dX3_sortHere_22 : decode cX3_sortHere 22 = .ok (.istore_n 1, 1) := by decide +kernel
theorem dX3_sortHere_23 : decode cX3_sortHere 23 = .ok (.iload_n 1, 1) := by decide +kernel
theorem dX3_sortHere_24 : decode cX3_sortHere 24 = .ok (.bipush 42, 2) := by decide +kernel
theorem dX3_sortHere_26 : decode cX3_sortHere 26 = .ok (.if_icmp .ne 6, 3) := by decide +kernel
theorem dX3_sortHere_29 : decode cX3_sortHere 29 = .ok (.bipush 8, 2) := by decide +kernel
theorem dX3_sortHere_31 : decode cX3_sortHere 31 = .ok (.ireturn, 1) := by decide +kernel
theorem dX3_sortHere_32 : decode cX3_sortHere 32 = .ok (.iload_n 1, 1) := by decide +kernel
theorem dX3_sortHere_33 : decode cX3_sortHere 33 = .ok (.bipush 97, 2) := by decide +kernel
theorem dX3_sortHere_35 : decode cX3_sortHere 35 = .ok (.if_icmp .lt 16, 3) := by decide +kernel
theorem dX3_sortHere_38 : decode cX3_sortHere 38 = .ok (.iload_n 1, 1) := by decide +kernel
theorem dX3_sortHere_39 : decode cX3_sortHere 39 = .ok (.bipush 104, 2) := by decide +kernel
theorem dX3_sortHere_41 : decode cX3_sortHere 41 = .ok (.if_icmp .gt 10, 3) := by decide +kernel
theorem dX3_sortHere_44 : decode cX3_sortHere 44 = .ok (.iload_n 1, 1) := by decide +kernel
theorem dX3_sortHere_45 : decode cX3_sortHere 45 = .ok (.bipush 97, 2) := by decide +kernel
theorem dX3_sortHere_47 : decode cX3_sortHere 47 = .ok (.isub, 1) := by decide +kernel
theorem dX3_sortHere_48 : decode cX3_sortHere 48 = .ok (.goto 4, 3) := by decide +kernel
theorem dX3_sortHere_51 : decode cX3_sortHere 51 = .ok (.iconst (-1), 1) := by decide +kernel
theorem dX3_sortHere_52 : decode cX3_sortHere 52 = .ok (.ireturn, 1) := by decide +kernel
theorem dX3_fail_0 : decode cX3_fail 0 = .ok (.aload_n 0, 1) := by decide +kernel
theorem dX3_fail_1 : decode cX3_fail 1 = .ok (.getfield 22, 3) := by decide +kernel
theorem dX3_fail_4 : decode cX3_fail 4 = .ok (.ifCond .ne 13, 3) := by decide +kernel
theorem dX3_fail_7 : decode cX3_fail 7 = .ok (.aload_n 0, 1) := by decide +kernel
theorem dX3_fail_8 : decode cX3_fail 8 = .ok (.iload_n 1, 1) := by decide +kernel
theorem dX3_fail_9 : decode cX3_fail 9 = .ok (.putfield 22, 3) := by decide +kernel
theorem dX3_fail_12 : decode cX3_fail 12 = .ok (.aload_n 0, 1) := by decide +kernel
theorem dX3_fail_13 : decode cX3_fail 13 = .ok (.iload_n 2, 1) := by decide +kernel
theorem dX3_fail_14 : decode cX3_fail 14 = .ok (.putfield 25, 3) := by decide +kernel
theorem dX3_fail_17 : decode cX3_fail 17 = .ok (.return_, 1) := by decide +kernel
end
section
/-! ===== the store as plain numbers: cells stand at B + k; kinds 0..8 objects (by class number), 9 int[], 10 char[], 11 boolean[], 12 Desk[], 13 Image[] ===== -/
abbrev Mem : Type := Nat → Nat → Int32
abbrev Rfs : Type := Nat → Nat → Option Nat
abbrev GT : Type := (Nat → ClassId) × (Nat → Nat → Nat) × (Nat → ClassId) × Nat × Heap
abbrev Shp : Type := Nat × (Nat → Nat) × (Nat → Nat)
def cN (ci : Nat) : String := match ci with
  | 0 => RX0 | 1 => RX1 | 2 => RX2 | 3 => RX3 | 4 => RX4 | 5 => RX5 | 6 => RX6 | 7 => RX7 | _ => RX8
def cT (ci : Nat) : u_T := match ci with
  | 0 => TX0 | 1 => TX1 | 2 => TX2 | 3 => TX3 | 4 => TX4 | 5 => TX5 | 6 => TX6 | 7 => TX7 | _ => TX8
def cF (ci : Nat) : Nat := match ci with
  | 0 => 7 | 1 => 3 | 2 => 3 | 3 => 5 | 4 => 7 | 5 => 7 | 6 => 13 | 7 => 10 | _ => 39
def cTy (ci : Nat) : Nat → FieldType := match ci with
  | 0 => tyX0 | 1 => tyX1 | 2 => tyX2 | 3 => tyX3 | 4 => tyX4 | 5 => tyX5 | 6 => tyX6 | 7 => tyX7 | _ => tyX8
def isR (ci k : Nat) : Bool := match cTy ci k with
  | .array _ => true
  | .object _ => true
  | _ => false
theorem cl_at : ∀ ci, ci < 9 → vwCl[ci]? = some (cN ci, cT ci, cF ci)
  | 0, _ => rfl | 1, _ => rfl | 2, _ => rfl | 3, _ => rfl | 4, _ => rfl | 5, _ => rfl | 6, _ => rfl | 7, _ => rfl | 8, _ => rfl
  | n + 9, h => absurd h (by omega)
theorem cl_ty : ∀ ci, ci < 9 → ∀ k, k < cF ci → parseFieldDescriptor (cT ci k).2.2.1 = some (cTy ci k)
  | 0, _ => tyX0_ok | 1, _ => tyX1_ok | 2, _ => tyX2_ok | 3, _ => tyX3_ok | 4, _ => tyX4_ok | 5, _ => tyX5_ok | 6, _ => tyX6_ok | 7, _ => tyX7_ok | 8, _ => tyX8_ok
  | n + 9, h => absurd h (by omega)
theorem cl_nm : ∀ ci, ci < 9 → ∀ a, a < cF ci → ∀ b, b < cF ci → a ≠ b → (cT ci a).2.1 ≠ (cT ci b).2.1
  | 0, _ => nmX0 | 1, _ => nmX1 | 2, _ => nmX2 | 3, _ => nmX3 | 4, _ => nmX4 | 5, _ => nmX5 | 6, _ => nmX6 | 7, _ => nmX7 | 8, _ => nmX8
  | n + 9, h => absurd h (by omega)
/-- the words that keep along calls, and the nest mates' links, which are carried beside them -/
def tblG : List Cond := lw_tbl.filter goodWord
def isNest (w : Cond) : Bool := match w with
  | .fieldLinkNest .. => true
  | .methodLinkNest .. => true
  | _ => false
def nestT : List Cond := tables_1.filter isNest
theorem tg {w : Cond} (h : w ∈ lw_tbl) (h2 : goodWord w = true) : w ∈ tblG := List.mem_filter.mpr ⟨h, h2⟩
theorem tg1 {w : Cond} (h : w ∈ tables_1) (h2 : goodWord w = true) : w ∈ tblG := tg (List.mem_append_right _ h) h2
theorem tn1 {w : Cond} (h : w ∈ tables_1) (h2 : isNest w = true) : w ∈ nestT := List.mem_filter.mpr ⟨h, h2⟩
theorem goodG (y : MethodName) (cc : ByteArray) (n : Nat) (rt : Option FieldType) (h : Cond.code y cc n rt ∈ tblG) : GoodIn tblG (Cond.code y cc n rt :: tblG) := by
  intro w hw
  rcases List.mem_cons.mp hw with rfl | hw
  · exact ⟨h, good_of_word (List.mem_filter.mp h).2⟩
  · exact ⟨hw, good_of_word (List.mem_filter.mp hw).2⟩
theorem inX (C : String) (T : u_T) (N : Nat) (h : ∀ w ∈ u_ws C T N, w ∈ lw_tbl) (h2 : (u_ws C T N).all goodWord = true) : ∀ w ∈ u_ws C T N, w ∈ tblG := fun w hw => tg (h w hw) (List.all_eq_true.mp h2 w hw)
set_option maxRecDepth 100000 in
theorem cl_in : ∀ ci, ci < 9 → ∀ w ∈ u_ws (cN ci) (cT ci) (cF ci), w ∈ tblG
  | 0, _ => inX RX0 TX0 7 (by decide +kernel) (by decide +kernel)
  | 1, _ => inX RX1 TX1 3 (by decide +kernel) (by decide +kernel)
  | 2, _ => inX RX2 TX2 3 (by decide +kernel) (by decide +kernel)
  | 3, _ => inX RX3 TX3 5 (by decide +kernel) (by decide +kernel)
  | 4, _ => inX RX4 TX4 7 (by decide +kernel) (by decide +kernel)
  | 5, _ => inX RX5 TX5 7 (by decide +kernel) (by decide +kernel)
  | 6, _ => inX RX6 TX6 13 (by decide +kernel) (by decide +kernel)
  | 7, _ => inX RX7 TX7 10 (by decide +kernel) (by decide +kernel)
  | 8, _ => inX RX8 TX8 39 (by decide +kernel) (by decide +kernel)
  | n + 9, h => absurd h (by omega)
/-- a field's value, a cell, the whole store -/
def fv (B ci k : Nat) (r : Option Nat) (x : Int32) : Value := if isR ci k = true then va_rf (r.map (B + ·)) else .int x
def av (B kd : Nat) (r : Option Nat) (x : Int32) : Value := if kd < 12 then .int x else va_rf (r.map (B + ·))
def cellR (G : GT) (S : Shp) (mr : Rfs) (mi : Mem) (k : Nat) (H : Heap) : Prop :=
  (S.2.1 k < 9 → t_OB (G.2.2.2.1 + k) (G.1 (S.2.1 k)) (cF (S.2.1 k)) (G.2.1 (S.2.1 k)) H (fun j => fv G.2.2.2.1 (S.2.1 k) j (mr k j) (mi k j))) ∧
  (9 ≤ S.2.1 k → H[G.2.2.2.1 + k]? = some (arrV (G.2.2.1 (S.2.1 k)) (S.2.2 k) (fun j => av G.2.2.2.1 (S.2.1 k) (mr k j) (mi k j))))
def RM (G : GT) (S : Shp) (mr : Rfs) (mi : Mem) (H : Heap) (locs : List Loc) : Prop :=
  H.size = G.2.2.2.1 + S.1 ∧ (∀ q : Nat, q < G.2.2.2.1 → H[q]? = G.2.2.2.2[q]?) ∧ (∀ k, k < S.1 → cellR G S mr mi k H) ∧ ∀ q ∈ locs, G.2.2.2.1 ≤ q.base
theorem cellR.kept {G : GT} {S : Shp} {mr mr' : Rfs} {mi mi' : Mem} {k : Nat} {H H' : Heap} (h : cellR G S mr mi k H) (h1 : mr' k = mr k) (h2 : mi' k = mi k) (hq : H'[G.2.2.2.1 + k]? = H[G.2.2.2.1 + k]?) : cellR G S mr' mi' k H' := by
  refine ⟨fun hk => ?_, fun hk => ?_⟩
  · rw [h1, h2]; exact (h.1 hk).kept hq
  · rw [h1, h2, hq]; exact h.2 hk
theorem RM.nil {G : GT} {S : Shp} {mr : Rfs} {mi : Mem} {H : Heap} {locs : List Loc} (h : RM G S mr mi H locs) : RM G S mr mi H [] := ⟨h.1, h.2.1, h.2.2.1, fun q hq => by cases hq⟩
theorem RM.locs {G : GT} {S : Shp} {mr : Rfs} {mi : Mem} {H : Heap} {locs : List Loc} (h : RM G S mr mi H []) (h2 : ∀ q ∈ locs, G.2.2.2.1 ≤ q.base) : RM G S mr mi H locs := ⟨h.1, h.2.1, h.2.2.1, h2⟩
theorem RM.upd {G : GT} {S : Shp} {mr mr' : Rfs} {mi mi' : Mem} {H H' : Heap} {locs locs' : List Loc} (h : RM G S mr mi H locs) {a : Nat} (z : H'.size = H.size) (oq : ∀ q : Nat, q ≠ G.2.2.2.1 + a → H'[q]? = H[q]?) (hs : ∀ k, k ≠ a → mr' k = mr k ∧ mi' k = mi k) (hc : cellR G S mr' mi' a H') (hl : ∀ q ∈ locs', G.2.2.2.1 ≤ q.base) : RM G S mr' mi' H' locs' := by
  refine ⟨z.trans h.1, fun q hq => (oq q (by omega)).trans (h.2.1 q hq), fun k hk => ?_, hl⟩
  by_cases e : k = a
  · subst e; exact hc
  · exact (h.2.2.1 k hk).kept (hs k e).1 (hs k e).2 (oq _ (by omega))
theorem locs1 {B : Nat} {locs : List Loc} {a j : Nat} (h : ∀ q ∈ locs, B ≤ q.base) : ∀ q ∈ locs ++ [⟨B + a, j⟩], B ≤ q.base := t_lc h (Nat.le_add_right _ _)
/-- a new number at a place -/
def st (mi : Mem) (a k : Nat) (v : Int32) : Mem := fun b => if b = a then (fun j => if j = k then v else mi a j) else mi b
theorem st_ne {mi : Mem} {a k : Nat} {v : Int32} {b : Nat} (h : b ≠ a) : st mi a k v b = mi b := if_neg h
theorem st_eq {mi : Mem} {a k : Nat} {v : Int32} : st mi a k v a = (fun j => if j = k then v else mi a j) := if_pos rfl
def sr (mr : Rfs) (a k : Nat) (v : Option Nat) : Rfs := fun b => if b = a then (fun j => if j = k then v else mr a j) else mr b
theorem sr_ne {mr : Rfs} {a k : Nat} {v : Option Nat} {b : Nat} (h : b ≠ a) : sr mr a k v b = mr b := if_neg h
theorem sr_eq {mr : Rfs} {a k : Nat} {v : Option Nat} : sr mr a k v a = (fun j => if j = k then v else mr a j) := if_pos rfl
/-- an index within a row -/
def inB (i : Int32) (n : Nat) : Bool := decide (0 ≤ i.toInt) && decide (i.toInt < (n : Int))
theorem inB_vp {i : Int32} {n : Nat} (h : inB i n = true) : vp_in i n := by
  unfold inB at h
  rw [Bool.and_eq_true, decide_eq_true_eq, decide_eq_true_eq] at h
  exact vp_in_iff.mpr h
abbrev ix (i : Int32) : Nat := i.toNatClampNeg
theorem inB_lt {i : Int32} {n : Nat} (h : inB i n = true) : ix i < n := Nat.not_le.mp fun q => inB_vp h (Or.inr q)
def tysL (dA : Nat → ClassId) : List (ClassId × FieldType) := [(dA 9, .int), (dA 10, .char), (dA 11, .boolean), (dA 12, .object RX0), (dA 13, .object RX2)]
def Kx (G : GT) (U : State) : Prop := va_K (G.1, G.2.1) vwCl (tysL G.2.2.1) U ∧ ∀ w ∈ nestT, va_Nw w U
theorem Kx.warm {G : GT} {s U : State} (hW : s.WarmedH U.vm) (h : Kx G s) : Kx G U := by
  refine ⟨va_K.moved hW.alike h.1, fun w hw => ?_⟩
  have h1 := h.2 w hw
  have h2 := (List.mem_filter.mp hw).2
  cases w <;> first | exact va_Nw.warmF hW h1 | exact va_Nw.warmM hW h1 | (exfalso; revert h2; simp [isNest])
/-- what stays through a method's walk -/
def Cx (G : GT) (p : Program) (s : State) (m : MethodId) (c : Code) (args : Array Value) (own : String) (cc : ByteArray) (nL : Nat) : Prop :=
  p.tables.exec = Jvm.exec ∧ c.code = cc ∧ c.maxLocals = nL ∧ s.vm.findClass own = some m.cls ∧ (∀ w ∈ tblG, w.before args s = true) ∧ Kx G s
def FO (own : String) (idx ci k : Nat) : Prop := ci < 9 ∧ k < cF ci ∧
  (Cond.fieldLink own idx (cT ci k).1 (cT ci k).2.1 (cT ci k).2.2.1 ∈ tblG ∨ Cond.fieldLinkNest own idx (cT ci k).1 (cT ci k).2.1 (cT ci k).2.2.1 "LetterTray" ∈ nestT)
section XR
variable {p : Program} {l : Launch} {e : Env} {R : Room} {s : State} {m : MethodId} {args : Array Value} {below : List Frame} {meth : Method} {c : Code} {H : Heap} {locs : List Loc} {cells slots : Nat} {Q : State → Prop}
variable {cc : ByteArray} {pc : Nat} {ls : Array Slot} {rest : List Value} {G : GT} {S : Shp} {mr : Rfs} {mi : Mem} {own : String} {nL : Nat}
theorem x_get (C : Cx G p s m c args own cc nL) (hR : RM G S mr mi H locs) {a idx ci k : Nat} (hF : FO own idx ci k) (ha : a < S.1 ∧ S.2.1 a = ci) (hd : decode cc pc = .ok (.getfield idx, 3))
    (kk : W p l e R s m args below meth c H locs cells slots Q (F0 m (pc + 3) ls (fv G.2.2.2.1 ci k (mr a k) (mi a k) :: rest))) : W p l e R s m args below meth c H locs cells slots Q (F0 m pc ls (.ref (G.2.2.2.1 + a) :: rest)) := by
  obtain ⟨hx, hb, -, hown, hts, hK⟩ := C
  obtain ⟨hci, hk, hl⟩ := hF
  obtain ⟨ha, hk2⟩ := ha
  have hc := (hR.2.2.1 a ha).1 (by rw [hk2]; exact hci)
  rw [hk2] at hc
  obtain ⟨cell, q1, q2, q3, q4⟩ := hc
  obtain ⟨hS, hfc, kC, hkC, hkind⟩ := hK.1.1 ci _ (cl_at ci hci)
  obtain ⟨cf, kf, fi, f, hi, hsl⟩ := hS k hk
  have hst := (u_facts hfc hkC (u_lays hts (cl_in ci hci) hk) hi).1
  rcases hl with hl | hl
  · exact W.getf hx hb hown (hts _ hl) hi hst q1 (by rw [q3]; exact fun h => by cases h) (by rw [hsl]; exact q4 k hk) rfl rfl hd kk
  · exact va_Wgetf hx hb hown (va_Nw.use rfl (hK.2 _ hl)) hi hst q1 (by rw [q3]; exact fun h => by cases h) (by rw [hsl]; exact q4 k hk) rfl rfl hd kk
theorem x_geti (C : Cx G p s m c args own cc nL) (hR : RM G S mr mi H locs) {a idx ci k : Nat} (hF : FO own idx ci k) (hi : isR ci k = false) (ha : a < S.1 ∧ S.2.1 a = ci) (hd : decode cc pc = .ok (.getfield idx, 3))
    (kk : W p l e R s m args below meth c H locs cells slots Q (F0 m (pc + 3) ls (.int (mi a k) :: rest))) : W p l e R s m args below meth c H locs cells slots Q (F0 m pc ls (.ref (G.2.2.2.1 + a) :: rest)) :=
  x_get C hR hF ha hd (by rw [fv, hi]; exact kk)
theorem x_getr (C : Cx G p s m c args own cc nL) (hR : RM G S mr mi H locs) {a idx ci k b : Nat} (hF : FO own idx ci k) (hi : isR ci k = true) (ha : a < S.1 ∧ S.2.1 a = ci) (hb : mr a k = some b) (hd : decode cc pc = .ok (.getfield idx, 3))
    (kk : W p l e R s m args below meth c H locs cells slots Q (F0 m (pc + 3) ls (.ref (G.2.2.2.1 + b) :: rest))) : W p l e R s m args below meth c H locs cells slots Q (F0 m pc ls (.ref (G.2.2.2.1 + a) :: rest)) :=
  x_get C hR hF ha hd (by rw [fv, hi, hb]; exact kk)
theorem x_put (C : Cx G p s m c args own cc nL) (hR : RM G S mr mi H locs) {a idx ci k : Nat} {v : Value} (hF : FO own idx ci k) (hfin : (cT ci k).2.2.2 = false) (hn : narrow (cTy ci k) v = v) (hfit : fits (cTy ci k) v = true) (ha : a < S.1 ∧ S.2.1 a = ci) (hd : decode cc pc = .ok (.putfield idx, 3))
    {mr' : Rfs} {mi' : Mem} (hs : ∀ b, b ≠ a → mr' b = mr b ∧ mi' b = mi b) (hv : ∀ j, j < cF ci → updV (fun j => fv G.2.2.2.1 ci j (mr a j) (mi a j)) k v j = fv G.2.2.2.1 ci j (mr' a j) (mi' a j))
    (kk : ∀ (H1 : Heap) (locs1 : List Loc), RM G S mr' mi' H1 locs1 → W p l e R s m args below meth c H1 locs1 cells slots Q (F0 m (pc + 3) ls rest)) : W p l e R s m args below meth c H locs cells slots Q (F0 m pc ls (v :: .ref (G.2.2.2.1 + a) :: rest)) := by
  obtain ⟨hx, hb, -, hown, hts, hK⟩ := C
  obtain ⟨hci, hk, hl⟩ := hF
  obtain ⟨ha, hk2⟩ := ha
  have hc := (hR.2.2.1 a ha).1 (by rw [hk2]; exact hci)
  rw [hk2] at hc
  obtain ⟨cell, q1, q2, q3, q4⟩ := hc
  have hap := va_apart (own := own) hts (cl_in ci hci) (cTy ci) (cl_ty ci hci) (cl_nm ci hci) hK.1 (cl_at ci hci)
  obtain ⟨hS, hfc, kC, hkC, hkind⟩ := hK.1.1 ci _ (cl_at ci hci)
  obtain ⟨cf, kf, fi, f, hi, hsl⟩ := hS k hk
  have hst := (u_facts hfc hkC (u_lays hts (cl_in ci hci) hk) hi).1
  have hlay := hts _ (cl_in ci hci _ (u_in_lay hk))
  unfold u_lay at hlay
  rw [if_neg (by rw [hfin]; decide)] at hlay
  have h6 := u_store hfc hkC hkind hlay hi (cl_ty ci hci k hk) hn hfit
  have fin : ∀ H' : Heap, H'[G.2.2.2.1 + a]? = some (cell.setSlot f.slot v) → H'.size = H.size → (∀ q, q ≠ G.2.2.2.1 + a → H'[q]? = H[q]?) → W p l e R s m args below meth c H' (locs ++ [⟨G.2.2.2.1 + a, f.slot⟩]) cells slots Q (F0 m (pc + 3) ls rest) := by
    intro H' e1 e2 e3
    rw [hsl] at e1
    refine kk H' _ (hR.upd e2 e3 hs ⟨fun h9 => ?_, fun h9 => absurd h9 (by rw [hk2]; omega)⟩ (locs1 hR.2.2.2))
    rw [hk2]
    exact t_OB.to (V := updV (fun j => fv G.2.2.2.1 ci j (mr a j) (mi a j)) k v) ⟨_, e1, q2, q3, t_set q4 hap hk v⟩ hv
  rcases hl with hl | hl
  · exact W.putK hx hb (f := f) ⟨hown, hts _ hl, ⟨_, _, _, hi⟩, hst⟩ (by rw [q2]; exact h6) q1 q3 (by rw [hsl]; exact k2_hasslot (q4 k hk)) rfl rfl hd fin
  · exact va_WputK hx hb (f := f) hown (va_Nw.use rfl (hK.2 _ hl)) hi hst (by rw [q2]; exact h6) q1 q3 (by rw [hsl]; exact k2_hasslot (q4 k hk)) rfl rfl hd fin
end XR
end
section
/-! ===== stores, rows, answers, calls over the plain store ===== -/
theorem fv_i {B ci k : Nat} {r : Option Nat} {x : Int32} (h : isR ci k = false) : fv B ci k r x = .int x := by rw [fv, h]; rfl
theorem fv_r {B ci k : Nat} {r : Option Nat} {x : Int32} (h : isR ci k = true) : fv B ci k r x = va_rf (r.map (B + ·)) := by rw [fv, h]; rfl
theorem st_pt {mi : Mem} {a k : Nat} {v : Int32} (j : Nat) : st mi a k v a j = if j = k then v else mi a j := by rw [st_eq]
theorem sr_pt {mr : Rfs} {a k : Nat} {v : Option Nat} (j : Nat) : sr mr a k v a j = if j = k then v else mr a j := by rw [sr_eq]
def cpM (mi : Mem) (a b n : Nat) : Mem := fun c => if c = b then va_cpy (mi a) (mi b) 0 0 n else mi c
theorem cpM_ne {mi : Mem} {a b n c : Nat} (h : c ≠ b) : cpM mi a b n c = mi c := if_neg h
theorem cpM_eq {mi : Mem} {a b n : Nat} : cpM mi a b n b = va_cpy (mi a) (mi b) 0 0 n := if_pos rfl
def isB (v : Int32) : Bool := v == 0 || v == 1
theorem isB_n {v : Int32} (h : isB v = true) : narrow .boolean (.int v) = .int v := by
  unfold isB at h
  rw [Bool.or_eq_true, beq_iff_eq, beq_iff_eq] at h
  rcases h with rfl | rfl <;> rfl
theorem isB_f {v : Int32} (h : isB v = true) : fits .boolean (.int v) = true := by
  unfold isB at h
  rw [Bool.or_eq_true, beq_iff_eq, beq_iff_eq] at h
  rcases h with rfl | rfl <;> rfl
section XS
variable {p : Program} {l : Launch} {e : Env} {R : Room} {s : State} {m : MethodId} {args : Array Value} {below : List Frame} {meth : Method} {c : Code} {H : Heap} {locs : List Loc} {cells slots : Nat} {Q : State → Prop}
variable {cc : ByteArray} {pc : Nat} {ls : Array Slot} {rest : List Value} {G : GT} {S : Shp} {mr : Rfs} {mi : Mem} {own : String} {nL : Nat}
theorem x_put_v {B ci k a : Nat} {mr : Rfs} {mi : Mem} {v : Int32} (hi : isR ci k = false) (j : Nat) : updV (fun j => fv B ci j (mr a j) (mi a j)) k (.int v) j = fv B ci j (mr a j) (st mi a k v a j) := by
  rw [st_pt]
  by_cases h : j = k
  · subst h; rw [if_pos rfl, fv_i hi]; simp [updV]
  · rw [if_neg h]; simp [updV, h]
theorem x_puti (C : Cx G p s m c args own cc nL) (hR : RM G S mr mi H locs) {a idx ci k : Nat} {v : Int32} (hF : FO own idx ci k) (hfin : (cT ci k).2.2.2 = false) (hty : cTy ci k = .int) (ha : a < S.1 ∧ S.2.1 a = ci) (hd : decode cc pc = .ok (.putfield idx, 3))
    (kk : ∀ (H1 : Heap) (locs1 : List Loc), RM G S mr (st mi a k v) H1 locs1 → W p l e R s m args below meth c H1 locs1 cells slots Q (F0 m (pc + 3) ls rest)) : W p l e R s m args below meth c H locs cells slots Q (F0 m pc ls (.int v :: .ref (G.2.2.2.1 + a) :: rest)) :=
  x_put C hR hF hfin (by rw [hty]; rfl) (by rw [hty]; rfl) ha hd (fun b h => ⟨rfl, st_ne h⟩) (fun j _ => x_put_v (by rw [isR, hty]) j) kk
theorem x_putz (C : Cx G p s m c args own cc nL) (hR : RM G S mr mi H locs) {a idx ci k : Nat} {v : Int32} (hv : isB v = true) (hF : FO own idx ci k) (hfin : (cT ci k).2.2.2 = false) (hty : cTy ci k = .boolean) (ha : a < S.1 ∧ S.2.1 a = ci) (hd : decode cc pc = .ok (.putfield idx, 3))
    (kk : ∀ (H1 : Heap) (locs1 : List Loc), RM G S mr (st mi a k v) H1 locs1 → W p l e R s m args below meth c H1 locs1 cells slots Q (F0 m (pc + 3) ls rest)) : W p l e R s m args below meth c H locs cells slots Q (F0 m pc ls (.int v :: .ref (G.2.2.2.1 + a) :: rest)) :=
  x_put C hR hF hfin (by rw [hty]; exact isB_n hv) (by rw [hty]; exact isB_f hv) ha hd (fun b h => ⟨rfl, st_ne h⟩) (fun j _ => x_put_v (by rw [isR, hty]) j) kk
theorem x_put_r {B ci k a b : Nat} {mr : Rfs} {mi : Mem} (hi : isR ci k = true) (j : Nat) : updV (fun j => fv B ci j (mr a j) (mi a j)) k (.ref (B + b)) j = fv B ci j (sr mr a k (some b) a j) (mi a j) := by
  rw [sr_pt]
  by_cases h : j = k
  · subst h; rw [if_pos rfl, fv_r hi]; simp [updV, va_rf]
  · rw [if_neg h]; simp [updV, h]
theorem x_putr (C : Cx G p s m c args own cc nL) (hR : RM G S mr mi H locs) {a idx ci k b : Nat} {n : String} (hF : FO own idx ci k) (hfin : (cT ci k).2.2.2 = false) (hty : cTy ci k = .object n) (ha : a < S.1 ∧ S.2.1 a = ci) (hd : decode cc pc = .ok (.putfield idx, 3))
    (kk : ∀ (H1 : Heap) (locs1 : List Loc), RM G S (sr mr a k (some b)) mi H1 locs1 → W p l e R s m args below meth c H1 locs1 cells slots Q (F0 m (pc + 3) ls rest)) : W p l e R s m args below meth c H locs cells slots Q (F0 m pc ls (.ref (G.2.2.2.1 + b) :: .ref (G.2.2.2.1 + a) :: rest)) :=
  x_put C hR hF hfin (by rw [hty]; rfl) (by rw [hty]; rfl) ha hd (fun b h => ⟨sr_ne h, rfl⟩) (fun j _ => x_put_r (by rw [isR, hty]) j) kk
theorem x_arr (hR : RM G S mr mi H locs) {a kd : Nat} (ha : a < S.1 ∧ S.2.1 a = kd) (h9 : 9 ≤ kd) : H[G.2.2.2.1 + a]? = some (arrV (G.2.2.1 kd) (S.2.2 a) (fun j => av G.2.2.2.1 kd (mr a j) (mi a j))) := by
  have hc := (hR.2.2.1 a ha.1).2 (by rw [ha.2]; exact h9)
  rw [ha.2] at hc
  exact hc
theorem av_i {B kd : Nat} {r : Option Nat} {x : Int32} (h : kd < 12) : av B kd r x = .int x := if_pos h
theorem av_r {B kd : Nat} {r : Option Nat} {x : Int32} (h : ¬ kd < 12) : av B kd r x = va_rf (r.map (B + ·)) := if_neg h
theorem x_iald (C : Cx G p s m c args own cc nL) (hR : RM G S mr mi H locs) {a : Nat} {i : Int32} (ha : a < S.1 ∧ S.2.1 a = 9) (hin : inB i (S.2.2 a) = true) (hd : decode cc pc = .ok (.iaload, 1))
    (kk : W p l e R s m args below meth c H locs cells slots Q (F0 m (pc + 1) ls (.int (mi a (ix i)) :: rest))) : W p l e R s m args below meth c H locs cells slots Q (F0 m pc ls (.int i :: .ref (G.2.2.2.1 + a) :: rest)) := by
  obtain ⟨hx, hb, -, -, -, hK⟩ := C
  exact W.iald (v := .int (mi a (ix i))) hx hb (x_arr hR ha (by decide)) ((hK.1.2 0 _ rfl).1 _ _) (fun q => by cases q) (by rw [arrV_size]; exact inB_vp hin) (by rw [arrV_read _ _ (inB_lt hin), av_i (by decide)]) rfl rfl hd kk
theorem x_cald (C : Cx G p s m c args own cc nL) (hR : RM G S mr mi H locs) {a : Nat} {i : Int32} (ha : a < S.1 ∧ S.2.1 a = 10) (hin : inB i (S.2.2 a) = true) (hd : decode cc pc = .ok (.caload, 1))
    (kk : W p l e R s m args below meth c H locs cells slots Q (F0 m (pc + 1) ls (.int (mi a (ix i)) :: rest))) : W p l e R s m args below meth c H locs cells slots Q (F0 m pc ls (.int i :: .ref (G.2.2.2.1 + a) :: rest)) := by
  obtain ⟨hx, hb, -, -, -, hK⟩ := C
  exact W.cald (v := .int (mi a (ix i))) hx hb (x_arr hR ha (by decide)) ((hK.1.2 1 _ rfl).1 _ _) (fun q => by cases q) (by rw [arrV_size]; exact inB_vp hin) (by rw [arrV_read _ _ (inB_lt hin), av_i (by decide)]) rfl rfl hd kk
theorem x_zald (C : Cx G p s m c args own cc nL) (hR : RM G S mr mi H locs) {a : Nat} {i : Int32} (ha : a < S.1 ∧ S.2.1 a = 11) (hin : inB i (S.2.2 a) = true) (hd : decode cc pc = .ok (.baload, 1))
    (kk : W p l e R s m args below meth c H locs cells slots Q (F0 m (pc + 1) ls (.int (mi a (ix i)) :: rest))) : W p l e R s m args below meth c H locs cells slots Q (F0 m pc ls (.int i :: .ref (G.2.2.2.1 + a) :: rest)) := by
  obtain ⟨hx, hb, -, -, -, hK⟩ := C
  exact W.zald (v := .int (mi a (ix i))) hx hb (x_arr hR ha (by decide)) ((hK.1.2 2 _ rfl).1 _ _) (fun q => by cases q) (by rw [arrV_size]; exact inB_vp hin) (by rw [arrV_read _ _ (inB_lt hin), av_i (by decide)]) rfl rfl hd kk
/-- the Desk[] (12) and the Image[] (13) -/
theorem x_aald (C : Cx G p s m c args own cc nL) (hR : RM G S mr mi H locs) {a b kd : Nat} {i : Int32} (hkd : kd = 12 ∨ kd = 13) (ha : a < S.1 ∧ S.2.1 a = kd) (hin : inB i (S.2.2 a) = true) (hv : mr a (ix i) = some b) (hd : decode cc pc = .ok (.aaload, 1))
    (kk : W p l e R s m args below meth c H locs cells slots Q (F0 m (pc + 1) ls (.ref (G.2.2.2.1 + b) :: rest))) : W p l e R s m args below meth c H locs cells slots Q (F0 m pc ls (.int i :: .ref (G.2.2.2.1 + a) :: rest)) := by
  obtain ⟨hx, hb, -, -, -, hK⟩ := C
  rcases hkd with rfl | rfl
  · exact W.aald (v := .ref (G.2.2.2.1 + b)) (ty := .object RX0) hx hb (x_arr hR ha (by decide)) ((hK.1.2 3 _ rfl).1 _ _) rfl (fun q => by cases q) (by rw [arrV_size]; exact inB_vp hin) (by rw [arrV_read _ _ (inB_lt hin), av_r (by decide), hv]; rfl) rfl rfl hd kk
  · exact W.aald (v := .ref (G.2.2.2.1 + b)) (ty := .object RX2) hx hb (x_arr hR ha (by decide)) ((hK.1.2 4 _ rfl).1 _ _) rfl (fun q => by cases q) (by rw [arrV_size]; exact inB_vp hin) (by rw [arrV_read _ _ (inB_lt hin), av_r (by decide), hv]; rfl) rfl rfl hd kk
theorem x_alen (C : Cx G p s m c args own cc nL) (hR : RM G S mr mi H locs) {a : Nat} (ha : a < S.1 ∧ S.2.1 a = 9) (hd : decode cc pc = .ok (.arraylength, 1))
    (kk : W p l e R s m args below meth c H locs cells slots Q (F0 m (pc + 1) ls (.int (nI (S.2.2 a)) :: rest))) : W p l e R s m args below meth c H locs cells slots Q (F0 m pc ls (.ref (G.2.2.2.1 + a) :: rest)) := by
  obtain ⟨hx, hb, -, -, -, hK⟩ := C
  exact W.alen (n := nI (S.2.2 a)) hx hb (x_arr hR ha (by decide)) ((hK.1.2 0 _ rfl).1 _ _) (by rw [arrV_size]; rfl) rfl rfl hd kk
theorem x_ast_u {G : GT} {S : Shp} {mr : Rfs} {mi : Mem} {H H1 : Heap} {locs : List Loc} {a kd j : Nat} {x : Int32} {locs1 : List Loc} (hR : RM G S mr mi H locs) (h9 : 9 ≤ kd) (h12 : kd < 12) (ha : a < S.1 ∧ S.2.1 a = kd) (e1 : H1[G.2.2.2.1 + a]? = some ((arrV (G.2.2.1 kd) (S.2.2 a) (fun j => av G.2.2.2.1 kd (mr a j) (mi a j))).setSlot j (.int x))) (z : H1.size = H.size) (oq : ∀ q, q ≠ G.2.2.2.1 + a → H1[q]? = H[q]?) (hl : ∀ q ∈ locs1, G.2.2.2.1 ≤ q.base) : RM G S mr (st mi a j x) H1 locs1 := by
  refine hR.upd z oq (fun k h => ⟨rfl, st_ne h⟩) ⟨fun h => absurd h (by rw [ha.2]; omega), fun _ => ?_⟩ hl
  rw [e1, arrV_store, ha.2]
  congr 2
  funext q
  rw [st_pt]
  by_cases hq : q = j
  · subst hq; rw [if_pos rfl, av_i h12]; simp [updV]
  · rw [if_neg hq]; simp [updV, hq]
theorem x_iast (C : Cx G p s m c args own cc nL) (hR : RM G S mr mi H locs) {a : Nat} {i x : Int32} (ha : a < S.1 ∧ S.2.1 a = 9) (hin : inB i (S.2.2 a) = true) (hd : decode cc pc = .ok (.iastore, 1))
    (kk : ∀ (H1 : Heap) (locs1 : List Loc), RM G S mr (st mi a (ix i) x) H1 locs1 → W p l e R s m args below meth c H1 locs1 cells slots Q (F0 m (pc + 1) ls rest)) : W p l e R s m args below meth c H locs cells slots Q (F0 m pc ls (.int x :: .int i :: .ref (G.2.2.2.1 + a) :: rest)) := by
  obtain ⟨hx, hb, -, -, -, hK⟩ := C
  exact W.iast hx hb (x_arr hR ha (by decide)) ((hK.1.2 0 _ rfl).1 _ _) (fun q => by cases q) (by rw [arrV_size]; exact inB_vp hin) rfl rfl hd fun H1 e1 z oq => kk H1 _ (x_ast_u hR (by decide) (by decide) ha e1 z oq (locs1 hR.2.2.2))
theorem x_cast (C : Cx G p s m c args own cc nL) (hR : RM G S mr mi H locs) {a : Nat} {i x : Int32} (hn : narrow .char (.int x) = .int x) (ha : a < S.1 ∧ S.2.1 a = 10) (hin : inB i (S.2.2 a) = true) (hd : decode cc pc = .ok (.castore, 1))
    (kk : ∀ (H1 : Heap) (locs1 : List Loc), RM G S mr (st mi a (ix i) x) H1 locs1 → W p l e R s m args below meth c H1 locs1 cells slots Q (F0 m (pc + 1) ls rest)) : W p l e R s m args below meth c H locs cells slots Q (F0 m pc ls (.int x :: .int i :: .ref (G.2.2.2.1 + a) :: rest)) := by
  obtain ⟨hx, hb, -, -, -, hK⟩ := C
  exact W.cast hx hb (x_arr hR ha (by decide)) ((hK.1.2 1 _ rfl).1 _ _) (fun q => by cases q) (by rw [arrV_size]; exact inB_vp hin) rfl rfl hd fun H1 e1 z oq => kk H1 _ (x_ast_u hR (by decide) (by decide) ha (by rw [e1, hn]) z oq (locs1 hR.2.2.2))
theorem x_zast (C : Cx G p s m c args own cc nL) (hR : RM G S mr mi H locs) {a : Nat} {i x : Int32} (hv : isB x = true) (ha : a < S.1 ∧ S.2.1 a = 11) (hin : inB i (S.2.2 a) = true) (hd : decode cc pc = .ok (.bastore, 1))
    (kk : ∀ (H1 : Heap) (locs1 : List Loc), RM G S mr (st mi a (ix i) x) H1 locs1 → W p l e R s m args below meth c H1 locs1 cells slots Q (F0 m (pc + 1) ls rest)) : W p l e R s m args below meth c H locs cells slots Q (F0 m pc ls (.int x :: .int i :: .ref (G.2.2.2.1 + a) :: rest)) := by
  obtain ⟨hx, hb, -, -, -, hK⟩ := C
  exact W.zast hx hb (x_arr hR ha (by decide)) ((hK.1.2 2 _ rfl).1 _ _) (fun q => by cases q) (by rw [arrV_size]; exact inB_vp hin) rfl rfl hd fun H1 e1 z oq => kk H1 _ (x_ast_u hR (by decide) (by decide) ha (by rw [e1, isB_n hv]) z oq (locs1 hR.2.2.2))
/-- System.arraycopy from the beginning of one int row to that of another -/
theorem x_copy (C : Cx G p s m c args own cc nL) (hR : RM G S mr mi H locs) {a b idx : Nat} {n : Int32} (ha : a < S.1 ∧ S.2.1 a = 9) (hb2 : b < S.1 ∧ S.2.1 b = 9) (h3 : ¬ n < 0) (h4 : ix n ≤ S.2.2 a) (h5 : ix n ≤ S.2.2 b) (hl : Cond.methodLink own idx arraycopyName ∈ tblG) (hl2 : Cond.native arraycopyName ∈ tblG ∧ Cond.static arraycopyName ∈ tblG ∧ Cond.initialized "java/lang/System" ∈ tblG) (hfr : 1 ≤ R.frames) (hlo : (rest.map fun v => v.category).sum + 18 ≤ R.locals) (hls : ls.size = nL) (hd : decode cc pc = .ok (.invokestatic idx, 3))
    (kk : ∀ (H1 : Heap) (locs1 : List Loc), RM G S mr (cpM mi a b (ix n)) H1 locs1 → W p l e R s m args below meth c H1 locs1 cells slots Q (F0 m (pc + 3) ls rest)) : W p l e R s m args below meth c H locs cells slots Q (F0 m pc ls (.int n :: .int 0 :: .ref (G.2.2.2.1 + b) :: .int 0 :: .ref (G.2.2.2.1 + a) :: rest)) := by
  obtain ⟨hx, hb, hml, hown, hts, hK⟩ := C
  have hc0 := x_arr hR ha (by decide)
  have hc1 := x_arr hR hb2 (by decide)
  have e0 : (fun j => av G.2.2.2.1 9 (mr a j) (mi a j)) = (fun j => Value.int (mi a j)) := rfl
  have e1 : (fun j => av G.2.2.2.1 9 (mr b j) (mi b j)) = (fun j => Value.int (mi b j)) := rfl
  rw [e0] at hc0
  rw [e1] at hc1
  have nn : n.toInt = (ix n : Int) := by
    have hz0 : (0 : Int) ≤ n.toInt := by
      have := Int32.not_lt.mp h3
      simpa using Int32.le_iff_toInt_le.mp this
    show n.toInt = ((n.toInt.toNat : Nat) : Int)
    omega
  have z0 : ix (0 : Int32) = 0 := rfl
  obtain ⟨-, k0, hk0, cm0, hkk0⟩ := (hK.1.2 0 _ rfl).1 (S.2.2 a) (fun j => .int (mi a j))
  obtain ⟨-, k1, hk1, cm1, hkk1⟩ := (hK.1.2 0 _ rfl).1 (S.2.2 b) (fun j => .int (mi b j))
  intro T hT X
  obtain ⟨vm', X', step⟩ := X.arraycopy hx hown (hts _ hl) (hts _ hl2.1) (hts _ hl2.2.1) (hts _ hl2.2.2) (src := G.2.2.2.1 + a) (dst := G.2.2.2.1 + b) (srcPos := 0) (destPos := 0) (n := n) (by rw [hT]; exact hc0) (by rw [hT]; exact hc1)
    (fun _ h => by cases h) (fun _ h => by cases h) (fun h => by cases h) (fun h => by cases h) hk0 hk1 hkk0 hkk1 rfl (by decide) (by decide) h3
    (by rw [nn, arrV_size]; show ¬ (0 : Int) + _ > _; omega) (by rw [nn, arrV_size]; show ¬ (0 : Int) + _ > _; omega)
    (fun vm₁ _ i hi => by
      have e : (arrV (G.2.2.1 9) (S.2.2 a) (fun j => Value.int (mi a j))).slots.getD (ix (0 : Int32) + i) .null = .int (mi a (0 + i)) := by
        rw [Array.getD_eq_getD_getElem?, arrV_read _ _ (by rw [z0, Nat.zero_add]; exact Nat.lt_of_lt_of_le hi h4)]
        rfl
      exact ⟨by rw [e]; rfl, by rw [e]; exact trivial⟩)
    (g := F0 m pc ls (.int n :: .int 0 :: .ref (G.2.2.2.1 + b) :: .int 0 :: .ref (G.2.2.2.1 + a) :: rest)) rfl (by rw [hml]; exact hls) (rest := rest) rfl (by rw [hb]; exact hd) hfr (by show 2 * 0 + _ + (nativeFrameWords "java/lang/System" "arraycopy" 5 + 11) ≤ _; rw [show nativeFrameWords "java/lang/System" "arraycopy" 5 = 7 by decide +kernel]; omega)
  have e2 : copied (arrV (G.2.2.1 9) (S.2.2 a) (fun j => Value.int (mi a j))) (arrV (G.2.2.1 9) (S.2.2 b) (fun j => Value.int (mi b j))) 0 0 n = arrV (G.2.2.1 9) (S.2.2 b) (fun j => .int (va_cpy (mi a) (mi b) 0 0 (ix n) j)) := va_copied (fun z => .int z) (G.2.2.1 9) (G.2.2.1 9) (mi a) (mi b) (by show 0 + ix n ≤ _; rw [Nat.zero_add]; exact h4)
  rw [e2] at X' step
  have hl : G.2.2.2.1 + b < H.size := (Array.getElem?_eq_some_iff.mp hc1).1
  have hheap : ((T.setVm vm').setCell (G.2.2.2.1 + b) (arrV (G.2.2.1 9) (S.2.2 b) (fun j => .int (va_cpy (mi a) (mi b) 0 0 (ix n) j)))).heap = H.setIfInBounds (G.2.2.2.1 + b) (arrV (G.2.2.1 9) (S.2.2 b) (fun j => .int (va_cpy (mi a) (mi b) 0 0 (ix n) j))) := by rw [← hT]; rfl
  have oq : ∀ q : Nat, q ≠ G.2.2.2.1 + b → (H.setIfInBounds (G.2.2.2.1 + b) (arrV (G.2.2.1 9) (S.2.2 b) (fun j => .int (va_cpy (mi a) (mi b) 0 0 (ix n) j))))[q]? = H[q]? := fun q hq => by simp [Array.getElem?_setIfInBounds, Ne.symm hq]
  obtain ⟨t, a1, b1⟩ := kk _ _ (hR.upd (mi' := cpM mi a b (ix n)) (by simp) oq (fun k h => ⟨rfl, cpM_ne h⟩) ⟨fun h => absurd h (by rw [hb2.2]; omega), fun _ => by
      rw [hb2.2, cpM_eq]
      simp [Array.getElem?_setIfInBounds, hl, av]⟩ (fun q hq => by
      rcases List.mem_append.mp hq with h | h
      · exact hR.2.2.2 q h
      · obtain ⟨z, -, hz⟩ := List.mem_map.mp h
        rw [← hz]
        exact Nat.le_add_right _ _)) _ hheap X'
  exact ⟨t, step t a1, b1⟩
end XS
end
section
/-! ===== answers, contracts, calls ===== -/
def rmD (d mc ms : Nat) : Room := { frames := d, cells := mc, slots := ms, locals := 35 * d }
def QX (G : GT) (r : Option Value) (S : Shp) (mr : Rfs) (mi : Mem) : Array Value → State → Outcome → State → Prop := fun _ _ oc t => oc = .returned r ∧ RM G S mr mi t.heap []
def PX (G : GT) (av : List Value) (S : Shp) (mr : Rfs) (mi : Mem) : Array Value → State → Prop := va_Pc av (fun U => RM G S mr mi U.heap [] ∧ Kx G U)
def MX (l : Launch) (G : GT) (y : MethodName) (cc : ByteArray) (nL : Nat) (rt : Option FieldType) (d mc ms : Nat) (av : List Value) (S : Shp) (mr : Rfs) (mi : Mem) (r : Option Value) (S' : Shp) (mr' : Rfs) (mi' : Mem) : Prop :=
  Met l y (Cond.code y cc nL rt :: tblG) (rmD d mc ms) (PX G av S mr mi) (QX G r S' mr' mi') mc ms (fun q => G.2.2.2.1 ≤ q)
theorem PX.blind {G : GT} {av : List Value} {S : Shp} {mr : Rfs} {mi : Mem} : FrameBlind (PX G av S mr mi) := fun _ U g mk h => ⟨h.1, h.2.1, Kx.warm (s := U) (U := U.calling g mk _) (State.WarmedH.refl U) h.2.2⟩
/-- a virtual call: the words that it takes -/
def CO (own : String) (idx : Nat) (y : MethodName) (cc : ByteArray) (nL : Nat) (rt : Option FieldType) (k : Nat) : Prop :=
  Cond.code y cc nL rt ∈ tblG ∧ Cond.initialized y.cls ∈ tblG ∧ Cond.instanceMethod y ∈ tblG ∧ Cond.selects y.cls y y ∈ tblG ∧ (y.cls ≠ "java/lang/invoke/MethodHandle" ∧ y.cls ≠ "java/lang/invoke/VarHandle" ∧ (parseMethodDescriptor y.desc).map (fun d => d.parameters.length) = some k) ∧
  (Cond.methodLink own idx y ∈ tblG ∨ Cond.methodLinkNest own idx y "LetterTray" ∈ nestT)
/-- a static call -/
def SO (own : String) (idx : Nat) (y : MethodName) (cc : ByteArray) (nL : Nat) (rt : Option FieldType) (k : Nat) : Prop :=
  Cond.code y cc nL rt ∈ tblG ∧ Cond.initialized y.cls ∈ tblG ∧ Cond.static y ∈ tblG ∧ (y.cls ≠ "java/lang/invoke/MethodHandle" ∧ y.cls ≠ "java/lang/invoke/VarHandle" ∧ (parseMethodDescriptor y.desc).map (fun d => d.parameters.length) = some k) ∧ Cond.methodLink own idx y ∈ tblG
/-- a constructor's call -/
def IO' (own : String) (idx : Nat) (y : MethodName) (cc : ByteArray) (nL : Nat) (k : Nat) : Prop :=
  Cond.code y cc nL none ∈ tblG ∧ Cond.initialized y.cls ∈ tblG ∧ Cond.instanceMethod y ∈ tblG ∧ y.name = "<init>" ∧ (y.cls ≠ "java/lang/invoke/MethodHandle" ∧ y.cls ≠ "java/lang/invoke/VarHandle" ∧ (parseMethodDescriptor y.desc).map (fun d => d.parameters.length) = some k) ∧
  (Cond.methodLink own idx y ∈ tblG ∨ Cond.methodLinkNest own idx y "LetterTray" ∈ nestT)
section XC
variable {p : Program} {l : Launch} {e : Env} {R : Room} {s : State} {m : MethodId} {args : Array Value} {below : List Frame} {meth : Method} {c : Code} {H : Heap} {locs : List Loc} {cells slots : Nat} {Q : State → Prop}
variable {cc : ByteArray} {pc : Nat} {ls : Array Slot} {rest : List Value} {G : GT} {S : Shp} {mr : Rfs} {mi : Mem} {own : String} {nL : Nat}
theorem x_iret (C : Cx G p s m c args own cc nL) (hR : RM G S mr mi H locs) {v : Int32} (hr : meth.sig.returnType = some .int) (hlk : meth.locks = false) (hd : decode cc pc = .ok (.ireturn, 1)) :
    W p l e R s m args below meth c H locs cells slots (MQ below (QX G (some (.int v)) S mr mi) args s cells slots (fun q => G.2.2.2.1 ≤ q)) (F0 m pc ls [.int v]) :=
  W.iret C.1 C.2.1 hr (fun t ht hW => ⟨rfl, by rw [ht]; exact hR.nil⟩) hR.2.2.2 hd
theorem x_zret (C : Cx G p s m c args own cc nL) (hR : RM G S mr mi H locs) {v : Int32} (hv : isB v = true) (hr : meth.sig.returnType = some .boolean) (hlk : meth.locks = false) (hd : decode cc pc = .ok (.ireturn, 1)) :
    W p l e R s m args below meth c H locs cells slots (MQ below (QX G (some (.int v)) S mr mi) args s cells slots (fun q => G.2.2.2.1 ≤ q)) (F0 m pc ls [.int v]) :=
  W.zret C.1 C.2.1 hr (isB_n hv) (fun t ht hW => ⟨rfl, by rw [ht]; exact hR.nil⟩) hR.2.2.2 hd
theorem x_vret (C : Cx G p s m c args own cc nL) (hR : RM G S mr mi H locs) (hr : meth.sig.returnType = none) (hlk : meth.locks = false) (hd : decode cc pc = .ok (.return_, 1)) :
    W p l e R s m args below meth c H locs cells slots (MQ below (QX G none S mr mi) args s cells slots (fun q => G.2.2.2.1 ≤ q)) (F0 m pc ls []) :=
  W.vret C.1 C.2.1 hr (fun t ht hW => ⟨rfl, by rw [ht]; exact hR.nil⟩) hR.2.2.2 hd
theorem x_aret (C : Cx G p s m c args own cc nL) (hR : RM G S mr mi H locs) {b : Nat} {n : String} (hr : meth.sig.returnType = some (.object n)) (hlk : meth.locks = false) (hd : decode cc pc = .ok (.areturn, 1)) :
    W p l e R s m args below meth c H locs cells slots (MQ below (QX G (some (.ref (G.2.2.2.1 + b))) S mr mi) args s cells slots (fun q => G.2.2.2.1 ≤ q)) (F0 m pc ls [.ref (G.2.2.2.1 + b)]) :=
  W.aret C.1 C.2.1 hr (Or.inl ⟨n, rfl⟩) (Or.inr ⟨_, rfl⟩) (fun t ht hW => ⟨rfl, by rw [ht]; exact hR.nil⟩) hR.2.2.2 hd
/-- behind a call -/
theorem x_run {mc ms : Nat} {st0 : List Value} {r : Option Value} {S' : Shp} {mr' : Rfs} {mi' : Mem} {a : Array Value} (hr : va_Run p l e R s m args below meth c H locs cells slots mc ms (F0 m pc ls st0) rest (QX G r S' mr' mi' a) (fun q => G.2.2.2.1 ≤ q)) (hR : RM G S mr mi H locs)
    (kk : ∀ (H1 : Heap) (locs1 : List Loc), RM G S' mr' mi' H1 locs1 → W p l e R s m args below meth c H1 locs1 (cells + mc) (slots + ms) Q (F0 m (pc + 3) ls (r.toList ++ rest))) : W p l e R s m args below meth c H locs cells slots Q (F0 m pc ls st0) := by
  intro T hT X
  obtain ⟨v, st₀, t, T', L, h0, X', hL, e1, e2, ⟨hv, hq⟩, st⟩ := hr T hT X
  have hv : v = r := Outcome.returned.inj hv
  subst hv
  obtain ⟨t2, a1, b1⟩ := kk T'.heap (locs ++ L) (by rw [e1]; exact hq.locs (t_lL hR.2.2.2 hL)) T' rfl X'
  exact ⟨t2, st t2 a1, b1⟩
theorem x_callV {y : MethodName} {ccY : ByteArray} {nY idx d mc ms a k : Nat} {rtY : Option FieldType} {As st0 : List Value} {r : Option Value} {S' : Shp} {mr' : Rfs} {mi' : Mem} (C : Cx G p s m c args own cc nL) (hR : RM G S mr mi H locs) (hO : CO own idx y ccY nY rtY k) (hM : MX l G y ccY nY rtY d mc ms (.ref (G.2.2.2.1 + a) :: As) S mr mi r S' mr' mi')
    (ha : a < S.1 ∧ S.2.1 a < 9 ∧ cN (S.2.1 a) = y.cls) (hk : As.length = k) (hst : st0 = As.reverse ++ .ref (G.2.2.2.1 + a) :: rest) (hrs : (rest.map fun v => v.category).sum ≤ 8) (hls : ls.size = nL) (hfr : d + 1 ≤ R.frames ∧ 8 + (nY + 11) + 35 * d ≤ R.locals) (hf : cells + mc ≤ R.cells ∧ slots + ms ≤ R.slots) (hd : decode cc pc = .ok (.invokevirtual idx, 3))
    (kk : ∀ (H1 : Heap) (locs1 : List Loc), RM G S' mr' mi' H1 locs1 → W p l e R s m args below meth c H1 locs1 (cells + mc) (slots + ms) Q (F0 m (pc + 3) ls (r.toList ++ rest))) : W p l e R s m args below meth c H locs cells slots Q (F0 m pc ls st0) := by
  obtain ⟨hx, hb, hml, hown, hts, hK⟩ := C
  obtain ⟨o1, o2, o3, o4, o5, o6⟩ := hO
  have hp : PreV s H y.cls (G.2.2.2.1 + a) (PX G (.ref (G.2.2.2.1 + a) :: As) S mr mi) As := by
    refine ⟨PX.blind, ?_, fun U hU hW => ⟨rfl, by rw [hU]; exact hR.nil, hK.warm hW⟩⟩
    obtain ⟨cell, q1, q2, q3, -⟩ := (hR.2.2.1 a ha.1).1 ha.2.1
    have hc := (hK.1.1 _ _ (cl_at _ ha.2.1)).2.1
    exact ⟨cell, q1, by rw [q3]; rfl, by rw [q2, ← ha.2.2]; exact hc⟩
  rcases o6 with o6 | o6
  · exact x_run (va_runV ⟨hx, hb, hml, hown, hts⟩ hM ⟨callB_of k hts (goodG _ _ _ _ o1) rfl rfl rfl (hts _ o2) (hts _ o6) o5 hfr, hts _ o3, hts _ o4⟩ hp rfl hk hls hst (lv_room hrs) hd hf) hR kk
  · exact x_run (va_runVN ⟨hx, hb, hml, hown, hts⟩ hM ⟨va_cnB k hts (goodG _ _ _ _ o1) rfl rfl rfl (hK.2 _ o6) (hts _ o2) o5 hfr, hts _ o3, hts _ o4⟩ hp rfl hk hls hst (lv_room hrs) hd hf) hR kk
theorem x_callS {y : MethodName} {ccY : ByteArray} {nY idx d mc ms k : Nat} {rtY : Option FieldType} {As st0 : List Value} {r : Option Value} {S' : Shp} {mr' : Rfs} {mi' : Mem} (C : Cx G p s m c args own cc nL) (hR : RM G S mr mi H locs) (hO : SO own idx y ccY nY rtY k) (hM : MX l G y ccY nY rtY d mc ms As S mr mi r S' mr' mi')
    (hk : As.length = k) (hst : st0 = As.reverse ++ rest) (hrs : (rest.map fun v => v.category).sum ≤ 8) (hls : ls.size = nL) (hfr : d + 1 ≤ R.frames ∧ 8 + (nY + 11) + 35 * d ≤ R.locals) (hf : cells + mc ≤ R.cells ∧ slots + ms ≤ R.slots) (hd : decode cc pc = .ok (.invokestatic idx, 3))
    (kk : ∀ (H1 : Heap) (locs1 : List Loc), RM G S' mr' mi' H1 locs1 → W p l e R s m args below meth c H1 locs1 (cells + mc) (slots + ms) Q (F0 m (pc + 3) ls (r.toList ++ rest))) : W p l e R s m args below meth c H locs cells slots Q (F0 m pc ls st0) := by
  obtain ⟨hx, hb, hml, hown, hts, hK⟩ := C
  obtain ⟨o1, o2, o3, o5, o6⟩ := hO
  have hp : PreS s H (PX G As S mr mi) As := ⟨PX.blind, fun U hU hW => ⟨rfl, by rw [hU]; exact hR.nil, hK.warm hW⟩⟩
  exact x_run (va_runS ⟨hx, hb, hml, hown, hts⟩ hM ⟨callB_of k hts (goodG _ _ _ _ o1) rfl rfl rfl (hts _ o2) (hts _ o6) o5 hfr, hts _ o3⟩ hp rfl hk hls hst (lv_room hrs) hd hf) hR kk
theorem x_callI {y : MethodName} {ccY : ByteArray} {nY idx d mc ms a k : Nat} {As st0 : List Value} {r : Option Value} {S' : Shp} {mr' : Rfs} {mi' : Mem} (C : Cx G p s m c args own cc nL) (hR : RM G S mr mi H locs) (hO : IO' own idx y ccY nY k) (hM : MX l G y ccY nY none d mc ms (.ref (G.2.2.2.1 + a) :: As) S mr mi r S' mr' mi')
    (hk : As.length = k) (hst : st0 = As.reverse ++ .ref (G.2.2.2.1 + a) :: rest) (hrs : (rest.map fun v => v.category).sum ≤ 8) (hls : ls.size = nL) (hfr : d + 1 ≤ R.frames ∧ 8 + (nY + 11) + 35 * d ≤ R.locals) (hf : cells + mc ≤ R.cells ∧ slots + ms ≤ R.slots) (hd : decode cc pc = .ok (.invokespecial idx, 3))
    (kk : ∀ (H1 : Heap) (locs1 : List Loc), RM G S' mr' mi' H1 locs1 → W p l e R s m args below meth c H1 locs1 (cells + mc) (slots + ms) Q (F0 m (pc + 3) ls (r.toList ++ rest))) : W p l e R s m args below meth c H locs cells slots Q (F0 m pc ls st0) := by
  obtain ⟨hx, hb, hml, hown, hts, hK⟩ := C
  obtain ⟨o1, o2, o3, o4, o5, o6⟩ := hO
  have hp : PreS s H (PX G (.ref (G.2.2.2.1 + a) :: As) S mr mi) (.ref (G.2.2.2.1 + a) :: As) := ⟨PX.blind, fun U hU hW => ⟨rfl, by rw [hU]; exact hR.nil, hK.warm hW⟩⟩
  rcases o6 with o6 | o6
  · exact x_run (va_runI ⟨hx, hb, hml, hown, hts⟩ hM ⟨callB_of k hts (goodG _ _ _ _ o1) rfl rfl rfl (hts _ o2) (hts _ o6) o5 hfr, o4, hts _ o3⟩ hp rfl hk hls hst (lv_room hrs) hd hf) hR kk
  · exact x_run (va_runIN ⟨hx, hb, hml, hown, hts⟩ hM ⟨va_cnB k hts (goodG _ _ _ _ o1) rfl rfl rfl (hK.2 _ o6) (hts _ o2) o5 hfr, o4, hts _ o3⟩ hp rfl hk hls hst (lv_room hrs) hd hf) hR kk
end XC
/-- a method's contract out of the walk of its body -/
theorem x_method {l : Launch} {G : GT} {y : MethodName} {cc : ByteArray} {nL : Nat} {rt : Option FieldType} {d mc ms : Nat} {av : List Value} {S : Shp} {mr : Rfs} {mi : Mem} {r : Option Value} {S' : Shp} {mr' : Rfs} {mi' : Mem} {own : String} {lv : List (Nat × Value)} (hy : plainName y.cls = true) (hown : y.cls = own) (hlv : lv_args 0 av = lv) (hn : (lg_sl av).length ≤ nL)
    (body : ∀ (p : Program) (e : Env) (s : State) (m : MethodId) (below : List Frame) (meth : Method) (c : Code), Cx G p s m c av.toArray own cc nL → meth.sig.returnType = rt → meth.locks = false → meth.name = y.name → ∀ ls : Array Slot, lv_has ls nL lv → ls.size = nL → RM G S mr mi s.heap [] →
      W p l e (rmD d mc ms) s m av.toArray below meth c s.heap [] 0 0 (MQ below (QX G r S' mr' mi') av.toArray s mc ms (fun q => G.2.2.2.1 ≤ q)) (F0 m 0 ls [])) : MX l G y cc nL rt d mc ms av S mr mi r S' mr' mi' := by
  refine Met.ofW (cc := cc) (maxL := nL) (ret := rt) hy rfl ?_
  intro p e s m args below meth c s₁ B hml hv
  obtain ⟨rfl, hR, hK⟩ := hv
  have hts := atoms_spec (ws := Cond.code y cc nL rt :: tblG) B.pre
  have ho : s.vm.findClass own = some m.cls := hown ▸ findClass_of_methodNamed B.named
  have hl := lv_entry av hn
  rw [lg_entry_eq]
  generalize (lg_sl av ++ List.replicate (nL - (lg_sl av).length) Slot.unset).toArray = ls at hl ⊢
  rw [hlv] at hl
  exact body p e s m below meth c ⟨B.exec, B.bytes, hml, ho, fun w hw => hts w (List.mem_cons_of_mem _ hw), hK⟩ B.returns B.notSynchronized (name_of_methodNamed B.named B.method).1 ls hl hl.1 hR
/-! ===== the words of plain programs: guard, name, loop ===== -/
def gd {α : Type} (b : Bool) (x : Option α) : Option α := if b = true then x else none
theorem gd_some {α : Type} {b : Bool} {x : Option α} {r : α} (h : gd b x = some r) : b = true ∧ x = some r := by
  cases b
  · cases h
  · exact ⟨rfl, h⟩
theorem gd_t {α : Type} {b : Bool} {x : Option α} (h : b = true) : gd b x = x := by rw [gd, if_pos h]
def nm {α β : Type} (x : α) (k : α → Option β) : Option β := k x
theorem nm_some {α β : Type} {x : α} {k : α → Option β} {r : β} (h : nm x k = some r) : ∃ y, y = x ∧ k y = some r := ⟨x, rfl, h⟩
theorem bd_some {α β : Type} {x : Option α} {k : α → Option β} {r : β} (h : x.bind k = some r) : ∃ y, x = some y ∧ k y = some r := by
  cases x with
  | none => cases h
  | some y => exact ⟨y, rfl, h⟩
def lp {σ ρ : Type} (body : σ → Option (σ ⊕ ρ)) : Nat → σ → Option ρ
  | 0, _ => none
  | n + 1, s => match body s with
    | none => none
    | some (.inl s') => lp body n s'
    | some (.inr r) => some r
theorem lp_some {σ ρ : Type} {body : σ → Option (σ ⊕ ρ)} {n : Nat} {s : σ} {r : ρ} (h : lp body n s = some r) : ∃ m x, n = m + 1 ∧ body s = some x ∧ ((∃ s', x = .inl s' ∧ lp body m s' = some r) ∨ x = .inr r) := by
  cases n with
  | zero => cases h
  | succ m =>
    unfold lp at h
    cases hb : body s with
    | none => rw [hb] at h; cases h
    | some x =>
      rw [hb] at h
      cases x with
      | inl s' => exact ⟨m, .inl s', rfl, rfl, Or.inl ⟨s', rfl, h⟩⟩
      | inr q => cases h; exact ⟨m, .inr r, rfl, rfl, Or.inr rfl⟩
/-- a loop runs to its end: an invariant, a measure -/
theorem lp_run {σ ρ : Type} {body : σ → Option (σ ⊕ ρ)} (I : σ → Prop) (μ : σ → Nat) (P : ρ → Prop) (hs : ∀ s, I s → (∃ s', body s = some (.inl s') ∧ I s' ∧ μ s' < μ s) ∨ (∃ r, body s = some (.inr r) ∧ P r)) : ∀ (n : Nat) (s : σ), I s → μ s < n → ∃ r, lp body n s = some r ∧ P r
  | 0, s, _, h => absurd h (Nat.not_lt_zero _)
  | n + 1, s, hI, h => by
    rcases hs s hI with ⟨s', hb, hI', hm⟩ | ⟨r, hb, hP⟩
    · obtain ⟨r, h1, h2⟩ := lp_run I μ P hs n s' hI' (by omega)
      exact ⟨r, by unfold lp; rw [hb]; exact h1, h2⟩
    · exact ⟨r, by unfold lp; rw [hb], hP⟩
end
