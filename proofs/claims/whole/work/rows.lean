section
-- ===== PART A: goes FIRST, ahead of the names: the tables' words, and 'selects' of the private methods out of them =====
/-- a private method of a class that the tables say can be made, by its rows of tables_1 -/
def lw_okq (q : MethodName × Nat) : Prop := (q.1.cls ≠ "java/lang/invoke/MethodHandle" ∧ q.1.cls ≠ "java/lang/invoke/VarHandle") ∧ Cond.instantiable q.1.cls q.2 ∈ tables_1 ∧ Cond.privateMethod q.1 ∈ tables_1 ∧ Cond.instanceMethod q.1 ∈ tables_1
theorem lw_p0 : lw_okq (⟨"TriedLines", "putBytes", "(I)V"⟩, 13) := ⟨⟨by decide +kernel, by decide +kernel⟩, List.mem_of_getElem? (i := 20) (by decide +kernel), List.mem_of_getElem? (i := 352) (by decide +kernel), List.mem_of_getElem? (i := 353) (by decide +kernel)⟩
theorem lw_p1 : lw_okq (⟨"TriedLines", "refuse", "(I)I"⟩, 13) := ⟨⟨by decide +kernel, by decide +kernel⟩, List.mem_of_getElem? (i := 20) (by decide +kernel), List.mem_of_getElem? (i := 363) (by decide +kernel), List.mem_of_getElem? (i := 364) (by decide +kernel)⟩
theorem lw_p2 : lw_okq (⟨"TriedLines$TextReader", "readText", "(I)Z"⟩, 11) := ⟨⟨by decide +kernel, by decide +kernel⟩, List.mem_of_getElem? (i := 100) (by decide +kernel), List.mem_of_getElem? (i := 367) (by decide +kernel), List.mem_of_getElem? (i := 368) (by decide +kernel)⟩
theorem lw_p3 : lw_okq (⟨"TriedLines$Plan", "clear", "()V"⟩, 13) := ⟨⟨by decide +kernel, by decide +kernel⟩, List.mem_of_getElem? (i := 28) (by decide +kernel), List.mem_of_getElem? (i := 371) (by decide +kernel), List.mem_of_getElem? (i := 372) (by decide +kernel)⟩
theorem lw_p4 : lw_okq (⟨"TriedLines$TextReader", "advance", "()V"⟩, 11) := ⟨⟨by decide +kernel, by decide +kernel⟩, List.mem_of_getElem? (i := 100) (by decide +kernel), List.mem_of_getElem? (i := 381) (by decide +kernel), List.mem_of_getElem? (i := 382) (by decide +kernel)⟩
theorem lw_p5 : lw_okq (⟨"TriedLines$TextReader", "readLine", "()Z"⟩, 11) := ⟨⟨by decide +kernel, by decide +kernel⟩, List.mem_of_getElem? (i := 100) (by decide +kernel), List.mem_of_getElem? (i := 388) (by decide +kernel), List.mem_of_getElem? (i := 389) (by decide +kernel)⟩
theorem lw_p6 : lw_okq (⟨"TriedLines$TextReader", "sortHere", "()I"⟩, 11) := ⟨⟨by decide +kernel, by decide +kernel⟩, List.mem_of_getElem? (i := 100) (by decide +kernel), List.mem_of_getElem? (i := 392) (by decide +kernel), List.mem_of_getElem? (i := 393) (by decide +kernel)⟩
theorem lw_p7 : lw_okq (⟨"TriedLines$TextReader", "isName", "(Ljava/lang/String;)Z"⟩, 11) := ⟨⟨by decide +kernel, by decide +kernel⟩, List.mem_of_getElem? (i := 100) (by decide +kernel), List.mem_of_getElem? (i := 397) (by decide +kernel), List.mem_of_getElem? (i := 398) (by decide +kernel)⟩
theorem lw_p8 : lw_okq (⟨"TriedLines$TextReader", "fail", "(II)Z"⟩, 11) := ⟨⟨by decide +kernel, by decide +kernel⟩, List.mem_of_getElem? (i := 100) (by decide +kernel), List.mem_of_getElem? (i := 458) (by decide +kernel), List.mem_of_getElem? (i := 459) (by decide +kernel)⟩
theorem lw_p9 : lw_okq (⟨"TriedLines$TextReader", "readMachine", "()Z"⟩, 11) := ⟨⟨by decide +kernel, by decide +kernel⟩, List.mem_of_getElem? (i := 100) (by decide +kernel), List.mem_of_getElem? (i := 462) (by decide +kernel), List.mem_of_getElem? (i := 463) (by decide +kernel)⟩
theorem lw_p10 : lw_okq (⟨"TriedLines$TextReader", "takeSetting", "(Ljava/lang/String;IZ)I"⟩, 11) := ⟨⟨by decide +kernel, by decide +kernel⟩, List.mem_of_getElem? (i := 100) (by decide +kernel), List.mem_of_getElem? (i := 467) (by decide +kernel), List.mem_of_getElem? (i := 468) (by decide +kernel)⟩
theorem lw_p11 : lw_okq (⟨"TriedLines$TextReader", "takeName", "(Ljava/lang/String;)Z"⟩, 11) := ⟨⟨by decide +kernel, by decide +kernel⟩, List.mem_of_getElem? (i := 100) (by decide +kernel), List.mem_of_getElem? (i := 471) (by decide +kernel), List.mem_of_getElem? (i := 472) (by decide +kernel)⟩
theorem lw_p12 : lw_okq (⟨"TriedLines$TextReader", "takeWhole", "(II)Z"⟩, 11) := ⟨⟨by decide +kernel, by decide +kernel⟩, List.mem_of_getElem? (i := 100) (by decide +kernel), List.mem_of_getElem? (i := 475) (by decide +kernel), List.mem_of_getElem? (i := 476) (by decide +kernel)⟩
theorem lw_p13 : lw_okq (⟨"TriedLines$TextReader", "readRule", "()Z"⟩, 11) := ⟨⟨by decide +kernel, by decide +kernel⟩, List.mem_of_getElem? (i := 100) (by decide +kernel), List.mem_of_getElem? (i := 482) (by decide +kernel), List.mem_of_getElem? (i := 483) (by decide +kernel)⟩
theorem lw_p14 : lw_okq (⟨"TriedLines$TextReader", "readWord", "()Z"⟩, 11) := ⟨⟨by decide +kernel, by decide +kernel⟩, List.mem_of_getElem? (i := 100) (by decide +kernel), List.mem_of_getElem? (i := 490) (by decide +kernel), List.mem_of_getElem? (i := 491) (by decide +kernel)⟩
theorem lw_p15 : lw_okq (⟨"TriedLines$Plan", "addresses", "()I"⟩, 13) := ⟨⟨by decide +kernel, by decide +kernel⟩, List.mem_of_getElem? (i := 28) (by decide +kernel), List.mem_of_getElem? (i := 494) (by decide +kernel), List.mem_of_getElem? (i := 495) (by decide +kernel)⟩
def lw_privs_1 : List (MethodName × Nat) := [(⟨"TriedLines", "putBytes", "(I)V"⟩, 13), (⟨"TriedLines", "refuse", "(I)I"⟩, 13), (⟨"TriedLines$TextReader", "readText", "(I)Z"⟩, 11), (⟨"TriedLines$Plan", "clear", "()V"⟩, 13), (⟨"TriedLines$TextReader", "advance", "()V"⟩, 11), (⟨"TriedLines$TextReader", "readLine", "()Z"⟩, 11), (⟨"TriedLines$TextReader", "sortHere", "()I"⟩, 11), (⟨"TriedLines$TextReader", "isName", "(Ljava/lang/String;)Z"⟩, 11), (⟨"TriedLines$TextReader", "fail", "(II)Z"⟩, 11), (⟨"TriedLines$TextReader", "readMachine", "()Z"⟩, 11), (⟨"TriedLines$TextReader", "takeSetting", "(Ljava/lang/String;IZ)I"⟩, 11), (⟨"TriedLines$TextReader", "takeName", "(Ljava/lang/String;)Z"⟩, 11), (⟨"TriedLines$TextReader", "takeWhole", "(II)Z"⟩, 11), (⟨"TriedLines$TextReader", "readRule", "()Z"⟩, 11), (⟨"TriedLines$TextReader", "readWord", "()Z"⟩, 11), (⟨"TriedLines$Plan", "addresses", "()I"⟩, 13)]
theorem lw_r1 : ∀ q ∈ lw_privs_1, lw_okq q := List.forall_mem_cons.mpr ⟨lw_p0, List.forall_mem_cons.mpr ⟨lw_p1, List.forall_mem_cons.mpr ⟨lw_p2, List.forall_mem_cons.mpr ⟨lw_p3, List.forall_mem_cons.mpr ⟨lw_p4, List.forall_mem_cons.mpr ⟨lw_p5, List.forall_mem_cons.mpr ⟨lw_p6, List.forall_mem_cons.mpr ⟨lw_p7, List.forall_mem_cons.mpr ⟨lw_p8, List.forall_mem_cons.mpr ⟨lw_p9, List.forall_mem_cons.mpr ⟨lw_p10, List.forall_mem_cons.mpr ⟨lw_p11, List.forall_mem_cons.mpr ⟨lw_p12, List.forall_mem_cons.mpr ⟨lw_p13, List.forall_mem_cons.mpr ⟨lw_p14, List.forall_mem_cons.mpr ⟨lw_p15, fun _ h => absurd h List.not_mem_nil⟩⟩⟩⟩⟩⟩⟩⟩⟩⟩⟩⟩⟩⟩⟩⟩
theorem lw_p16 : lw_okq (⟨"TriedLines$Plan", "hasAddress", "(I)Z"⟩, 13) := ⟨⟨by decide +kernel, by decide +kernel⟩, List.mem_of_getElem? (i := 28) (by decide +kernel), List.mem_of_getElem? (i := 498) (by decide +kernel), List.mem_of_getElem? (i := 499) (by decide +kernel)⟩
theorem lw_p17 : lw_okq (⟨"TriedLines$Plan", "addWord", "(II)V"⟩, 13) := ⟨⟨by decide +kernel, by decide +kernel⟩, List.mem_of_getElem? (i := 28) (by decide +kernel), List.mem_of_getElem? (i := 503) (by decide +kernel), List.mem_of_getElem? (i := 504) (by decide +kernel)⟩
theorem lw_p18 : lw_okq (⟨"TriedLines$TextReader", "readCore", "()Z"⟩, 11) := ⟨⟨by decide +kernel, by decide +kernel⟩, List.mem_of_getElem? (i := 100) (by decide +kernel), List.mem_of_getElem? (i := 508) (by decide +kernel), List.mem_of_getElem? (i := 509) (by decide +kernel)⟩
theorem lw_p19 : lw_okq (⟨"TriedLines$TextReader", "readDeed", "(I)Z"⟩, 11) := ⟨⟨by decide +kernel, by decide +kernel⟩, List.mem_of_getElem? (i := 100) (by decide +kernel), List.mem_of_getElem? (i := 512) (by decide +kernel), List.mem_of_getElem? (i := 513) (by decide +kernel)⟩
theorem lw_p20 : lw_okq (⟨"TriedLines$Plan", "hasCore", "(I)Z"⟩, 13) := ⟨⟨by decide +kernel, by decide +kernel⟩, List.mem_of_getElem? (i := 28) (by decide +kernel), List.mem_of_getElem? (i := 516) (by decide +kernel), List.mem_of_getElem? (i := 517) (by decide +kernel)⟩
theorem lw_p21 : lw_okq (⟨"TriedLines$TextReader", "readRest", "(I)Z"⟩, 11) := ⟨⟨by decide +kernel, by decide +kernel⟩, List.mem_of_getElem? (i := 100) (by decide +kernel), List.mem_of_getElem? (i := 520) (by decide +kernel), List.mem_of_getElem? (i := 521) (by decide +kernel)⟩
theorem lw_p22 : lw_okq (⟨"TriedLines$Plan", "addDeed", "(IIZ)V"⟩, 13) := ⟨⟨by decide +kernel, by decide +kernel⟩, List.mem_of_getElem? (i := 28) (by decide +kernel), List.mem_of_getElem? (i := 524) (by decide +kernel), List.mem_of_getElem? (i := 525) (by decide +kernel)⟩
theorem lw_p23 : lw_okq (⟨"TriedLines$TextReader", "readEnd", "()Z"⟩, 11) := ⟨⟨by decide +kernel, by decide +kernel⟩, List.mem_of_getElem? (i := 100) (by decide +kernel), List.mem_of_getElem? (i := 530) (by decide +kernel), List.mem_of_getElem? (i := 531) (by decide +kernel)⟩
theorem lw_p24 : lw_okq (⟨"TriedLines$Plan", "copyFrom", "(LTriedLines$Plan;)V"⟩, 13) := ⟨⟨by decide +kernel, by decide +kernel⟩, List.mem_of_getElem? (i := 28) (by decide +kernel), List.mem_of_getElem? (i := 534) (by decide +kernel), List.mem_of_getElem? (i := 535) (by decide +kernel)⟩
theorem lw_p25 : lw_okq (⟨"TriedLines$Run", "startOver", "(II)V"⟩, 12) := ⟨⟨by decide +kernel, by decide +kernel⟩, List.mem_of_getElem? (i := 142) (by decide +kernel), List.mem_of_getElem? (i := 541) (by decide +kernel), List.mem_of_getElem? (i := 542) (by decide +kernel)⟩
theorem lw_p26 : lw_okq (⟨"TriedLines$Cache", "clear", "()V"⟩, 7) := ⟨⟨by decide +kernel, by decide +kernel⟩, List.mem_of_getElem? (i := 151) (by decide +kernel), List.mem_of_getElem? (i := 545) (by decide +kernel), List.mem_of_getElem? (i := 546) (by decide +kernel)⟩
theorem lw_p27 : lw_okq (⟨"TriedLines$Cache", "dropLine", "(I)V"⟩, 7) := ⟨⟨by decide +kernel, by decide +kernel⟩, List.mem_of_getElem? (i := 151) (by decide +kernel), List.mem_of_getElem? (i := 549) (by decide +kernel), List.mem_of_getElem? (i := 550) (by decide +kernel)⟩
theorem lw_p28 : lw_okq (⟨"TriedLines$Core", "clear", "()V"⟩, 8) := ⟨⟨by decide +kernel, by decide +kernel⟩, List.mem_of_getElem? (i := 188) (by decide +kernel), List.mem_of_getElem? (i := 553) (by decide +kernel), List.mem_of_getElem? (i := 554) (by decide +kernel)⟩
theorem lw_p29 : lw_okq (⟨"TriedLines", "answer", "(I)I"⟩, 13) := ⟨⟨by decide +kernel, by decide +kernel⟩, List.mem_of_getElem? (i := 20) (by decide +kernel), List.mem_of_getElem? (i := 557) (by decide +kernel), List.mem_of_getElem? (i := 558) (by decide +kernel)⟩
theorem lw_p30 : lw_okq (⟨"TriedLines$Plan", "hasDeed", "(II)Z"⟩, 13) := ⟨⟨by decide +kernel, by decide +kernel⟩, List.mem_of_getElem? (i := 28) (by decide +kernel), List.mem_of_getElem? (i := 579) (by decide +kernel), List.mem_of_getElem? (i := 580) (by decide +kernel)⟩
theorem lw_p31 : lw_okq (⟨"TriedLines$Plan", "sortOf", "(II)I"⟩, 13) := ⟨⟨by decide +kernel, by decide +kernel⟩, List.mem_of_getElem? (i := 28) (by decide +kernel), List.mem_of_getElem? (i := 583) (by decide +kernel), List.mem_of_getElem? (i := 584) (by decide +kernel)⟩
def lw_privs_2 : List (MethodName × Nat) := [(⟨"TriedLines$Plan", "hasAddress", "(I)Z"⟩, 13), (⟨"TriedLines$Plan", "addWord", "(II)V"⟩, 13), (⟨"TriedLines$TextReader", "readCore", "()Z"⟩, 11), (⟨"TriedLines$TextReader", "readDeed", "(I)Z"⟩, 11), (⟨"TriedLines$Plan", "hasCore", "(I)Z"⟩, 13), (⟨"TriedLines$TextReader", "readRest", "(I)Z"⟩, 11), (⟨"TriedLines$Plan", "addDeed", "(IIZ)V"⟩, 13), (⟨"TriedLines$TextReader", "readEnd", "()Z"⟩, 11), (⟨"TriedLines$Plan", "copyFrom", "(LTriedLines$Plan;)V"⟩, 13), (⟨"TriedLines$Run", "startOver", "(II)V"⟩, 12), (⟨"TriedLines$Cache", "clear", "()V"⟩, 7), (⟨"TriedLines$Cache", "dropLine", "(I)V"⟩, 7), (⟨"TriedLines$Core", "clear", "()V"⟩, 8), (⟨"TriedLines", "answer", "(I)I"⟩, 13), (⟨"TriedLines$Plan", "hasDeed", "(II)Z"⟩, 13), (⟨"TriedLines$Plan", "sortOf", "(II)I"⟩, 13)]
theorem lw_r2 : ∀ q ∈ lw_privs_2, lw_okq q := List.forall_mem_cons.mpr ⟨lw_p16, List.forall_mem_cons.mpr ⟨lw_p17, List.forall_mem_cons.mpr ⟨lw_p18, List.forall_mem_cons.mpr ⟨lw_p19, List.forall_mem_cons.mpr ⟨lw_p20, List.forall_mem_cons.mpr ⟨lw_p21, List.forall_mem_cons.mpr ⟨lw_p22, List.forall_mem_cons.mpr ⟨lw_p23, List.forall_mem_cons.mpr ⟨lw_p24, List.forall_mem_cons.mpr ⟨lw_p25, List.forall_mem_cons.mpr ⟨lw_p26, List.forall_mem_cons.mpr ⟨lw_p27, List.forall_mem_cons.mpr ⟨lw_p28, List.forall_mem_cons.mpr ⟨lw_p29, List.forall_mem_cons.mpr ⟨lw_p30, List.forall_mem_cons.mpr ⟨lw_p31, fun _ h => absurd h List.not_mem_nil⟩⟩⟩⟩⟩⟩⟩⟩⟩⟩⟩⟩⟩⟩⟩⟩
theorem lw_p32 : lw_okq (⟨"TriedLines$Plan", "wholeOf", "(II)I"⟩, 13) := ⟨⟨by decide +kernel, by decide +kernel⟩, List.mem_of_getElem? (i := 28) (by decide +kernel), List.mem_of_getElem? (i := 588) (by decide +kernel), List.mem_of_getElem? (i := 589) (by decide +kernel)⟩
theorem lw_p33 : lw_okq (⟨"TriedLines$Plan", "isIndexed", "(II)Z"⟩, 13) := ⟨⟨by decide +kernel, by decide +kernel⟩, List.mem_of_getElem? (i := 28) (by decide +kernel), List.mem_of_getElem? (i := 592) (by decide +kernel), List.mem_of_getElem? (i := 593) (by decide +kernel)⟩
theorem lw_p34 : lw_okq (⟨"TriedLines$Run", "wordAt", "(I)I"⟩, 12) := ⟨⟨by decide +kernel, by decide +kernel⟩, List.mem_of_getElem? (i := 142) (by decide +kernel), List.mem_of_getElem? (i := 604) (by decide +kernel), List.mem_of_getElem? (i := 605) (by decide +kernel)⟩
theorem lw_p35 : lw_okq (⟨"TriedLines$Plan", "lineOf", "(I)I"⟩, 13) := ⟨⟨by decide +kernel, by decide +kernel⟩, List.mem_of_getElem? (i := 28) (by decide +kernel), List.mem_of_getElem? (i := 608) (by decide +kernel), List.mem_of_getElem? (i := 609) (by decide +kernel)⟩
theorem lw_p36 : lw_okq (⟨"TriedLines$Cache", "find", "(I)I"⟩, 7) := ⟨⟨by decide +kernel, by decide +kernel⟩, List.mem_of_getElem? (i := 151) (by decide +kernel), List.mem_of_getElem? (i := 612) (by decide +kernel), List.mem_of_getElem? (i := 613) (by decide +kernel)⟩
theorem lw_p37 : lw_okq (⟨"TriedLines$Plan", "offsetOf", "(I)I"⟩, 13) := ⟨⟨by decide +kernel, by decide +kernel⟩, List.mem_of_getElem? (i := 28) (by decide +kernel), List.mem_of_getElem? (i := 616) (by decide +kernel), List.mem_of_getElem? (i := 617) (by decide +kernel)⟩
theorem lw_p38 : lw_okq (⟨"TriedLines$Cache", "wordIn", "(II)I"⟩, 7) := ⟨⟨by decide +kernel, by decide +kernel⟩, List.mem_of_getElem? (i := 151) (by decide +kernel), List.mem_of_getElem? (i := 620) (by decide +kernel), List.mem_of_getElem? (i := 621) (by decide +kernel)⟩
theorem lw_p39 : lw_okq (⟨"TriedLines", "playCommits", "()V"⟩, 13) := ⟨⟨by decide +kernel, by decide +kernel⟩, List.mem_of_getElem? (i := 20) (by decide +kernel), List.mem_of_getElem? (i := 632) (by decide +kernel), List.mem_of_getElem? (i := 633) (by decide +kernel)⟩
theorem lw_p40 : lw_okq (⟨"TriedLines$Solo", "startOver", "()V"⟩, 6) := ⟨⟨by decide +kernel, by decide +kernel⟩, List.mem_of_getElem? (i := 281) (by decide +kernel), List.mem_of_getElem? (i := 636) (by decide +kernel), List.mem_of_getElem? (i := 637) (by decide +kernel)⟩
theorem lw_p41 : lw_okq (⟨"TriedLines$Solo", "play", "(IIZ)V"⟩, 6) := ⟨⟨by decide +kernel, by decide +kernel⟩, List.mem_of_getElem? (i := 281) (by decide +kernel), List.mem_of_getElem? (i := 641) (by decide +kernel), List.mem_of_getElem? (i := 642) (by decide +kernel)⟩
theorem lw_p42 : lw_okq (⟨"TriedLines$Solo", "playDeed", "(II)V"⟩, 6) := ⟨⟨by decide +kernel, by decide +kernel⟩, List.mem_of_getElem? (i := 281) (by decide +kernel), List.mem_of_getElem? (i := 646) (by decide +kernel), List.mem_of_getElem? (i := 647) (by decide +kernel)⟩
theorem lw_p43 : lw_okq (⟨"TriedLines$Solo", "widen", "()V"⟩, 6) := ⟨⟨by decide +kernel, by decide +kernel⟩, List.mem_of_getElem? (i := 281) (by decide +kernel), List.mem_of_getElem? (i := 653) (by decide +kernel), List.mem_of_getElem? (i := 654) (by decide +kernel)⟩
theorem lw_p44 : lw_okq (⟨"TriedLines$Plan", "setOf", "(I)I"⟩, 13) := ⟨⟨by decide +kernel, by decide +kernel⟩, List.mem_of_getElem? (i := 28) (by decide +kernel), List.mem_of_getElem? (i := 657) (by decide +kernel), List.mem_of_getElem? (i := 658) (by decide +kernel)⟩
theorem lw_p45 : lw_okq (⟨"TriedLines$Solo", "touch", "(II)I"⟩, 6) := ⟨⟨by decide +kernel, by decide +kernel⟩, List.mem_of_getElem? (i := 281) (by decide +kernel), List.mem_of_getElem? (i := 662) (by decide +kernel), List.mem_of_getElem? (i := 663) (by decide +kernel)⟩
theorem lw_p46 : lw_okq (⟨"TriedLines$Plan", "addressOf", "(III)I"⟩, 13) := ⟨⟨by decide +kernel, by decide +kernel⟩, List.mem_of_getElem? (i := 28) (by decide +kernel), List.mem_of_getElem? (i := 666) (by decide +kernel), List.mem_of_getElem? (i := 667) (by decide +kernel)⟩
theorem lw_p47 : lw_okq (⟨"TriedLines$Cache", "markedLines", "(Z)I"⟩, 7) := ⟨⟨by decide +kernel, by decide +kernel⟩, List.mem_of_getElem? (i := 151) (by decide +kernel), List.mem_of_getElem? (i := 710) (by decide +kernel), List.mem_of_getElem? (i := 711) (by decide +kernel)⟩
def lw_privs_3 : List (MethodName × Nat) := [(⟨"TriedLines$Plan", "wholeOf", "(II)I"⟩, 13), (⟨"TriedLines$Plan", "isIndexed", "(II)Z"⟩, 13), (⟨"TriedLines$Run", "wordAt", "(I)I"⟩, 12), (⟨"TriedLines$Plan", "lineOf", "(I)I"⟩, 13), (⟨"TriedLines$Cache", "find", "(I)I"⟩, 7), (⟨"TriedLines$Plan", "offsetOf", "(I)I"⟩, 13), (⟨"TriedLines$Cache", "wordIn", "(II)I"⟩, 7), (⟨"TriedLines", "playCommits", "()V"⟩, 13), (⟨"TriedLines$Solo", "startOver", "()V"⟩, 6), (⟨"TriedLines$Solo", "play", "(IIZ)V"⟩, 6), (⟨"TriedLines$Solo", "playDeed", "(II)V"⟩, 6), (⟨"TriedLines$Solo", "widen", "()V"⟩, 6), (⟨"TriedLines$Plan", "setOf", "(I)I"⟩, 13), (⟨"TriedLines$Solo", "touch", "(II)I"⟩, 6), (⟨"TriedLines$Plan", "addressOf", "(III)I"⟩, 13), (⟨"TriedLines$Cache", "markedLines", "(Z)I"⟩, 7)]
theorem lw_r3 : ∀ q ∈ lw_privs_3, lw_okq q := List.forall_mem_cons.mpr ⟨lw_p32, List.forall_mem_cons.mpr ⟨lw_p33, List.forall_mem_cons.mpr ⟨lw_p34, List.forall_mem_cons.mpr ⟨lw_p35, List.forall_mem_cons.mpr ⟨lw_p36, List.forall_mem_cons.mpr ⟨lw_p37, List.forall_mem_cons.mpr ⟨lw_p38, List.forall_mem_cons.mpr ⟨lw_p39, List.forall_mem_cons.mpr ⟨lw_p40, List.forall_mem_cons.mpr ⟨lw_p41, List.forall_mem_cons.mpr ⟨lw_p42, List.forall_mem_cons.mpr ⟨lw_p43, List.forall_mem_cons.mpr ⟨lw_p44, List.forall_mem_cons.mpr ⟨lw_p45, List.forall_mem_cons.mpr ⟨lw_p46, List.forall_mem_cons.mpr ⟨lw_p47, fun _ h => absurd h List.not_mem_nil⟩⟩⟩⟩⟩⟩⟩⟩⟩⟩⟩⟩⟩⟩⟩⟩
theorem lw_p48 : lw_okq (⟨"TriedLines$Run", "hasDeedsLeft", "(I)Z"⟩, 12) := ⟨⟨by decide +kernel, by decide +kernel⟩, List.mem_of_getElem? (i := 142) (by decide +kernel), List.mem_of_getElem? (i := 726) (by decide +kernel), List.mem_of_getElem? (i := 727) (by decide +kernel)⟩
theorem lw_p49 : lw_okq (⟨"TriedLines$Run", "lostAfter", "(II)I"⟩, 12) := ⟨⟨by decide +kernel, by decide +kernel⟩, List.mem_of_getElem? (i := 142) (by decide +kernel), List.mem_of_getElem? (i := 739) (by decide +kernel), List.mem_of_getElem? (i := 740) (by decide +kernel)⟩
theorem lw_p50 : lw_okq (⟨"TriedLines$Run", "copyFrom", "(LTriedLines$Run;)V"⟩, 12) := ⟨⟨by decide +kernel, by decide +kernel⟩, List.mem_of_getElem? (i := 142) (by decide +kernel), List.mem_of_getElem? (i := 751) (by decide +kernel), List.mem_of_getElem? (i := 752) (by decide +kernel)⟩
theorem lw_p51 : lw_okq (⟨"TriedLines$Cache", "copyFrom", "(LTriedLines$Cache;)V"⟩, 7) := ⟨⟨by decide +kernel, by decide +kernel⟩, List.mem_of_getElem? (i := 151) (by decide +kernel), List.mem_of_getElem? (i := 756) (by decide +kernel), List.mem_of_getElem? (i := 757) (by decide +kernel)⟩
theorem lw_p52 : lw_okq (⟨"TriedLines$Core", "copyFrom", "(LTriedLines$Core;)V"⟩, 8) := ⟨⟨by decide +kernel, by decide +kernel⟩, List.mem_of_getElem? (i := 188) (by decide +kernel), List.mem_of_getElem? (i := 761) (by decide +kernel), List.mem_of_getElem? (i := 762) (by decide +kernel)⟩
theorem lw_p53 : lw_okq (⟨"TriedLines$Run", "takeStep", "(I)I"⟩, 12) := ⟨⟨by decide +kernel, by decide +kernel⟩, List.mem_of_getElem? (i := 142) (by decide +kernel), List.mem_of_getElem? (i := 766) (by decide +kernel), List.mem_of_getElem? (i := 767) (by decide +kernel)⟩
theorem lw_p54 : lw_okq (⟨"TriedLines$Run", "doBegin", "(ILTriedLines$Core;)I"⟩, 12) := ⟨⟨by decide +kernel, by decide +kernel⟩, List.mem_of_getElem? (i := 142) (by decide +kernel), List.mem_of_getElem? (i := 773) (by decide +kernel), List.mem_of_getElem? (i := 774) (by decide +kernel)⟩
theorem lw_p55 : lw_okq (⟨"TriedLines$Run", "reach", "(IIZ)I"⟩, 12) := ⟨⟨by decide +kernel, by decide +kernel⟩, List.mem_of_getElem? (i := 142) (by decide +kernel), List.mem_of_getElem? (i := 777) (by decide +kernel), List.mem_of_getElem? (i := 778) (by decide +kernel)⟩
theorem lw_p56 : lw_okq (⟨"TriedLines$Run", "ask", "(IIZ)I"⟩, 12) := ⟨⟨by decide +kernel, by decide +kernel⟩, List.mem_of_getElem? (i := 142) (by decide +kernel), List.mem_of_getElem? (i := 781) (by decide +kernel), List.mem_of_getElem? (i := 782) (by decide +kernel)⟩
theorem lw_p57 : lw_okq (⟨"TriedLines$Run", "marking", "(IIZ)I"⟩, 12) := ⟨⟨by decide +kernel, by decide +kernel⟩, List.mem_of_getElem? (i := 142) (by decide +kernel), List.mem_of_getElem? (i := 785) (by decide +kernel), List.mem_of_getElem? (i := 786) (by decide +kernel)⟩
theorem lw_p58 : lw_okq (⟨"TriedLines$Run", "endTries", "(II)V"⟩, 12) := ⟨⟨by decide +kernel, by decide +kernel⟩, List.mem_of_getElem? (i := 142) (by decide +kernel), List.mem_of_getElem? (i := 789) (by decide +kernel), List.mem_of_getElem? (i := 790) (by decide +kernel)⟩
theorem lw_p59 : lw_okq (⟨"TriedLines$Cache", "unmark", "(Z)V"⟩, 7) := ⟨⟨by decide +kernel, by decide +kernel⟩, List.mem_of_getElem? (i := 151) (by decide +kernel), List.mem_of_getElem? (i := 793) (by decide +kernel), List.mem_of_getElem? (i := 794) (by decide +kernel)⟩
theorem lw_p60 : lw_okq (⟨"TriedLines$Cache", "findRoom", "(I)I"⟩, 7) := ⟨⟨by decide +kernel, by decide +kernel⟩, List.mem_of_getElem? (i := 151) (by decide +kernel), List.mem_of_getElem? (i := 798) (by decide +kernel), List.mem_of_getElem? (i := 799) (by decide +kernel)⟩
theorem lw_p61 : lw_okq (⟨"TriedLines$Run", "writeBack", "(LTriedLines$Cache;I)V"⟩, 12) := ⟨⟨by decide +kernel, by decide +kernel⟩, List.mem_of_getElem? (i := 142) (by decide +kernel), List.mem_of_getElem? (i := 803) (by decide +kernel), List.mem_of_getElem? (i := 804) (by decide +kernel)⟩
theorem lw_p62 : lw_okq (⟨"TriedLines$Run", "changeOthers", "(IIZ)Z"⟩, 12) := ⟨⟨by decide +kernel, by decide +kernel⟩, List.mem_of_getElem? (i := 142) (by decide +kernel), List.mem_of_getElem? (i := 808) (by decide +kernel), List.mem_of_getElem? (i := 809) (by decide +kernel)⟩
theorem lw_p63 : lw_okq (⟨"TriedLines$Run", "bringLine", "(LTriedLines$Cache;II)V"⟩, 12) := ⟨⟨by decide +kernel, by decide +kernel⟩, List.mem_of_getElem? (i := 142) (by decide +kernel), List.mem_of_getElem? (i := 812) (by decide +kernel), List.mem_of_getElem? (i := 813) (by decide +kernel)⟩
def lw_privs_4 : List (MethodName × Nat) := [(⟨"TriedLines$Run", "hasDeedsLeft", "(I)Z"⟩, 12), (⟨"TriedLines$Run", "lostAfter", "(II)I"⟩, 12), (⟨"TriedLines$Run", "copyFrom", "(LTriedLines$Run;)V"⟩, 12), (⟨"TriedLines$Cache", "copyFrom", "(LTriedLines$Cache;)V"⟩, 7), (⟨"TriedLines$Core", "copyFrom", "(LTriedLines$Core;)V"⟩, 8), (⟨"TriedLines$Run", "takeStep", "(I)I"⟩, 12), (⟨"TriedLines$Run", "doBegin", "(ILTriedLines$Core;)I"⟩, 12), (⟨"TriedLines$Run", "reach", "(IIZ)I"⟩, 12), (⟨"TriedLines$Run", "ask", "(IIZ)I"⟩, 12), (⟨"TriedLines$Run", "marking", "(IIZ)I"⟩, 12), (⟨"TriedLines$Run", "endTries", "(II)V"⟩, 12), (⟨"TriedLines$Cache", "unmark", "(Z)V"⟩, 7), (⟨"TriedLines$Cache", "findRoom", "(I)I"⟩, 7), (⟨"TriedLines$Run", "writeBack", "(LTriedLines$Cache;I)V"⟩, 12), (⟨"TriedLines$Run", "changeOthers", "(IIZ)Z"⟩, 12), (⟨"TriedLines$Run", "bringLine", "(LTriedLines$Cache;II)V"⟩, 12)]
theorem lw_r4 : ∀ q ∈ lw_privs_4, lw_okq q := List.forall_mem_cons.mpr ⟨lw_p48, List.forall_mem_cons.mpr ⟨lw_p49, List.forall_mem_cons.mpr ⟨lw_p50, List.forall_mem_cons.mpr ⟨lw_p51, List.forall_mem_cons.mpr ⟨lw_p52, List.forall_mem_cons.mpr ⟨lw_p53, List.forall_mem_cons.mpr ⟨lw_p54, List.forall_mem_cons.mpr ⟨lw_p55, List.forall_mem_cons.mpr ⟨lw_p56, List.forall_mem_cons.mpr ⟨lw_p57, List.forall_mem_cons.mpr ⟨lw_p58, List.forall_mem_cons.mpr ⟨lw_p59, List.forall_mem_cons.mpr ⟨lw_p60, List.forall_mem_cons.mpr ⟨lw_p61, List.forall_mem_cons.mpr ⟨lw_p62, List.forall_mem_cons.mpr ⟨lw_p63, fun _ h => absurd h List.not_mem_nil⟩⟩⟩⟩⟩⟩⟩⟩⟩⟩⟩⟩⟩⟩⟩⟩
theorem lw_p64 : lw_okq (⟨"TriedLines$Cache", "setWord", "(III)V"⟩, 7) := ⟨⟨by decide +kernel, by decide +kernel⟩, List.mem_of_getElem? (i := 151) (by decide +kernel), List.mem_of_getElem? (i := 816) (by decide +kernel), List.mem_of_getElem? (i := 817) (by decide +kernel)⟩
theorem lw_p65 : lw_okq (⟨"TriedLines$Run", "markLine", "(IIZ)V"⟩, 12) := ⟨⟨by decide +kernel, by decide +kernel⟩, List.mem_of_getElem? (i := 142) (by decide +kernel), List.mem_of_getElem? (i := 820) (by decide +kernel), List.mem_of_getElem? (i := 821) (by decide +kernel)⟩
theorem lw_p66 : lw_okq (⟨"TriedLines$Run", "doEnd", "(ILTriedLines$Core;)V"⟩, 12) := ⟨⟨by decide +kernel, by decide +kernel⟩, List.mem_of_getElem? (i := 142) (by decide +kernel), List.mem_of_getElem? (i := 824) (by decide +kernel), List.mem_of_getElem? (i := 825) (by decide +kernel)⟩
theorem lw_p67 : lw_okq (⟨"TriedLines$Run", "doGet", "(ILTriedLines$Core;)I"⟩, 12) := ⟨⟨by decide +kernel, by decide +kernel⟩, List.mem_of_getElem? (i := 142) (by decide +kernel), List.mem_of_getElem? (i := 828) (by decide +kernel), List.mem_of_getElem? (i := 829) (by decide +kernel)⟩
theorem lw_p68 : lw_okq (⟨"TriedLines$Run", "doPut", "(ILTriedLines$Core;)I"⟩, 12) := ⟨⟨by decide +kernel, by decide +kernel⟩, List.mem_of_getElem? (i := 142) (by decide +kernel), List.mem_of_getElem? (i := 833) (by decide +kernel), List.mem_of_getElem? (i := 834) (by decide +kernel)⟩
theorem lw_p69 : lw_okq (⟨"TriedLines$Run", "takeRounds", "(I)I"⟩, 12) := ⟨⟨by decide +kernel, by decide +kernel⟩, List.mem_of_getElem? (i := 142) (by decide +kernel), List.mem_of_getElem? (i := 850) (by decide +kernel), List.mem_of_getElem? (i := 851) (by decide +kernel)⟩
theorem lw_p70 : lw_okq (⟨"TriedLines$Run", "takeDraws", "(II)I"⟩, 12) := ⟨⟨by decide +kernel, by decide +kernel⟩, List.mem_of_getElem? (i := 142) (by decide +kernel), List.mem_of_getElem? (i := 863) (by decide +kernel), List.mem_of_getElem? (i := 864) (by decide +kernel)⟩
theorem lw_p71 : lw_okq (⟨"TriedLines$Run", "isAllDone", "()Z"⟩, 12) := ⟨⟨by decide +kernel, by decide +kernel⟩, List.mem_of_getElem? (i := 142) (by decide +kernel), List.mem_of_getElem? (i := 867) (by decide +kernel), List.mem_of_getElem? (i := 868) (by decide +kernel)⟩
theorem lw_p72 : lw_okq (⟨"TriedLines$Run", "countInAll", "(I)I"⟩, 12) := ⟨⟨by decide +kernel, by decide +kernel⟩, List.mem_of_getElem? (i := 142) (by decide +kernel), List.mem_of_getElem? (i := 885) (by decide +kernel), List.mem_of_getElem? (i := 886) (by decide +kernel)⟩
theorem lw_p73 : lw_okq (⟨"TriedLines$Plan", "deedsInAll", "()I"⟩, 13) := ⟨⟨by decide +kernel, by decide +kernel⟩, List.mem_of_getElem? (i := 28) (by decide +kernel), List.mem_of_getElem? (i := 913) (by decide +kernel), List.mem_of_getElem? (i := 914) (by decide +kernel)⟩
theorem lw_p74 : lw_okq (⟨"java/lang/Throwable", "fillInStackTrace", "(I)Ljava/lang/Throwable;"⟩, 6) := ⟨⟨by decide +kernel, by decide +kernel⟩, List.mem_of_getElem? (i := 965) (by decide +kernel), List.mem_of_getElem? (i := 963) (by decide +kernel), List.mem_of_getElem? (i := 964) (by decide +kernel)⟩
theorem lw_p75 : lw_okq (⟨"TriedLinesModel", "lays", "(I)V"⟩, 42) := ⟨⟨by decide +kernel, by decide +kernel⟩, List.mem_of_getElem? (i := 990) (by decide +kernel), List.mem_of_getElem? (i := 1131) (by decide +kernel), List.mem_of_getElem? (i := 1132) (by decide +kernel)⟩
theorem lw_p76 : lw_okq (⟨"TriedLinesModel", "anew", "()V"⟩, 42) := ⟨⟨by decide +kernel, by decide +kernel⟩, List.mem_of_getElem? (i := 990) (by decide +kernel), List.mem_of_getElem? (i := 1139) (by decide +kernel), List.mem_of_getElem? (i := 1140) (by decide +kernel)⟩
theorem lw_p77 : lw_okq (⟨"TriedLinesModel", "no", "(I)I"⟩, 42) := ⟨⟨by decide +kernel, by decide +kernel⟩, List.mem_of_getElem? (i := 990) (by decide +kernel), List.mem_of_getElem? (i := 1146) (by decide +kernel), List.mem_of_getElem? (i := 1147) (by decide +kernel)⟩
theorem lw_p78 : lw_okq (⟨"TriedLinesModel", "readText", "(I)I"⟩, 42) := ⟨⟨by decide +kernel, by decide +kernel⟩, List.mem_of_getElem? (i := 990) (by decide +kernel), List.mem_of_getElem? (i := 1150) (by decide +kernel), List.mem_of_getElem? (i := 1151) (by decide +kernel)⟩
theorem lw_p79 : lw_okq (⟨"TriedLinesModel", "nextToken", "()V"⟩, 42) := ⟨⟨by decide +kernel, by decide +kernel⟩, List.mem_of_getElem? (i := 990) (by decide +kernel), List.mem_of_getElem? (i := 1154) (by decide +kernel), List.mem_of_getElem? (i := 1155) (by decide +kernel)⟩
def lw_privs_5 : List (MethodName × Nat) := [(⟨"TriedLines$Cache", "setWord", "(III)V"⟩, 7), (⟨"TriedLines$Run", "markLine", "(IIZ)V"⟩, 12), (⟨"TriedLines$Run", "doEnd", "(ILTriedLines$Core;)V"⟩, 12), (⟨"TriedLines$Run", "doGet", "(ILTriedLines$Core;)I"⟩, 12), (⟨"TriedLines$Run", "doPut", "(ILTriedLines$Core;)I"⟩, 12), (⟨"TriedLines$Run", "takeRounds", "(I)I"⟩, 12), (⟨"TriedLines$Run", "takeDraws", "(II)I"⟩, 12), (⟨"TriedLines$Run", "isAllDone", "()Z"⟩, 12), (⟨"TriedLines$Run", "countInAll", "(I)I"⟩, 12), (⟨"TriedLines$Plan", "deedsInAll", "()I"⟩, 13), (⟨"java/lang/Throwable", "fillInStackTrace", "(I)Ljava/lang/Throwable;"⟩, 6), (⟨"TriedLinesModel", "lays", "(I)V"⟩, 42), (⟨"TriedLinesModel", "anew", "()V"⟩, 42), (⟨"TriedLinesModel", "no", "(I)I"⟩, 42), (⟨"TriedLinesModel", "readText", "(I)I"⟩, 42), (⟨"TriedLinesModel", "nextToken", "()V"⟩, 42)]
theorem lw_r5 : ∀ q ∈ lw_privs_5, lw_okq q := List.forall_mem_cons.mpr ⟨lw_p64, List.forall_mem_cons.mpr ⟨lw_p65, List.forall_mem_cons.mpr ⟨lw_p66, List.forall_mem_cons.mpr ⟨lw_p67, List.forall_mem_cons.mpr ⟨lw_p68, List.forall_mem_cons.mpr ⟨lw_p69, List.forall_mem_cons.mpr ⟨lw_p70, List.forall_mem_cons.mpr ⟨lw_p71, List.forall_mem_cons.mpr ⟨lw_p72, List.forall_mem_cons.mpr ⟨lw_p73, List.forall_mem_cons.mpr ⟨lw_p74, List.forall_mem_cons.mpr ⟨lw_p75, List.forall_mem_cons.mpr ⟨lw_p76, List.forall_mem_cons.mpr ⟨lw_p77, List.forall_mem_cons.mpr ⟨lw_p78, List.forall_mem_cons.mpr ⟨lw_p79, fun _ h => absurd h List.not_mem_nil⟩⟩⟩⟩⟩⟩⟩⟩⟩⟩⟩⟩⟩⟩⟩⟩
theorem lw_p80 : lw_okq (⟨"TriedLinesModel", "see", "(I)I"⟩, 42) := ⟨⟨by decide +kernel, by decide +kernel⟩, List.mem_of_getElem? (i := 990) (by decide +kernel), List.mem_of_getElem? (i := 1158) (by decide +kernel), List.mem_of_getElem? (i := 1159) (by decide +kernel)⟩
theorem lw_p81 : lw_okq (⟨"TriedLinesModel", "readLine", "()I"⟩, 42) := ⟨⟨by decide +kernel, by decide +kernel⟩, List.mem_of_getElem? (i := 990) (by decide +kernel), List.mem_of_getElem? (i := 1162) (by decide +kernel), List.mem_of_getElem? (i := 1163) (by decide +kernel)⟩
theorem lw_p82 : lw_okq (⟨"TriedLinesModel", "isWord", "(Ljava/lang/String;)Z"⟩, 42) := ⟨⟨by decide +kernel, by decide +kernel⟩, List.mem_of_getElem? (i := 990) (by decide +kernel), List.mem_of_getElem? (i := 1167) (by decide +kernel), List.mem_of_getElem? (i := 1168) (by decide +kernel)⟩
theorem lw_p83 : lw_okq (⟨"TriedLinesModel", "readMachine", "()I"⟩, 42) := ⟨⟨by decide +kernel, by decide +kernel⟩, List.mem_of_getElem? (i := 990) (by decide +kernel), List.mem_of_getElem? (i := 1173) (by decide +kernel), List.mem_of_getElem? (i := 1174) (by decide +kernel)⟩
theorem lw_p84 : lw_okq (⟨"TriedLinesModel", "errs", "(I)I"⟩, 42) := ⟨⟨by decide +kernel, by decide +kernel⟩, List.mem_of_getElem? (i := 990) (by decide +kernel), List.mem_of_getElem? (i := 1177) (by decide +kernel), List.mem_of_getElem? (i := 1178) (by decide +kernel)⟩
theorem lw_p85 : lw_okq (⟨"TriedLinesModel", "power", "(Ljava/lang/String;)I"⟩, 42) := ⟨⟨by decide +kernel, by decide +kernel⟩, List.mem_of_getElem? (i := 990) (by decide +kernel), List.mem_of_getElem? (i := 1182) (by decide +kernel), List.mem_of_getElem? (i := 1183) (by decide +kernel)⟩
theorem lw_p86 : lw_okq (⟨"TriedLinesModel", "wholeHere", "(II)I"⟩, 42) := ⟨⟨by decide +kernel, by decide +kernel⟩, List.mem_of_getElem? (i := 990) (by decide +kernel), List.mem_of_getElem? (i := 1186) (by decide +kernel), List.mem_of_getElem? (i := 1187) (by decide +kernel)⟩
theorem lw_p87 : lw_okq (⟨"TriedLinesModel", "passes", "(II)I"⟩, 42) := ⟨⟨by decide +kernel, by decide +kernel⟩, List.mem_of_getElem? (i := 990) (by decide +kernel), List.mem_of_getElem? (i := 1190) (by decide +kernel), List.mem_of_getElem? (i := 1191) (by decide +kernel)⟩
theorem lw_p88 : lw_okq (⟨"TriedLinesModel", "after", "(Ljava/lang/String;II)I"⟩, 42) := ⟨⟨by decide +kernel, by decide +kernel⟩, List.mem_of_getElem? (i := 990) (by decide +kernel), List.mem_of_getElem? (i := 1195) (by decide +kernel), List.mem_of_getElem? (i := 1196) (by decide +kernel)⟩
theorem lw_p89 : lw_okq (⟨"TriedLinesModel", "readToldWord", "()I"⟩, 42) := ⟨⟨by decide +kernel, by decide +kernel⟩, List.mem_of_getElem? (i := 990) (by decide +kernel), List.mem_of_getElem? (i := 1206) (by decide +kernel), List.mem_of_getElem? (i := 1207) (by decide +kernel)⟩
theorem lw_p90 : lw_okq (⟨"TriedLinesModel", "addresses", "(I)I"⟩, 42) := ⟨⟨by decide +kernel, by decide +kernel⟩, List.mem_of_getElem? (i := 990) (by decide +kernel), List.mem_of_getElem? (i := 1210) (by decide +kernel), List.mem_of_getElem? (i := 1211) (by decide +kernel)⟩
theorem lw_p91 : lw_okq (⟨"TriedLinesModel", "readCore", "()I"⟩, 42) := ⟨⟨by decide +kernel, by decide +kernel⟩, List.mem_of_getElem? (i := 990) (by decide +kernel), List.mem_of_getElem? (i := 1215) (by decide +kernel), List.mem_of_getElem? (i := 1216) (by decide +kernel)⟩
theorem lw_p92 : lw_okq (⟨"TriedLinesModel", "sortHere", "()I"⟩, 42) := ⟨⟨by decide +kernel, by decide +kernel⟩, List.mem_of_getElem? (i := 990) (by decide +kernel), List.mem_of_getElem? (i := 1219) (by decide +kernel), List.mem_of_getElem? (i := 1220) (by decide +kernel)⟩
theorem lw_p93 : lw_okq (⟨"TriedLinesModel", "readDeed", "(I)I"⟩, 42) := ⟨⟨by decide +kernel, by decide +kernel⟩, List.mem_of_getElem? (i := 990) (by decide +kernel), List.mem_of_getElem? (i := 1230) (by decide +kernel), List.mem_of_getElem? (i := 1231) (by decide +kernel)⟩
theorem lw_p94 : lw_okq (⟨"TriedLinesModel", "asTold", "()V"⟩, 42) := ⟨⟨by decide +kernel, by decide +kernel⟩, List.mem_of_getElem? (i := 990) (by decide +kernel), List.mem_of_getElem? (i := 1235) (by decide +kernel), List.mem_of_getElem? (i := 1236) (by decide +kernel)⟩
theorem lw_p95 : lw_okq (⟨"TriedLinesModel", "begins", "()V"⟩, 42) := ⟨⟨by decide +kernel, by decide +kernel⟩, List.mem_of_getElem? (i := 990) (by decide +kernel), List.mem_of_getElem? (i := 1239) (by decide +kernel), List.mem_of_getElem? (i := 1240) (by decide +kernel)⟩
def lw_privs_6 : List (MethodName × Nat) := [(⟨"TriedLinesModel", "see", "(I)I"⟩, 42), (⟨"TriedLinesModel", "readLine", "()I"⟩, 42), (⟨"TriedLinesModel", "isWord", "(Ljava/lang/String;)Z"⟩, 42), (⟨"TriedLinesModel", "readMachine", "()I"⟩, 42), (⟨"TriedLinesModel", "errs", "(I)I"⟩, 42), (⟨"TriedLinesModel", "power", "(Ljava/lang/String;)I"⟩, 42), (⟨"TriedLinesModel", "wholeHere", "(II)I"⟩, 42), (⟨"TriedLinesModel", "passes", "(II)I"⟩, 42), (⟨"TriedLinesModel", "after", "(Ljava/lang/String;II)I"⟩, 42), (⟨"TriedLinesModel", "readToldWord", "()I"⟩, 42), (⟨"TriedLinesModel", "addresses", "(I)I"⟩, 42), (⟨"TriedLinesModel", "readCore", "()I"⟩, 42), (⟨"TriedLinesModel", "sortHere", "()I"⟩, 42), (⟨"TriedLinesModel", "readDeed", "(I)I"⟩, 42), (⟨"TriedLinesModel", "asTold", "()V"⟩, 42), (⟨"TriedLinesModel", "begins", "()V"⟩, 42)]
theorem lw_r6 : ∀ q ∈ lw_privs_6, lw_okq q := List.forall_mem_cons.mpr ⟨lw_p80, List.forall_mem_cons.mpr ⟨lw_p81, List.forall_mem_cons.mpr ⟨lw_p82, List.forall_mem_cons.mpr ⟨lw_p83, List.forall_mem_cons.mpr ⟨lw_p84, List.forall_mem_cons.mpr ⟨lw_p85, List.forall_mem_cons.mpr ⟨lw_p86, List.forall_mem_cons.mpr ⟨lw_p87, List.forall_mem_cons.mpr ⟨lw_p88, List.forall_mem_cons.mpr ⟨lw_p89, List.forall_mem_cons.mpr ⟨lw_p90, List.forall_mem_cons.mpr ⟨lw_p91, List.forall_mem_cons.mpr ⟨lw_p92, List.forall_mem_cons.mpr ⟨lw_p93, List.forall_mem_cons.mpr ⟨lw_p94, List.forall_mem_cons.mpr ⟨lw_p95, fun _ h => absurd h List.not_mem_nil⟩⟩⟩⟩⟩⟩⟩⟩⟩⟩⟩⟩⟩⟩⟩⟩
theorem lw_p96 : lw_okq (⟨"TriedLinesModel", "isCore", "(I)Z"⟩, 42) := ⟨⟨by decide +kernel, by decide +kernel⟩, List.mem_of_getElem? (i := 990) (by decide +kernel), List.mem_of_getElem? (i := 1262) (by decide +kernel), List.mem_of_getElem? (i := 1263) (by decide +kernel)⟩
theorem lw_p97 : lw_okq (⟨"TriedLinesModel", "isAddress", "(I)Z"⟩, 42) := ⟨⟨by decide +kernel, by decide +kernel⟩, List.mem_of_getElem? (i := 990) (by decide +kernel), List.mem_of_getElem? (i := 1270) (by decide +kernel), List.mem_of_getElem? (i := 1271) (by decide +kernel)⟩
theorem lw_p98 : lw_okq (⟨"TriedLinesModel", "wordNow", "(I)I"⟩, 42) := ⟨⟨by decide +kernel, by decide +kernel⟩, List.mem_of_getElem? (i := 990) (by decide +kernel), List.mem_of_getElem? (i := 1274) (by decide +kernel), List.mem_of_getElem? (i := 1275) (by decide +kernel)⟩
theorem lw_p99 : lw_okq (⟨"TriedLinesModel", "find", "(II)I"⟩, 42) := ⟨⟨by decide +kernel, by decide +kernel⟩, List.mem_of_getElem? (i := 990) (by decide +kernel), List.mem_of_getElem? (i := 1278) (by decide +kernel), List.mem_of_getElem? (i := 1279) (by decide +kernel)⟩
theorem lw_p100 : lw_okq (⟨"TriedLinesModel", "serially", "()V"⟩, 42) := ⟨⟨by decide +kernel, by decide +kernel⟩, List.mem_of_getElem? (i := 990) (by decide +kernel), List.mem_of_getElem? (i := 1293) (by decide +kernel), List.mem_of_getElem? (i := 1294) (by decide +kernel)⟩
theorem lw_p101 : lw_okq (⟨"TriedLinesModel", "plainBegins", "()V"⟩, 42) := ⟨⟨by decide +kernel, by decide +kernel⟩, List.mem_of_getElem? (i := 990) (by decide +kernel), List.mem_of_getElem? (i := 1297) (by decide +kernel), List.mem_of_getElem? (i := 1298) (by decide +kernel)⟩
theorem lw_p102 : lw_okq (⟨"TriedLinesModel", "plainly", "(I)V"⟩, 42) := ⟨⟨by decide +kernel, by decide +kernel⟩, List.mem_of_getElem? (i := 990) (by decide +kernel), List.mem_of_getElem? (i := 1301) (by decide +kernel), List.mem_of_getElem? (i := 1302) (by decide +kernel)⟩
theorem lw_p103 : lw_okq (⟨"TriedLinesModel", "marked", "(II)I"⟩, 42) := ⟨⟨by decide +kernel, by decide +kernel⟩, List.mem_of_getElem? (i := 990) (by decide +kernel), List.mem_of_getElem? (i := 1336) (by decide +kernel), List.mem_of_getElem? (i := 1337) (by decide +kernel)⟩
theorem lw_p104 : lw_okq (⟨"TriedLinesModel", "hasLeft", "(I)Z"⟩, 42) := ⟨⟨by decide +kernel, by decide +kernel⟩, List.mem_of_getElem? (i := 990) (by decide +kernel), List.mem_of_getElem? (i := 1352) (by decide +kernel), List.mem_of_getElem? (i := 1353) (by decide +kernel)⟩
theorem lw_p105 : lw_okq (⟨"TriedLinesModel", "laysAside", "()V"⟩, 42) := ⟨⟨by decide +kernel, by decide +kernel⟩, List.mem_of_getElem? (i := 990) (by decide +kernel), List.mem_of_getElem? (i := 1372) (by decide +kernel), List.mem_of_getElem? (i := 1373) (by decide +kernel)⟩
theorem lw_p106 : lw_okq (⟨"TriedLinesModel", "steps", "(I)I"⟩, 42) := ⟨⟨by decide +kernel, by decide +kernel⟩, List.mem_of_getElem? (i := 990) (by decide +kernel), List.mem_of_getElem? (i := 1376) (by decide +kernel), List.mem_of_getElem? (i := 1377) (by decide +kernel)⟩
theorem lw_p107 : lw_okq (⟨"TriedLinesModel", "does", "(II)I"⟩, 42) := ⟨⟨by decide +kernel, by decide +kernel⟩, List.mem_of_getElem? (i := 990) (by decide +kernel), List.mem_of_getElem? (i := 1380) (by decide +kernel), List.mem_of_getElem? (i := 1381) (by decide +kernel)⟩
theorem lw_p108 : lw_okq (⟨"TriedLinesModel", "begin", "(I)I"⟩, 42) := ⟨⟨by decide +kernel, by decide +kernel⟩, List.mem_of_getElem? (i := 990) (by decide +kernel), List.mem_of_getElem? (i := 1384) (by decide +kernel), List.mem_of_getElem? (i := 1385) (by decide +kernel)⟩
theorem lw_p109 : lw_okq (⟨"TriedLinesModel", "waits", "(I)I"⟩, 42) := ⟨⟨by decide +kernel, by decide +kernel⟩, List.mem_of_getElem? (i := 990) (by decide +kernel), List.mem_of_getElem? (i := 1388) (by decide +kernel), List.mem_of_getElem? (i := 1389) (by decide +kernel)⟩
theorem lw_p110 : lw_okq (⟨"TriedLinesModel", "decides", "(IIZ)I"⟩, 42) := ⟨⟨by decide +kernel, by decide +kernel⟩, List.mem_of_getElem? (i := 990) (by decide +kernel), List.mem_of_getElem? (i := 1392) (by decide +kernel), List.mem_of_getElem? (i := 1393) (by decide +kernel)⟩
theorem lw_p111 : lw_okq (⟨"TriedLinesModel", "isRival", "(IIIZ)Z"⟩, 42) := ⟨⟨by decide +kernel, by decide +kernel⟩, List.mem_of_getElem? (i := 990) (by decide +kernel), List.mem_of_getElem? (i := 1396) (by decide +kernel), List.mem_of_getElem? (i := 1397) (by decide +kernel)⟩
def lw_privs_7 : List (MethodName × Nat) := [(⟨"TriedLinesModel", "isCore", "(I)Z"⟩, 42), (⟨"TriedLinesModel", "isAddress", "(I)Z"⟩, 42), (⟨"TriedLinesModel", "wordNow", "(I)I"⟩, 42), (⟨"TriedLinesModel", "find", "(II)I"⟩, 42), (⟨"TriedLinesModel", "serially", "()V"⟩, 42), (⟨"TriedLinesModel", "plainBegins", "()V"⟩, 42), (⟨"TriedLinesModel", "plainly", "(I)V"⟩, 42), (⟨"TriedLinesModel", "marked", "(II)I"⟩, 42), (⟨"TriedLinesModel", "hasLeft", "(I)Z"⟩, 42), (⟨"TriedLinesModel", "laysAside", "()V"⟩, 42), (⟨"TriedLinesModel", "steps", "(I)I"⟩, 42), (⟨"TriedLinesModel", "does", "(II)I"⟩, 42), (⟨"TriedLinesModel", "begin", "(I)I"⟩, 42), (⟨"TriedLinesModel", "waits", "(I)I"⟩, 42), (⟨"TriedLinesModel", "decides", "(IIZ)I"⟩, 42), (⟨"TriedLinesModel", "isRival", "(IIIZ)Z"⟩, 42)]
theorem lw_r7 : ∀ q ∈ lw_privs_7, lw_okq q := List.forall_mem_cons.mpr ⟨lw_p96, List.forall_mem_cons.mpr ⟨lw_p97, List.forall_mem_cons.mpr ⟨lw_p98, List.forall_mem_cons.mpr ⟨lw_p99, List.forall_mem_cons.mpr ⟨lw_p100, List.forall_mem_cons.mpr ⟨lw_p101, List.forall_mem_cons.mpr ⟨lw_p102, List.forall_mem_cons.mpr ⟨lw_p103, List.forall_mem_cons.mpr ⟨lw_p104, List.forall_mem_cons.mpr ⟨lw_p105, List.forall_mem_cons.mpr ⟨lw_p106, List.forall_mem_cons.mpr ⟨lw_p107, List.forall_mem_cons.mpr ⟨lw_p108, List.forall_mem_cons.mpr ⟨lw_p109, List.forall_mem_cons.mpr ⟨lw_p110, List.forall_mem_cons.mpr ⟨lw_p111, fun _ h => absurd h List.not_mem_nil⟩⟩⟩⟩⟩⟩⟩⟩⟩⟩⟩⟩⟩⟩⟩⟩
theorem lw_p112 : lw_okq (⟨"TriedLinesModel", "isSomeElder", "(IIZ)Z"⟩, 42) := ⟨⟨by decide +kernel, by decide +kernel⟩, List.mem_of_getElem? (i := 990) (by decide +kernel), List.mem_of_getElem? (i := 1400) (by decide +kernel), List.mem_of_getElem? (i := 1401) (by decide +kernel)⟩
theorem lw_p113 : lw_okq (⟨"TriedLinesModel", "ends", "(II)V"⟩, 42) := ⟨⟨by decide +kernel, by decide +kernel⟩, List.mem_of_getElem? (i := 990) (by decide +kernel), List.mem_of_getElem? (i := 1404) (by decide +kernel), List.mem_of_getElem? (i := 1405) (by decide +kernel)⟩
theorem lw_p114 : lw_okq (⟨"TriedLinesModel", "empties", "(I)V"⟩, 42) := ⟨⟨by decide +kernel, by decide +kernel⟩, List.mem_of_getElem? (i := 990) (by decide +kernel), List.mem_of_getElem? (i := 1408) (by decide +kernel), List.mem_of_getElem? (i := 1409) (by decide +kernel)⟩
theorem lw_p115 : lw_okq (⟨"TriedLinesModel", "brings", "(IIZ)I"⟩, 42) := ⟨⟨by decide +kernel, by decide +kernel⟩, List.mem_of_getElem? (i := 990) (by decide +kernel), List.mem_of_getElem? (i := 1412) (by decide +kernel), List.mem_of_getElem? (i := 1413) (by decide +kernel)⟩
theorem lw_p116 : lw_okq (⟨"TriedLinesModel", "room", "(II)I"⟩, 42) := ⟨⟨by decide +kernel, by decide +kernel⟩, List.mem_of_getElem? (i := 990) (by decide +kernel), List.mem_of_getElem? (i := 1416) (by decide +kernel), List.mem_of_getElem? (i := 1417) (by decide +kernel)⟩
theorem lw_p117 : lw_okq (⟨"TriedLinesModel", "writesBack", "(I)V"⟩, 42) := ⟨⟨by decide +kernel, by decide +kernel⟩, List.mem_of_getElem? (i := 990) (by decide +kernel), List.mem_of_getElem? (i := 1420) (by decide +kernel), List.mem_of_getElem? (i := 1421) (by decide +kernel)⟩
theorem lw_p118 : lw_okq (⟨"TriedLinesModel", "othersHave", "(IIZ)Z"⟩, 42) := ⟨⟨by decide +kernel, by decide +kernel⟩, List.mem_of_getElem? (i := 990) (by decide +kernel), List.mem_of_getElem? (i := 1424) (by decide +kernel), List.mem_of_getElem? (i := 1425) (by decide +kernel)⟩
theorem lw_p119 : lw_okq (⟨"TriedLinesModel", "touches", "(II)I"⟩, 42) := ⟨⟨by decide +kernel, by decide +kernel⟩, List.mem_of_getElem? (i := 990) (by decide +kernel), List.mem_of_getElem? (i := 1428) (by decide +kernel), List.mem_of_getElem? (i := 1429) (by decide +kernel)⟩
theorem lw_p120 : lw_okq (⟨"TriedLinesModel", "commits", "(I)V"⟩, 42) := ⟨⟨by decide +kernel, by decide +kernel⟩, List.mem_of_getElem? (i := 990) (by decide +kernel), List.mem_of_getElem? (i := 1432) (by decide +kernel), List.mem_of_getElem? (i := 1433) (by decide +kernel)⟩
theorem lw_p121 : lw_okq (⟨"TriedLinesModel", "takesBack", "()V"⟩, 42) := ⟨⟨by decide +kernel, by decide +kernel⟩, List.mem_of_getElem? (i := 990) (by decide +kernel), List.mem_of_getElem? (i := 1436) (by decide +kernel), List.mem_of_getElem? (i := 1437) (by decide +kernel)⟩
theorem lw_p122 : lw_okq (⟨"TriedLinesModel", "drawn", "()I"⟩, 42) := ⟨⟨by decide +kernel, by decide +kernel⟩, List.mem_of_getElem? (i := 990) (by decide +kernel), List.mem_of_getElem? (i := 1460) (by decide +kernel), List.mem_of_getElem? (i := 1461) (by decide +kernel)⟩
theorem lw_p123 : lw_okq (⟨"TriedLinesModel", "triedWhy", "(ZIII)I"⟩, 42) := ⟨⟨by decide +kernel, by decide +kernel⟩, List.mem_of_getElem? (i := 990) (by decide +kernel), List.mem_of_getElem? (i := 1473) (by decide +kernel), List.mem_of_getElem? (i := 1474) (by decide +kernel)⟩
theorem lw_p124 : lw_okq (⟨"TriedLinesModel", "triedAll", "(IIII)I"⟩, 42) := ⟨⟨by decide +kernel, by decide +kernel⟩, List.mem_of_getElem? (i := 990) (by decide +kernel), List.mem_of_getElem? (i := 1477) (by decide +kernel), List.mem_of_getElem? (i := 1478) (by decide +kernel)⟩
theorem lw_p125 : lw_okq (⟨"TriedLinesModel", "tries", "(III)V"⟩, 42) := ⟨⟨by decide +kernel, by decide +kernel⟩, List.mem_of_getElem? (i := 990) (by decide +kernel), List.mem_of_getElem? (i := 1481) (by decide +kernel), List.mem_of_getElem? (i := 1482) (by decide +kernel)⟩
theorem lw_p126 : lw_okq (⟨"TriedLinesModel", "isAnyLeft", "()Z"⟩, 42) := ⟨⟨by decide +kernel, by decide +kernel⟩, List.mem_of_getElem? (i := 990) (by decide +kernel), List.mem_of_getElem? (i := 1485) (by decide +kernel), List.mem_of_getElem? (i := 1486) (by decide +kernel)⟩
theorem lw_p127 : lw_okq (⟨"TriedLinesModel", "triedOf", "(I)I"⟩, 42) := ⟨⟨by decide +kernel, by decide +kernel⟩, List.mem_of_getElem? (i := 990) (by decide +kernel), List.mem_of_getElem? (i := 1489) (by decide +kernel), List.mem_of_getElem? (i := 1490) (by decide +kernel)⟩
def lw_privs_8 : List (MethodName × Nat) := [(⟨"TriedLinesModel", "isSomeElder", "(IIZ)Z"⟩, 42), (⟨"TriedLinesModel", "ends", "(II)V"⟩, 42), (⟨"TriedLinesModel", "empties", "(I)V"⟩, 42), (⟨"TriedLinesModel", "brings", "(IIZ)I"⟩, 42), (⟨"TriedLinesModel", "room", "(II)I"⟩, 42), (⟨"TriedLinesModel", "writesBack", "(I)V"⟩, 42), (⟨"TriedLinesModel", "othersHave", "(IIZ)Z"⟩, 42), (⟨"TriedLinesModel", "touches", "(II)I"⟩, 42), (⟨"TriedLinesModel", "commits", "(I)V"⟩, 42), (⟨"TriedLinesModel", "takesBack", "()V"⟩, 42), (⟨"TriedLinesModel", "drawn", "()I"⟩, 42), (⟨"TriedLinesModel", "triedWhy", "(ZIII)I"⟩, 42), (⟨"TriedLinesModel", "triedAll", "(IIII)I"⟩, 42), (⟨"TriedLinesModel", "tries", "(III)V"⟩, 42), (⟨"TriedLinesModel", "isAnyLeft", "()Z"⟩, 42), (⟨"TriedLinesModel", "triedOf", "(I)I"⟩, 42)]
theorem lw_r8 : ∀ q ∈ lw_privs_8, lw_okq q := List.forall_mem_cons.mpr ⟨lw_p112, List.forall_mem_cons.mpr ⟨lw_p113, List.forall_mem_cons.mpr ⟨lw_p114, List.forall_mem_cons.mpr ⟨lw_p115, List.forall_mem_cons.mpr ⟨lw_p116, List.forall_mem_cons.mpr ⟨lw_p117, List.forall_mem_cons.mpr ⟨lw_p118, List.forall_mem_cons.mpr ⟨lw_p119, List.forall_mem_cons.mpr ⟨lw_p120, List.forall_mem_cons.mpr ⟨lw_p121, List.forall_mem_cons.mpr ⟨lw_p122, List.forall_mem_cons.mpr ⟨lw_p123, List.forall_mem_cons.mpr ⟨lw_p124, List.forall_mem_cons.mpr ⟨lw_p125, List.forall_mem_cons.mpr ⟨lw_p126, List.forall_mem_cons.mpr ⟨lw_p127, fun _ h => absurd h List.not_mem_nil⟩⟩⟩⟩⟩⟩⟩⟩⟩⟩⟩⟩⟩⟩⟩⟩
theorem lw_p128 : lw_okq (⟨"TriedLinesModel", "countAll", "(I)I"⟩, 42) := ⟨⟨by decide +kernel, by decide +kernel⟩, List.mem_of_getElem? (i := 990) (by decide +kernel), List.mem_of_getElem? (i := 1493) (by decide +kernel), List.mem_of_getElem? (i := 1494) (by decide +kernel)⟩
theorem lw_p129 : lw_okq (⟨"TriedLinesModel", "isEnough", "(II)Z"⟩, 42) := ⟨⟨by decide +kernel, by decide +kernel⟩, List.mem_of_getElem? (i := 990) (by decide +kernel), List.mem_of_getElem? (i := 1509) (by decide +kernel), List.mem_of_getElem? (i := 1510) (by decide +kernel)⟩
def lw_privs_9 : List (MethodName × Nat) := [(⟨"TriedLinesModel", "countAll", "(I)I"⟩, 42), (⟨"TriedLinesModel", "isEnough", "(II)Z"⟩, 42)]
theorem lw_r9 : ∀ q ∈ lw_privs_9, lw_okq q := List.forall_mem_cons.mpr ⟨lw_p128, List.forall_mem_cons.mpr ⟨lw_p129, fun _ h => absurd h List.not_mem_nil⟩⟩
def lw_privs : List (MethodName × Nat) := lw_privs_1 ++ (lw_privs_2 ++ (lw_privs_3 ++ (lw_privs_4 ++ (lw_privs_5 ++ (lw_privs_6 ++ (lw_privs_7 ++ (lw_privs_8 ++ (lw_privs_9))))))))
def lw_tbl : List Cond := k2_sels lw_privs ++ tables_1
theorem lw_privs_ok : ∀ q ∈ lw_privs, lw_okq q := by
  show ∀ q ∈ lw_privs_1 ++ (lw_privs_2 ++ (lw_privs_3 ++ (lw_privs_4 ++ (lw_privs_5 ++ (lw_privs_6 ++ (lw_privs_7 ++ (lw_privs_8 ++ (lw_privs_9)))))))), lw_okq q
  exact List.forall_mem_append.mpr ⟨lw_r1, List.forall_mem_append.mpr ⟨lw_r2, List.forall_mem_append.mpr ⟨lw_r3, List.forall_mem_append.mpr ⟨lw_r4, List.forall_mem_append.mpr ⟨lw_r5, List.forall_mem_append.mpr ⟨lw_r6, List.forall_mem_append.mpr ⟨lw_r7, List.forall_mem_append.mpr ⟨lw_r8, lw_r9⟩⟩⟩⟩⟩⟩⟩⟩
end
section
def RX0 : String := "TriedLines$Cache"
def TX0 : u_T := fun k => match k with
  | 0 => ("TriedLines$Cache", "plan", "LTriedLines$Plan;", true)
  | 1 => ("TriedLines$Cache", "lines", "[I", true)
  | 2 => ("TriedLines$Cache", "states", "[I", true)
  | 3 => ("TriedLines$Cache", "readMarks", "[Z", true)
  | 4 => ("TriedLines$Cache", "writeMarks", "[Z", true)
  | 5 => ("TriedLines$Cache", "used", "[I", true)
  | _ => ("TriedLines$Cache", "words", "[I", true)
def tyX0 : Nat → FieldType := fun k => match k with
  | 0 => .object "TriedLines$Plan"
  | 1 => .array .int
  | 2 => .array .int
  | 3 => .array .boolean
  | 4 => .array .boolean
  | 5 => .array .int
  | _ => .array .int
abbrev wsX00 : List Cond := u_ws RX0 TX0 7
theorem nmX0 : ∀ a, a < 7 → ∀ b, b < 7 → a ≠ b → (TX0 a).2.1 ≠ (TX0 b).2.1 := by decide +kernel
theorem tyX0_ok : ∀ k, k < 7 → parseFieldDescriptor (TX0 k).2.2.1 = some (tyX0 k) := by decide +kernel
abbrev cX0_init : ByteArray := prog_2_method_1_code
def yX0_init : MethodName := ⟨RX0, "<init>", "(LTriedLines$Plan;)V"⟩
abbrev cX0_clear : ByteArray := prog_2_method_2_code
def yX0_clear : MethodName := ⟨RX0, "clear", "()V"⟩
abbrev cX0_copyFrom : ByteArray := prog_2_method_3_code
def yX0_copyFrom : MethodName := ⟨RX0, "copyFrom", "(LTriedLines$Cache;)V"⟩
abbrev cX0_dropLine : ByteArray := prog_2_method_4_code
def yX0_dropLine : MethodName := ⟨RX0, "dropLine", "(I)V"⟩
abbrev cX0_find : ByteArray := prog_2_method_5_code
def yX0_find : MethodName := ⟨RX0, "find", "(I)I"⟩
abbrev cX0_findRoom : ByteArray := prog_2_method_6_code
def yX0_findRoom : MethodName := ⟨RX0, "findRoom", "(I)I"⟩
abbrev cX0_markedLines : ByteArray := prog_2_method_7_code
def yX0_markedLines : MethodName := ⟨RX0, "markedLines", "(Z)I"⟩
abbrev cX0_unmark : ByteArray := prog_2_method_8_code
def yX0_unmark : MethodName := ⟨RX0, "unmark", "(Z)V"⟩
abbrev cX0_wordIn : ByteArray := prog_2_method_9_code
def yX0_wordIn : MethodName := ⟨RX0, "wordIn", "(II)I"⟩
abbrev cX0_setWord : ByteArray := prog_2_method_10_code
def yX0_setWord : MethodName := ⟨RX0, "setWord", "(III)V"⟩
def RX1 : String := "TriedLines$Core"
def TX1 : u_T := fun k => match k with
  | 0 => ("TriedLines$Core", "next", "I", false)
  | 1 => ("TriedLines$Core", "begun", "I", false)
  | 2 => ("TriedLines$Core", "a", "I", false)
  | 3 => ("TriedLines$Core", "x", "I", false)
  | 4 => ("TriedLines$Core", "state", "I", false)
  | 5 => ("TriedLines$Core", "lost", "I", false)
  | 6 => ("TriedLines$Core", "age", "I", false)
  | _ => ("TriedLines$Core", "counts", "[I", true)
def tyX1 : Nat → FieldType := fun k => match k with
  | 0 => .int
  | 1 => .int
  | 2 => .int
  | 3 => .int
  | 4 => .int
  | 5 => .int
  | 6 => .int
  | _ => .array .int
abbrev wsX10 : List Cond := u_ws RX1 TX1 8
theorem nmX1 : ∀ a, a < 8 → ∀ b, b < 8 → a ≠ b → (TX1 a).2.1 ≠ (TX1 b).2.1 := by decide +kernel
theorem tyX1_ok : ∀ k, k < 8 → parseFieldDescriptor (TX1 k).2.2.1 = some (tyX1 k) := by decide +kernel
abbrev cX1_init : ByteArray := prog_3_method_1_code
def yX1_init : MethodName := ⟨RX1, "<init>", "()V"⟩
abbrev cX1_clear : ByteArray := prog_3_method_2_code
def yX1_clear : MethodName := ⟨RX1, "clear", "()V"⟩
abbrev cX1_copyFrom : ByteArray := prog_3_method_3_code
def yX1_copyFrom : MethodName := ⟨RX1, "copyFrom", "(LTriedLines$Core;)V"⟩
def RX2 : String := "TriedLines$Plan"
def TX2 : u_T := fun k => match k with
  | 0 => ("TriedLines$Plan", "sets", "I", false)
  | 1 => ("TriedLines$Plan", "ways", "I", false)
  | 2 => ("TriedLines$Plan", "perLine", "I", false)
  | 3 => ("TriedLines$Plan", "rule", "I", false)
  | 4 => ("TriedLines$Plan", "tries", "I", false)
  | 5 => ("TriedLines$Plan", "cores", "I", false)
  | 6 => ("TriedLines$Plan", "told", "I", false)
  | 7 => ("TriedLines$Plan", "lengths", "[I", true)
  | 8 => ("TriedLines$Plan", "sorts", "[I", true)
  | 9 => ("TriedLines$Plan", "wholes", "[I", true)
  | 10 => ("TriedLines$Plan", "indexed", "[Z", true)
  | 11 => ("TriedLines$Plan", "first", "[I", true)
  | _ => ("TriedLines$Plan", "given", "[Z", true)
def tyX2 : Nat → FieldType := fun k => match k with
  | 0 => .int
  | 1 => .int
  | 2 => .int
  | 3 => .int
  | 4 => .int
  | 5 => .int
  | 6 => .int
  | 7 => .array .int
  | 8 => .array .int
  | 9 => .array .int
  | 10 => .array .boolean
  | 11 => .array .int
  | _ => .array .boolean
abbrev wsX20 : List Cond := u_ws RX2 TX2 13
theorem nmX2 : ∀ a, a < 13 → ∀ b, b < 13 → a ≠ b → (TX2 a).2.1 ≠ (TX2 b).2.1 := by decide +kernel
theorem tyX2_ok : ∀ k, k < 13 → parseFieldDescriptor (TX2 k).2.2.1 = some (tyX2 k) := by decide +kernel
abbrev cX2_init : ByteArray := prog_4_method_1_code
def yX2_init : MethodName := ⟨RX2, "<init>", "()V"⟩
abbrev cX2_clear : ByteArray := prog_4_method_2_code
def yX2_clear : MethodName := ⟨RX2, "clear", "()V"⟩
abbrev cX2_copyFrom : ByteArray := prog_4_method_3_code
def yX2_copyFrom : MethodName := ⟨RX2, "copyFrom", "(LTriedLines$Plan;)V"⟩
abbrev cX2_addresses : ByteArray := prog_4_method_4_code
def yX2_addresses : MethodName := ⟨RX2, "addresses", "()I"⟩
abbrev cX2_hasCore : ByteArray := prog_4_method_5_code
def yX2_hasCore : MethodName := ⟨RX2, "hasCore", "(I)Z"⟩
abbrev cX2_hasAddress : ByteArray := prog_4_method_6_code
def yX2_hasAddress : MethodName := ⟨RX2, "hasAddress", "(I)Z"⟩
abbrev cX2_hasDeed : ByteArray := prog_4_method_7_code
def yX2_hasDeed : MethodName := ⟨RX2, "hasDeed", "(II)Z"⟩
abbrev cX2_sortOf : ByteArray := prog_4_method_8_code
def yX2_sortOf : MethodName := ⟨RX2, "sortOf", "(II)I"⟩
abbrev cX2_wholeOf : ByteArray := prog_4_method_9_code
def yX2_wholeOf : MethodName := ⟨RX2, "wholeOf", "(II)I"⟩
abbrev cX2_isIndexed : ByteArray := prog_4_method_10_code
def yX2_isIndexed : MethodName := ⟨RX2, "isIndexed", "(II)Z"⟩
abbrev cX2_deedsInAll : ByteArray := prog_4_method_11_code
def yX2_deedsInAll : MethodName := ⟨RX2, "deedsInAll", "()I"⟩
abbrev cX2_addressOf : ByteArray := prog_4_method_12_code
def yX2_addressOf : MethodName := ⟨RX2, "addressOf", "(III)I"⟩
abbrev cX2_lineOf : ByteArray := prog_4_method_13_code
def yX2_lineOf : MethodName := ⟨RX2, "lineOf", "(I)I"⟩
abbrev cX2_offsetOf : ByteArray := prog_4_method_14_code
def yX2_offsetOf : MethodName := ⟨RX2, "offsetOf", "(I)I"⟩
abbrev cX2_setOf : ByteArray := prog_4_method_15_code
def yX2_setOf : MethodName := ⟨RX2, "setOf", "(I)I"⟩
abbrev cX2_addWord : ByteArray := prog_4_method_16_code
def yX2_addWord : MethodName := ⟨RX2, "addWord", "(II)V"⟩
abbrev cX2_addDeed : ByteArray := prog_4_method_17_code
def yX2_addDeed : MethodName := ⟨RX2, "addDeed", "(IIZ)V"⟩
def RX3 : String := "TriedLines$Run"
def TX3 : u_T := fun k => match k with
  | 0 => ("TriedLines$Run", "plan", "LTriedLines$Plan;", true)
  | 1 => ("TriedLines$Run", "memory", "[I", true)
  | 2 => ("TriedLines$Run", "caches", "[LTriedLines$Cache;", true)
  | 3 => ("TriedLines$Run", "cores", "[LTriedLines$Core;", true)
  | 4 => ("TriedLines$Run", "traffic", "[I", true)
  | 5 => ("TriedLines$Run", "commits", "[I", true)
  | 6 => ("TriedLines$Run", "committed", "I", false)
  | 7 => ("TriedLines$Run", "rule", "I", false)
  | 8 => ("TriedLines$Run", "tries", "I", false)
  | 9 => ("TriedLines$Run", "time", "I", false)
  | 10 => ("TriedLines$Run", "holder", "I", false)
  | _ => ("TriedLines$Run", "ended", "I", false)
def tyX3 : Nat → FieldType := fun k => match k with
  | 0 => .object "TriedLines$Plan"
  | 1 => .array .int
  | 2 => .array (.object "TriedLines$Cache")
  | 3 => .array (.object "TriedLines$Core")
  | 4 => .array .int
  | 5 => .array .int
  | 6 => .int
  | 7 => .int
  | 8 => .int
  | 9 => .int
  | 10 => .int
  | _ => .int
abbrev wsX30 : List Cond := u_ws RX3 TX3 12
theorem nmX3 : ∀ a, a < 12 → ∀ b, b < 12 → a ≠ b → (TX3 a).2.1 ≠ (TX3 b).2.1 := by decide +kernel
theorem tyX3_ok : ∀ k, k < 12 → parseFieldDescriptor (TX3 k).2.2.1 = some (tyX3 k) := by decide +kernel
abbrev cX3_init : ByteArray := prog_5_method_1_code
def yX3_init : MethodName := ⟨RX3, "<init>", "(LTriedLines$Plan;)V"⟩
abbrev cX3_startOver : ByteArray := prog_5_method_2_code
def yX3_startOver : MethodName := ⟨RX3, "startOver", "(II)V"⟩
abbrev cX3_copyFrom : ByteArray := prog_5_method_3_code
def yX3_copyFrom : MethodName := ⟨RX3, "copyFrom", "(LTriedLines$Run;)V"⟩
abbrev cX3_hasDeedsLeft : ByteArray := prog_5_method_4_code
def yX3_hasDeedsLeft : MethodName := ⟨RX3, "hasDeedsLeft", "(I)Z"⟩
abbrev cX3_isAllDone : ByteArray := prog_5_method_5_code
def yX3_isAllDone : MethodName := ⟨RX3, "isAllDone", "()Z"⟩
abbrev cX3_takeStep : ByteArray := prog_5_method_6_code
def yX3_takeStep : MethodName := ⟨RX3, "takeStep", "(I)I"⟩
abbrev cX3_doBegin : ByteArray := prog_5_method_7_code
def yX3_doBegin : MethodName := ⟨RX3, "doBegin", "(ILTriedLines$Core;)I"⟩
abbrev cX3_doGet : ByteArray := prog_5_method_8_code
def yX3_doGet : MethodName := ⟨RX3, "doGet", "(ILTriedLines$Core;)I"⟩
abbrev cX3_doPut : ByteArray := prog_5_method_9_code
def yX3_doPut : MethodName := ⟨RX3, "doPut", "(ILTriedLines$Core;)I"⟩
abbrev cX3_doEnd : ByteArray := prog_5_method_10_code
def yX3_doEnd : MethodName := ⟨RX3, "doEnd", "(ILTriedLines$Core;)V"⟩
abbrev cX3_reach : ByteArray := prog_5_method_11_code
def yX3_reach : MethodName := ⟨RX3, "reach", "(IIZ)I"⟩
abbrev cX3_ask : ByteArray := prog_5_method_12_code
def yX3_ask : MethodName := ⟨RX3, "ask", "(IIZ)I"⟩
abbrev cX3_marking : ByteArray := prog_5_method_13_code
def yX3_marking : MethodName := ⟨RX3, "marking", "(IIZ)I"⟩
abbrev cX3_changeOthers : ByteArray := prog_5_method_14_code
def yX3_changeOthers : MethodName := ⟨RX3, "changeOthers", "(IIZ)Z"⟩
abbrev cX3_bringLine : ByteArray := prog_5_method_15_code
def yX3_bringLine : MethodName := ⟨RX3, "bringLine", "(LTriedLines$Cache;II)V"⟩
abbrev cX3_writeBack : ByteArray := prog_5_method_16_code
def yX3_writeBack : MethodName := ⟨RX3, "writeBack", "(LTriedLines$Cache;I)V"⟩
abbrev cX3_markLine : ByteArray := prog_5_method_17_code
def yX3_markLine : MethodName := ⟨RX3, "markLine", "(IIZ)V"⟩
abbrev cX3_endTries : ByteArray := prog_5_method_18_code
def yX3_endTries : MethodName := ⟨RX3, "endTries", "(II)V"⟩
abbrev cX3_lostAfter : ByteArray := prog_5_method_19_code
def yX3_lostAfter : MethodName := ⟨RX3, "lostAfter", "(II)I"⟩
abbrev cX3_takeRounds : ByteArray := prog_5_method_20_code
def yX3_takeRounds : MethodName := ⟨RX3, "takeRounds", "(I)I"⟩
abbrev cX3_takeDraws : ByteArray := prog_5_method_21_code
def yX3_takeDraws : MethodName := ⟨RX3, "takeDraws", "(II)I"⟩
abbrev cX3_wordAt : ByteArray := prog_5_method_22_code
def yX3_wordAt : MethodName := ⟨RX3, "wordAt", "(I)I"⟩
abbrev cX3_countInAll : ByteArray := prog_5_method_23_code
def yX3_countInAll : MethodName := ⟨RX3, "countInAll", "(I)I"⟩
def RX4 : String := "TriedLines$Solo"
def TX4 : u_T := fun k => match k with
  | 0 => ("TriedLines$Solo", "plan", "LTriedLines$Plan;", true)
  | 1 => ("TriedLines$Solo", "words", "[I", true)
  | 2 => ("TriedLines$Solo", "a", "I", false)
  | 3 => ("TriedLines$Solo", "x", "I", false)
  | 4 => ("TriedLines$Solo", "touched", "I", false)
  | _ => ("TriedLines$Solo", "widest", "I", false)
def tyX4 : Nat → FieldType := fun k => match k with
  | 0 => .object "TriedLines$Plan"
  | 1 => .array .int
  | 2 => .int
  | 3 => .int
  | 4 => .int
  | _ => .int
abbrev wsX40 : List Cond := u_ws RX4 TX4 6
theorem nmX4 : ∀ a, a < 6 → ∀ b, b < 6 → a ≠ b → (TX4 a).2.1 ≠ (TX4 b).2.1 := by decide +kernel
theorem tyX4_ok : ∀ k, k < 6 → parseFieldDescriptor (TX4 k).2.2.1 = some (tyX4 k) := by decide +kernel
abbrev cX4_init : ByteArray := prog_6_method_1_code
def yX4_init : MethodName := ⟨RX4, "<init>", "(LTriedLines$Plan;)V"⟩
abbrev cX4_startOver : ByteArray := prog_6_method_2_code
def yX4_startOver : MethodName := ⟨RX4, "startOver", "()V"⟩
abbrev cX4_play : ByteArray := prog_6_method_3_code
def yX4_play : MethodName := ⟨RX4, "play", "(IIZ)V"⟩
abbrev cX4_playDeed : ByteArray := prog_6_method_4_code
def yX4_playDeed : MethodName := ⟨RX4, "playDeed", "(II)V"⟩
abbrev cX4_touch : ByteArray := prog_6_method_5_code
def yX4_touch : MethodName := ⟨RX4, "touch", "(II)I"⟩
abbrev cX4_widen : ByteArray := prog_6_method_6_code
def yX4_widen : MethodName := ⟨RX4, "widen", "()V"⟩
def RX5 : String := "TriedLines$TextReader"
def TX5 : u_T := fun k => match k with
  | 0 => ("TriedLines$TextReader", "plan", "LTriedLines$Plan;", true)
  | 1 => ("TriedLines$TextReader", "bytes", "[I", true)
  | 2 => ("TriedLines$TextReader", "end", "I", false)
  | 3 => ("TriedLines$TextReader", "kind", "I", false)
  | 4 => ("TriedLines$TextReader", "start", "I", false)
  | 5 => ("TriedLines$TextReader", "next", "I", false)
  | 6 => ("TriedLines$TextReader", "whole", "I", false)
  | 7 => ("TriedLines$TextReader", "hasMachine", "Z", false)
  | 8 => ("TriedLines$TextReader", "open", "Z", false)
  | 9 => ("TriedLines$TextReader", "faultNumber", "I", false)
  | _ => ("TriedLines$TextReader", "faultPlace", "I", false)
def tyX5 : Nat → FieldType := fun k => match k with
  | 0 => .object "TriedLines$Plan"
  | 1 => .array .int
  | 2 => .int
  | 3 => .int
  | 4 => .int
  | 5 => .int
  | 6 => .int
  | 7 => .boolean
  | 8 => .boolean
  | 9 => .int
  | _ => .int
abbrev wsX50 : List Cond := u_ws RX5 TX5 11
theorem nmX5 : ∀ a, a < 11 → ∀ b, b < 11 → a ≠ b → (TX5 a).2.1 ≠ (TX5 b).2.1 := by decide +kernel
theorem tyX5_ok : ∀ k, k < 11 → parseFieldDescriptor (TX5 k).2.2.1 = some (tyX5 k) := by decide +kernel
abbrev cX5_init : ByteArray := prog_7_method_1_code
def yX5_init : MethodName := ⟨RX5, "<init>", "(LTriedLines$Plan;[I)V"⟩
abbrev cX5_readText : ByteArray := prog_7_method_2_code
def yX5_readText : MethodName := ⟨RX5, "readText", "(I)Z"⟩
abbrev cX5_fail : ByteArray := prog_7_method_3_code
def yX5_fail : MethodName := ⟨RX5, "fail", "(II)Z"⟩
abbrev cX5_readEnd : ByteArray := prog_7_method_4_code
def yX5_readEnd : MethodName := ⟨RX5, "readEnd", "()Z"⟩
abbrev cX5_advance : ByteArray := prog_7_method_5_code
def yX5_advance : MethodName := ⟨RX5, "advance", "()V"⟩
abbrev cX5_kindOf : ByteArray := prog_7_method_6_code
def yX5_kindOf : MethodName := ⟨RX5, "kindOf", "(I)I"⟩
abbrev cX5_isName : ByteArray := prog_7_method_7_code
def yX5_isName : MethodName := ⟨RX5, "isName", "(Ljava/lang/String;)Z"⟩
abbrev cX5_takeName : ByteArray := prog_7_method_8_code
def yX5_takeName : MethodName := ⟨RX5, "takeName", "(Ljava/lang/String;)Z"⟩
abbrev cX5_takeWhole : ByteArray := prog_7_method_9_code
def yX5_takeWhole : MethodName := ⟨RX5, "takeWhole", "(II)Z"⟩
abbrev cX5_takeSetting : ByteArray := prog_7_method_10_code
def yX5_takeSetting : MethodName := ⟨RX5, "takeSetting", "(Ljava/lang/String;IZ)I"⟩
abbrev cX5_sortHere : ByteArray := prog_7_method_11_code
def yX5_sortHere : MethodName := ⟨RX5, "sortHere", "()I"⟩
abbrev cX5_readLine : ByteArray := prog_7_method_12_code
def yX5_readLine : MethodName := ⟨RX5, "readLine", "()Z"⟩
abbrev cX5_readMachine : ByteArray := prog_7_method_13_code
def yX5_readMachine : MethodName := ⟨RX5, "readMachine", "()Z"⟩
abbrev cX5_readRule : ByteArray := prog_7_method_14_code
def yX5_readRule : MethodName := ⟨RX5, "readRule", "()Z"⟩
abbrev cX5_readWord : ByteArray := prog_7_method_15_code
def yX5_readWord : MethodName := ⟨RX5, "readWord", "()Z"⟩
abbrev cX5_readCore : ByteArray := prog_7_method_16_code
def yX5_readCore : MethodName := ⟨RX5, "readCore", "()Z"⟩
abbrev cX5_readDeed : ByteArray := prog_7_method_17_code
def yX5_readDeed : MethodName := ⟨RX5, "readDeed", "(I)Z"⟩
abbrev cX5_readRest : ByteArray := prog_7_method_18_code
def yX5_readRest : MethodName := ⟨RX5, "readRest", "(I)Z"⟩
def RX6 : String := "TriedLines"
def TX6 : u_T := fun k => match k with
  | 0 => ("TriedLines", "tape", "[I", true)
  | 1 => ("TriedLines", "taped", "I", false)
  | 2 => ("TriedLines", "plan", "LTriedLines$Plan;", true)
  | 3 => ("TriedLines", "draft", "LTriedLines$Plan;", true)
  | 4 => ("TriedLines", "reader", "LTriedLines$TextReader;", true)
  | 5 => ("TriedLines", "now", "LTriedLines$Run;", true)
  | 6 => ("TriedLines", "kept", "LTriedLines$Run;", true)
  | 7 => ("TriedLines", "trial", "LTriedLines$Run;", true)
  | 8 => ("TriedLines", "solo", "LTriedLines$Solo;", true)
  | 9 => ("TriedLines", "hasMachine", "Z", false)
  | 10 => ("TriedLines", "hasKept", "Z", false)
  | 11 => ("TriedLines", "latestFault", "I", false)
  | _ => ("TriedLines", "latestTrouble", "I", false)
def tyX6 : Nat → FieldType := fun k => match k with
  | 0 => .array .int
  | 1 => .int
  | 2 => .object "TriedLines$Plan"
  | 3 => .object "TriedLines$Plan"
  | 4 => .object "TriedLines$TextReader"
  | 5 => .object "TriedLines$Run"
  | 6 => .object "TriedLines$Run"
  | 7 => .object "TriedLines$Run"
  | 8 => .object "TriedLines$Solo"
  | 9 => .boolean
  | 10 => .boolean
  | 11 => .int
  | _ => .int
abbrev wsX60 : List Cond := u_ws RX6 TX6 13
theorem nmX6 : ∀ a, a < 13 → ∀ b, b < 13 → a ≠ b → (TX6 a).2.1 ≠ (TX6 b).2.1 := by decide +kernel
theorem tyX6_ok : ∀ k, k < 13 → parseFieldDescriptor (TX6 k).2.2.1 = some (tyX6 k) := by decide +kernel
abbrev cX6_init : ByteArray := prog_1_method_1_code
def yX6_init : MethodName := ⟨RX6, "<init>", "()V"⟩
abbrev cX6_refuse : ByteArray := prog_1_method_2_code
def yX6_refuse : MethodName := ⟨RX6, "refuse", "(I)I"⟩
abbrev cX6_answer : ByteArray := prog_1_method_3_code
def yX6_answer : MethodName := ⟨RX6, "answer", "(I)I"⟩
abbrev cX6_asBit : ByteArray := prog_1_method_4_code
def yX6_asBit : MethodName := ⟨RX6, "asBit", "(Z)I"⟩
abbrev cX6_isWithin : ByteArray := prog_1_method_5_code
def yX6_isWithin : MethodName := ⟨RX6, "isWithin", "(III)Z"⟩
abbrev cX6_feed : ByteArray := prog_1_method_6_code
def yX6_feed : MethodName := ⟨RX6, "feed", "(IIIII)I"⟩
abbrev cX6_putBytes : ByteArray := prog_1_method_7_code
def yX6_putBytes : MethodName := ⟨RX6, "putBytes", "(I)V"⟩
abbrev cX6_machine : ByteArray := prog_1_method_8_code
def yX6_machine : MethodName := ⟨RX6, "machine", "(I)I"⟩
abbrev cX6_fault : ByteArray := prog_1_method_9_code
def yX6_fault : MethodName := ⟨RX6, "fault", "()I"⟩
abbrev cX6_where : ByteArray := prog_1_method_10_code
def yX6_where : MethodName := ⟨RX6, "where", "()I"⟩
abbrev cX6_about : ByteArray := prog_1_method_11_code
def yX6_about : MethodName := ⟨RX6, "about", "(I)I"⟩
abbrev cX6_deed : ByteArray := prog_1_method_12_code
def yX6_deed : MethodName := ⟨RX6, "deed", "(III)I"⟩
abbrev cX6_word : ByteArray := prog_1_method_13_code
def yX6_word : MethodName := ⟨RX6, "word", "(I)I"⟩
abbrev cX6_memory : ByteArray := prog_1_method_14_code
def yX6_memory : MethodName := ⟨RX6, "memory", "(I)I"⟩
abbrev cX6_serial : ByteArray := prog_1_method_15_code
def yX6_serial : MethodName := ⟨RX6, "serial", "(I)I"⟩
abbrev cX6_agrees : ByteArray := prog_1_method_16_code
def yX6_agrees : MethodName := ⟨RX6, "agrees", "()I"⟩
abbrev cX6_playCommits : ByteArray := prog_1_method_17_code
def yX6_playCommits : MethodName := ⟨RX6, "playCommits", "()V"⟩
abbrev cX6_lock : ByteArray := prog_1_method_18_code
def yX6_lock : MethodName := ⟨RX6, "lock", "()I"⟩
abbrev cX6_alone : ByteArray := prog_1_method_19_code
def yX6_alone : MethodName := ⟨RX6, "alone", "(II)I"⟩
abbrev cX6_place : ByteArray := prog_1_method_20_code
def yX6_place : MethodName := ⟨RX6, "place", "(IIII)I"⟩
abbrev cX6_cached : ByteArray := prog_1_method_21_code
def yX6_cached : MethodName := ⟨RX6, "cached", "(II)I"⟩
abbrev cX6_sharers : ByteArray := prog_1_method_22_code
def yX6_sharers : MethodName := ⟨RX6, "sharers", "(I)I"⟩
abbrev cX6_reads : ByteArray := prog_1_method_23_code
def yX6_reads : MethodName := ⟨RX6, "reads", "(I)I"⟩
abbrev cX6_writes : ByteArray := prog_1_method_24_code
def yX6_writes : MethodName := ⟨RX6, "writes", "(I)I"⟩
abbrev cX6_traffic : ByteArray := prog_1_method_25_code
def yX6_traffic : MethodName := ⟨RX6, "traffic", "(I)I"⟩
abbrev cX6_core : ByteArray := prog_1_method_26_code
def yX6_core : MethodName := ⟨RX6, "core", "(II)I"⟩
abbrev cX6_count : ByteArray := prog_1_method_27_code
def yX6_count : MethodName := ⟨RX6, "count", "(II)I"⟩
abbrev cX6_advice : ByteArray := prog_1_method_28_code
def yX6_advice : MethodName := ⟨RX6, "advice", "(II)I"⟩
abbrev cX6_commit : ByteArray := prog_1_method_29_code
def yX6_commit : MethodName := ⟨RX6, "commit", "(II)I"⟩
abbrev cX6_would : ByteArray := prog_1_method_30_code
def yX6_would : MethodName := ⟨RX6, "would", "(I)I"⟩
abbrev cX6_wouldEnd : ByteArray := prog_1_method_31_code
def yX6_wouldEnd : MethodName := ⟨RX6, "wouldEnd", "(I)I"⟩
abbrev cX6_step : ByteArray := prog_1_method_32_code
def yX6_step : MethodName := ⟨RX6, "step", "(I)I"⟩
abbrev cX6_rounds : ByteArray := prog_1_method_33_code
def yX6_rounds : MethodName := ⟨RX6, "rounds", "(I)I"⟩
abbrev cX6_draws : ByteArray := prog_1_method_34_code
def yX6_draws : MethodName := ⟨RX6, "draws", "(II)I"⟩
abbrev cX6_isSeed : ByteArray := prog_1_method_35_code
def yX6_isSeed : MethodName := ⟨RX6, "isSeed", "(I)Z"⟩
abbrev cX6_interrupt : ByteArray := prog_1_method_36_code
def yX6_interrupt : MethodName := ⟨RX6, "interrupt", "(I)I"⟩
abbrev cX6_isTrial : ByteArray := prog_1_method_37_code
def yX6_isTrial : MethodName := ⟨RX6, "isTrial", "(III)Z"⟩
abbrev cX6_tried : ByteArray := prog_1_method_38_code
def yX6_tried : MethodName := ⟨RX6, "tried", "(IIII)I"⟩
abbrev cX6_triedWord : ByteArray := prog_1_method_39_code
def yX6_triedWord : MethodName := ⟨RX6, "triedWord", "(IIII)I"⟩
abbrev cX6_best : ByteArray := prog_1_method_40_code
def yX6_best : MethodName := ⟨RX6, "best", "(I)I"⟩
abbrev cX6_waysFor : ByteArray := prog_1_method_41_code
def yX6_waysFor : MethodName := ⟨RX6, "waysFor", "(I)I"⟩
abbrev cX6_keep : ByteArray := prog_1_method_42_code
def yX6_keep : MethodName := ⟨RX6, "keep", "()Z"⟩
abbrev cX6_back : ByteArray := prog_1_method_43_code
def yX6_back : MethodName := ⟨RX6, "back", "()Z"⟩
abbrev cX6_done : ByteArray := prog_1_method_44_code
def yX6_done : MethodName := ⟨RX6, "done", "(I)I"⟩
abbrev cX6_size : ByteArray := prog_1_method_45_code
def yX6_size : MethodName := ⟨RX6, "size", "(I)I"⟩
abbrev cX6_trouble : ByteArray := prog_1_method_46_code
def yX6_trouble : MethodName := ⟨RX6, "trouble", "()I"⟩
def RX7 : String := "TriedLinesModel"
def TX7 : u_T := fun k => match k with
  | 0 => ("TriedLinesModel", "thrown", "I", false)
  | 1 => ("TriedLinesModel", "trouble", "I", false)
  | 2 => ("TriedLinesModel", "fault", "I", false)
  | 3 => ("TriedLinesModel", "where", "I", false)
  | 4 => ("TriedLinesModel", "tape", "[I", true)
  | 5 => ("TriedLinesModel", "taped", "I", false)
  | 6 => ("TriedLinesModel", "is", "[I", true)
  | 7 => ("TriedLinesModel", "read", "[I", true)
  | 8 => ("TriedLinesModel", "toldMany", "I", false)
  | 9 => ("TriedLinesModel", "readToldMany", "I", false)
  | 10 => ("TriedLinesModel", "first", "[I", true)
  | 11 => ("TriedLinesModel", "readFirst", "[I", true)
  | 12 => ("TriedLinesModel", "deedMany", "[I", true)
  | 13 => ("TriedLinesModel", "readDeedMany", "[I", true)
  | 14 => ("TriedLinesModel", "sort", "[I", true)
  | 15 => ("TriedLinesModel", "readSort", "[I", true)
  | 16 => ("TriedLinesModel", "whole", "[I", true)
  | 17 => ("TriedLinesModel", "readWhole", "[I", true)
  | 18 => ("TriedLinesModel", "byX", "[I", true)
  | 19 => ("TriedLinesModel", "readByX", "[I", true)
  | 20 => ("TriedLinesModel", "isTold", "Z", false)
  | 21 => ("TriedLinesModel", "textLong", "I", false)
  | 22 => ("TriedLinesModel", "at", "I", false)
  | 23 => ("TriedLinesModel", "spot", "I", false)
  | 24 => ("TriedLinesModel", "token", "I", false)
  | 25 => ("TriedLinesModel", "number", "I", false)
  | 26 => ("TriedLinesModel", "readFault", "I", false)
  | 27 => ("TriedLinesModel", "readPlace", "I", false)
  | 28 => ("TriedLinesModel", "hasMachine", "Z", false)
  | 29 => ("TriedLinesModel", "isOpen", "Z", false)
  | 30 => ("TriedLinesModel", "row", "[I", true)
  | 31 => ("TriedLinesModel", "aside", "[I", true)
  | 32 => ("TriedLinesModel", "kept", "[I", true)
  | 33 => ("TriedLinesModel", "isKept", "Z", false)
  | 34 => ("TriedLinesModel", "rule", "I", false)
  | 35 => ("TriedLinesModel", "tries", "I", false)
  | 36 => ("TriedLinesModel", "ways", "I", false)
  | 37 => ("TriedLinesModel", "ended", "I", false)
  | 38 => ("TriedLinesModel", "plain", "[I", true)
  | 39 => ("TriedLinesModel", "plainA", "I", false)
  | 40 => ("TriedLinesModel", "plainX", "I", false)
  | _ => ("TriedLinesModel", "seed", "I", false)
def tyX7 : Nat → FieldType := fun k => match k with
  | 0 => .int
  | 1 => .int
  | 2 => .int
  | 3 => .int
  | 4 => .array .int
  | 5 => .int
  | 6 => .array .int
  | 7 => .array .int
  | 8 => .int
  | 9 => .int
  | 10 => .array .int
  | 11 => .array .int
  | 12 => .array .int
  | 13 => .array .int
  | 14 => .array .int
  | 15 => .array .int
  | 16 => .array .int
  | 17 => .array .int
  | 18 => .array .int
  | 19 => .array .int
  | 20 => .boolean
  | 21 => .int
  | 22 => .int
  | 23 => .int
  | 24 => .int
  | 25 => .int
  | 26 => .int
  | 27 => .int
  | 28 => .boolean
  | 29 => .boolean
  | 30 => .array .int
  | 31 => .array .int
  | 32 => .array .int
  | 33 => .boolean
  | 34 => .int
  | 35 => .int
  | 36 => .int
  | 37 => .int
  | 38 => .array .int
  | 39 => .int
  | 40 => .int
  | _ => .int
abbrev wsX70 : List Cond := u_ws RX7 TX7 42
theorem nmX7 : ∀ a, a < 42 → ∀ b, b < 42 → a ≠ b → (TX7 a).2.1 ≠ (TX7 b).2.1 := by decide +kernel
theorem tyX7_ok : ∀ k, k < 42 → parseFieldDescriptor (TX7 k).2.2.1 = some (tyX7 k) := by decide +kernel
abbrev cX7_init : ByteArray := prog_9_method_1_code
def yX7_init : MethodName := ⟨RX7, "<init>", "()V"⟩
abbrev cX7_thrown : ByteArray := prog_9_method_2_code
def yX7_thrown : MethodName := ⟨RX7, "thrown", "()I"⟩
abbrev cX7_in : ByteArray := prog_9_method_3_code
def yX7_in : MethodName := ⟨RX7, "in", "(III)Z"⟩
abbrev cX7_anew : ByteArray := prog_9_method_4_code
def yX7_anew : MethodName := ⟨RX7, "anew", "()V"⟩
abbrev cX7_no : ByteArray := prog_9_method_5_code
def yX7_no : MethodName := ⟨RX7, "no", "(I)I"⟩
abbrev cX7_feed : ByteArray := prog_9_method_6_code
def yX7_feed : MethodName := ⟨RX7, "feed", "(IIIII)I"⟩
abbrev cX7_lays : ByteArray := prog_9_method_7_code
def yX7_lays : MethodName := ⟨RX7, "lays", "(I)V"⟩
abbrev cX7_see : ByteArray := prog_9_method_8_code
def yX7_see : MethodName := ⟨RX7, "see", "(I)I"⟩
abbrev cX7_nextToken : ByteArray := prog_9_method_9_code
def yX7_nextToken : MethodName := ⟨RX7, "nextToken", "()V"⟩
abbrev cX7_isWord : ByteArray := prog_9_method_10_code
def yX7_isWord : MethodName := ⟨RX7, "isWord", "(Ljava/lang/String;)Z"⟩
abbrev cX7_errs : ByteArray := prog_9_method_11_code
def yX7_errs : MethodName := ⟨RX7, "errs", "(I)I"⟩
abbrev cX7_wholeHere : ByteArray := prog_9_method_12_code
def yX7_wholeHere : MethodName := ⟨RX7, "wholeHere", "(II)I"⟩
abbrev cX7_passes : ByteArray := prog_9_method_13_code
def yX7_passes : MethodName := ⟨RX7, "passes", "(II)I"⟩
abbrev cX7_after : ByteArray := prog_9_method_14_code
def yX7_after : MethodName := ⟨RX7, "after", "(Ljava/lang/String;II)I"⟩
abbrev cX7_power : ByteArray := prog_9_method_15_code
def yX7_power : MethodName := ⟨RX7, "power", "(Ljava/lang/String;)I"⟩
abbrev cX7_readMachine : ByteArray := prog_9_method_16_code
def yX7_readMachine : MethodName := ⟨RX7, "readMachine", "()I"⟩
abbrev cX7_addresses : ByteArray := prog_9_method_17_code
def yX7_addresses : MethodName := ⟨RX7, "addresses", "(I)I"⟩
abbrev cX7_readToldWord : ByteArray := prog_9_method_18_code
def yX7_readToldWord : MethodName := ⟨RX7, "readToldWord", "()I"⟩
abbrev cX7_readCore : ByteArray := prog_9_method_19_code
def yX7_readCore : MethodName := ⟨RX7, "readCore", "()I"⟩
abbrev cX7_sortHere : ByteArray := prog_9_method_20_code
def yX7_sortHere : MethodName := ⟨RX7, "sortHere", "()I"⟩
abbrev cX7_readDeed : ByteArray := prog_9_method_21_code
def yX7_readDeed : MethodName := ⟨RX7, "readDeed", "(I)I"⟩
abbrev cX7_readLine : ByteArray := prog_9_method_22_code
def yX7_readLine : MethodName := ⟨RX7, "readLine", "()I"⟩
abbrev cX7_readText : ByteArray := prog_9_method_23_code
def yX7_readText : MethodName := ⟨RX7, "readText", "(I)I"⟩
abbrev cX7_machine : ByteArray := prog_9_method_24_code
def yX7_machine : MethodName := ⟨RX7, "machine", "(I)I"⟩
abbrev cX7_fault : ByteArray := prog_9_method_25_code
def yX7_fault : MethodName := ⟨RX7, "fault", "()I"⟩
abbrev cX7_where : ByteArray := prog_9_method_26_code
def yX7_where : MethodName := ⟨RX7, "where", "()I"⟩
abbrev cX7_asTold : ByteArray := prog_9_method_27_code
def yX7_asTold : MethodName := ⟨RX7, "asTold", "()V"⟩
abbrev cX7_coreAt : ByteArray := prog_9_method_28_code
def yX7_coreAt : MethodName := ⟨RX7, "coreAt", "(II)I"⟩
abbrev cX7_placeAt : ByteArray := prog_9_method_29_code
def yX7_placeAt : MethodName := ⟨RX7, "placeAt", "(III)I"⟩
abbrev cX7_begins : ByteArray := prog_9_method_30_code
def yX7_begins : MethodName := ⟨RX7, "begins", "()V"⟩
abbrev cX7_laysAside : ByteArray := prog_9_method_31_code
def yX7_laysAside : MethodName := ⟨RX7, "laysAside", "()V"⟩
abbrev cX7_takesBack : ByteArray := prog_9_method_32_code
def yX7_takesBack : MethodName := ⟨RX7, "takesBack", "()V"⟩
abbrev cX7_find : ByteArray := prog_9_method_33_code
def yX7_find : MethodName := ⟨RX7, "find", "(II)I"⟩
abbrev cX7_empties : ByteArray := prog_9_method_34_code
def yX7_empties : MethodName := ⟨RX7, "empties", "(I)V"⟩
abbrev cX7_writesBack : ByteArray := prog_9_method_35_code
def yX7_writesBack : MethodName := ⟨RX7, "writesBack", "(I)V"⟩
abbrev cX7_ends : ByteArray := prog_9_method_36_code
def yX7_ends : MethodName := ⟨RX7, "ends", "(II)V"⟩
abbrev cX7_isRival : ByteArray := prog_9_method_37_code
def yX7_isRival : MethodName := ⟨RX7, "isRival", "(IIIZ)Z"⟩
abbrev cX7_isSomeElder : ByteArray := prog_9_method_38_code
def yX7_isSomeElder : MethodName := ⟨RX7, "isSomeElder", "(IIZ)Z"⟩
abbrev cX7_decides : ByteArray := prog_9_method_39_code
def yX7_decides : MethodName := ⟨RX7, "decides", "(IIZ)I"⟩
abbrev cX7_room : ByteArray := prog_9_method_40_code
def yX7_room : MethodName := ⟨RX7, "room", "(II)I"⟩
abbrev cX7_othersHave : ByteArray := prog_9_method_41_code
def yX7_othersHave : MethodName := ⟨RX7, "othersHave", "(IIZ)Z"⟩
abbrev cX7_brings : ByteArray := prog_9_method_42_code
def yX7_brings : MethodName := ⟨RX7, "brings", "(IIZ)I"⟩
abbrev cX7_waits : ByteArray := prog_9_method_43_code
def yX7_waits : MethodName := ⟨RX7, "waits", "(I)I"⟩
abbrev cX7_begin : ByteArray := prog_9_method_44_code
def yX7_begin : MethodName := ⟨RX7, "begin", "(I)I"⟩
abbrev cX7_touches : ByteArray := prog_9_method_45_code
def yX7_touches : MethodName := ⟨RX7, "touches", "(II)I"⟩
abbrev cX7_commits : ByteArray := prog_9_method_46_code
def yX7_commits : MethodName := ⟨RX7, "commits", "(I)V"⟩
abbrev cX7_plus : ByteArray := prog_9_method_47_code
def yX7_plus : MethodName := ⟨RX7, "plus", "(II)I"⟩
abbrev cX7_does : ByteArray := prog_9_method_48_code
def yX7_does : MethodName := ⟨RX7, "does", "(II)I"⟩
abbrev cX7_hasLeft : ByteArray := prog_9_method_49_code
def yX7_hasLeft : MethodName := ⟨RX7, "hasLeft", "(I)Z"⟩
abbrev cX7_steps : ByteArray := prog_9_method_50_code
def yX7_steps : MethodName := ⟨RX7, "steps", "(I)I"⟩
abbrev cX7_isCore : ByteArray := prog_9_method_51_code
def yX7_isCore : MethodName := ⟨RX7, "isCore", "(I)Z"⟩
abbrev cX7_isAddress : ByteArray := prog_9_method_52_code
def yX7_isAddress : MethodName := ⟨RX7, "isAddress", "(I)Z"⟩
abbrev cX7_about : ByteArray := prog_9_method_53_code
def yX7_about : MethodName := ⟨RX7, "about", "(I)I"⟩
abbrev cX7_deed : ByteArray := prog_9_method_54_code
def yX7_deed : MethodName := ⟨RX7, "deed", "(III)I"⟩
abbrev cX7_wordNow : ByteArray := prog_9_method_55_code
def yX7_wordNow : MethodName := ⟨RX7, "wordNow", "(I)I"⟩
abbrev cX7_word : ByteArray := prog_9_method_56_code
def yX7_word : MethodName := ⟨RX7, "word", "(I)I"⟩
abbrev cX7_memory : ByteArray := prog_9_method_57_code
def yX7_memory : MethodName := ⟨RX7, "memory", "(I)I"⟩
abbrev cX7_plainBegins : ByteArray := prog_9_method_58_code
def yX7_plainBegins : MethodName := ⟨RX7, "plainBegins", "()V"⟩
abbrev cX7_plainly : ByteArray := prog_9_method_59_code
def yX7_plainly : MethodName := ⟨RX7, "plainly", "(I)V"⟩
abbrev cX7_serially : ByteArray := prog_9_method_60_code
def yX7_serially : MethodName := ⟨RX7, "serially", "()V"⟩
abbrev cX7_serial : ByteArray := prog_9_method_61_code
def yX7_serial : MethodName := ⟨RX7, "serial", "(I)I"⟩
abbrev cX7_agrees : ByteArray := prog_9_method_62_code
def yX7_agrees : MethodName := ⟨RX7, "agrees", "()I"⟩
abbrev cX7_lock : ByteArray := prog_9_method_63_code
def yX7_lock : MethodName := ⟨RX7, "lock", "()I"⟩
abbrev cX7_alone : ByteArray := prog_9_method_64_code
def yX7_alone : MethodName := ⟨RX7, "alone", "(II)I"⟩
abbrev cX7_place : ByteArray := prog_9_method_65_code
def yX7_place : MethodName := ⟨RX7, "place", "(IIII)I"⟩
abbrev cX7_cached : ByteArray := prog_9_method_66_code
def yX7_cached : MethodName := ⟨RX7, "cached", "(II)I"⟩
abbrev cX7_sharers : ByteArray := prog_9_method_67_code
def yX7_sharers : MethodName := ⟨RX7, "sharers", "(I)I"⟩
abbrev cX7_marked : ByteArray := prog_9_method_68_code
def yX7_marked : MethodName := ⟨RX7, "marked", "(II)I"⟩
abbrev cX7_reads : ByteArray := prog_9_method_69_code
def yX7_reads : MethodName := ⟨RX7, "reads", "(I)I"⟩
abbrev cX7_writes : ByteArray := prog_9_method_70_code
def yX7_writes : MethodName := ⟨RX7, "writes", "(I)I"⟩
abbrev cX7_traffic : ByteArray := prog_9_method_71_code
def yX7_traffic : MethodName := ⟨RX7, "traffic", "(I)I"⟩
abbrev cX7_core : ByteArray := prog_9_method_72_code
def yX7_core : MethodName := ⟨RX7, "core", "(II)I"⟩
abbrev cX7_count : ByteArray := prog_9_method_73_code
def yX7_count : MethodName := ⟨RX7, "count", "(II)I"⟩
abbrev cX7_advice : ByteArray := prog_9_method_74_code
def yX7_advice : MethodName := ⟨RX7, "advice", "(II)I"⟩
abbrev cX7_commit : ByteArray := prog_9_method_75_code
def yX7_commit : MethodName := ⟨RX7, "commit", "(II)I"⟩
abbrev cX7_would : ByteArray := prog_9_method_76_code
def yX7_would : MethodName := ⟨RX7, "would", "(I)I"⟩
abbrev cX7_wouldEnd : ByteArray := prog_9_method_77_code
def yX7_wouldEnd : MethodName := ⟨RX7, "wouldEnd", "(I)I"⟩
abbrev cX7_step : ByteArray := prog_9_method_78_code
def yX7_step : MethodName := ⟨RX7, "step", "(I)I"⟩
abbrev cX7_rounds : ByteArray := prog_9_method_79_code
def yX7_rounds : MethodName := ⟨RX7, "rounds", "(I)I"⟩
abbrev cX7_drawn : ByteArray := prog_9_method_80_code
def yX7_drawn : MethodName := ⟨RX7, "drawn", "()I"⟩
abbrev cX7_isSeed : ByteArray := prog_9_method_81_code
def yX7_isSeed : MethodName := ⟨RX7, "isSeed", "(I)Z"⟩
abbrev cX7_draws : ByteArray := prog_9_method_82_code
def yX7_draws : MethodName := ⟨RX7, "draws", "(II)I"⟩
abbrev cX7_interrupt : ByteArray := prog_9_method_83_code
def yX7_interrupt : MethodName := ⟨RX7, "interrupt", "(I)I"⟩
abbrev cX7_isAnyLeft : ByteArray := prog_9_method_84_code
def yX7_isAnyLeft : MethodName := ⟨RX7, "isAnyLeft", "()Z"⟩
abbrev cX7_countAll : ByteArray := prog_9_method_85_code
def yX7_countAll : MethodName := ⟨RX7, "countAll", "(I)I"⟩
abbrev cX7_tries : ByteArray := prog_9_method_86_code
def yX7_tries : MethodName := ⟨RX7, "tries", "(III)V"⟩
abbrev cX7_triedWhy : ByteArray := prog_9_method_87_code
def yX7_triedWhy : MethodName := ⟨RX7, "triedWhy", "(ZIII)I"⟩
abbrev cX7_triedOf : ByteArray := prog_9_method_88_code
def yX7_triedOf : MethodName := ⟨RX7, "triedOf", "(I)I"⟩
abbrev cX7_triedAll : ByteArray := prog_9_method_89_code
def yX7_triedAll : MethodName := ⟨RX7, "triedAll", "(IIII)I"⟩
abbrev cX7_tried : ByteArray := prog_9_method_90_code
def yX7_tried : MethodName := ⟨RX7, "tried", "(IIII)I"⟩
abbrev cX7_triedWord : ByteArray := prog_9_method_91_code
def yX7_triedWord : MethodName := ⟨RX7, "triedWord", "(IIII)I"⟩
abbrev cX7_best : ByteArray := prog_9_method_92_code
def yX7_best : MethodName := ⟨RX7, "best", "(I)I"⟩
abbrev cX7_isEnough : ByteArray := prog_9_method_93_code
def yX7_isEnough : MethodName := ⟨RX7, "isEnough", "(II)Z"⟩
abbrev cX7_waysFor : ByteArray := prog_9_method_94_code
def yX7_waysFor : MethodName := ⟨RX7, "waysFor", "(I)I"⟩
abbrev cX7_keep : ByteArray := prog_9_method_95_code
def yX7_keep : MethodName := ⟨RX7, "keep", "()Z"⟩
abbrev cX7_back : ByteArray := prog_9_method_96_code
def yX7_back : MethodName := ⟨RX7, "back", "()Z"⟩
abbrev cX7_done : ByteArray := prog_9_method_97_code
def yX7_done : MethodName := ⟨RX7, "done", "(I)I"⟩
abbrev cX7_size : ByteArray := prog_9_method_98_code
def yX7_size : MethodName := ⟨RX7, "size", "(I)I"⟩
abbrev cX7_trouble : ByteArray := prog_9_method_99_code
def yX7_trouble : MethodName := ⟨RX7, "trouble", "()I"⟩
def RJx145de : String := "java/io/Serializable"
def TJx145de : u_T := fun k => match k with
  | _ => ("", "", "", false)
def tyJx145de : Nat → FieldType := fun k => match k with
  | _ => .int
abbrev wsJx145de0 : List Cond := u_ws RJx145de TJx145de 0
theorem nmJx145de : ∀ a, a < 0 → ∀ b, b < 0 → a ≠ b → (TJx145de a).2.1 ≠ (TJx145de b).2.1 := by decide +kernel
theorem tyJx145de_ok : ∀ k, k < 0 → parseFieldDescriptor (TJx145de k).2.2.1 = some (tyJx145de k) := by decide +kernel
def RJx9f9b0 : String := "java/lang/CharSequence"
def TJx9f9b0 : u_T := fun k => match k with
  | _ => ("", "", "", false)
def tyJx9f9b0 : Nat → FieldType := fun k => match k with
  | _ => .int
abbrev wsJx9f9b00 : List Cond := u_ws RJx9f9b0 TJx9f9b0 0
theorem nmJx9f9b0 : ∀ a, a < 0 → ∀ b, b < 0 → a ≠ b → (TJx9f9b0 a).2.1 ≠ (TJx9f9b0 b).2.1 := by decide +kernel
theorem tyJx9f9b0_ok : ∀ k, k < 0 → parseFieldDescriptor (TJx9f9b0 k).2.2.1 = some (tyJx9f9b0 k) := by decide +kernel
def RJxb160c : String := "java/lang/Comparable"
def TJxb160c : u_T := fun k => match k with
  | _ => ("", "", "", false)
def tyJxb160c : Nat → FieldType := fun k => match k with
  | _ => .int
abbrev wsJxb160c0 : List Cond := u_ws RJxb160c TJxb160c 0
theorem nmJxb160c : ∀ a, a < 0 → ∀ b, b < 0 → a ≠ b → (TJxb160c a).2.1 ≠ (TJxb160c b).2.1 := by decide +kernel
theorem tyJxb160c_ok : ∀ k, k < 0 → parseFieldDescriptor (TJxb160c k).2.2.1 = some (tyJxb160c k) := by decide +kernel
def RJ9 : String := "java/lang/Math"
def TJ9 : u_T := fun k => match k with
  | _ => ("", "", "", false)
def tyJ9 : Nat → FieldType := fun k => match k with
  | _ => .int
abbrev wsJ90 : List Cond := u_ws RJ9 TJ9 0
theorem nmJ9 : ∀ a, a < 0 → ∀ b, b < 0 → a ≠ b → (TJ9 a).2.1 ≠ (TJ9 b).2.1 := by decide +kernel
theorem tyJ9_ok : ∀ k, k < 0 → parseFieldDescriptor (TJ9 k).2.2.1 = some (tyJ9 k) := by decide +kernel
abbrev cJ9_floorMod_7cf53 : ByteArray := prog_14_method_50_code
def yJ9_floorMod_7cf53 : MethodName := ⟨RJ9, "floorMod", "(II)I"⟩
abbrev cJ9_max_7cf53 : ByteArray := prog_14_method_65_code
def yJ9_max_7cf53 : MethodName := ⟨RJ9, "max", "(II)I"⟩
abbrev cJ9_min_7cf53 : ByteArray := prog_14_method_69_code
def yJ9_min_7cf53 : MethodName := ⟨RJ9, "min", "(II)I"⟩
def RJ0 : String := "java/lang/String"
def TJ0 : u_T := fun k => match k with
  | _ => ("", "", "", false)
def tyJ0 : Nat → FieldType := fun k => match k with
  | _ => .int
abbrev wsJ00 : List Cond := u_ws RJ0 TJ0 0
theorem nmJ0 : ∀ a, a < 0 → ∀ b, b < 0 → a ≠ b → (TJ0 a).2.1 ≠ (TJ0 b).2.1 := by decide +kernel
theorem tyJ0_ok : ∀ k, k < 0 → parseFieldDescriptor (TJ0 k).2.2.1 = some (tyJ0 k) := by decide +kernel
abbrev cJ0_length_8abf5 : ByteArray := prog_16_method_54_code
def yJ0_length_8abf5 : MethodName := ⟨RJ0, "length", "()I"⟩
abbrev cJ0_charAt_5068e : ByteArray := prog_16_method_56_code
def yJ0_charAt_5068e : MethodName := ⟨RJ0, "charAt", "(I)C"⟩
abbrev cJ0_coder_7d493 : ByteArray := prog_16_method_152_code
def yJ0_coder_7d493 : MethodName := ⟨RJ0, "coder", "()B"⟩
abbrev cJ0_isLatin1_aae02 : ByteArray := prog_16_method_154_code
def yJ0_isLatin1_aae02 : MethodName := ⟨RJ0, "isLatin1", "()Z"⟩
abbrev cJ0_checkIndex_df160 : ByteArray := prog_16_method_155_code
def yJ0_checkIndex_df160 : MethodName := ⟨RJ0, "checkIndex", "(II)V"⟩
def RJ1 : String := "java/lang/StringLatin1"
def TJ1 : u_T := fun k => match k with
  | _ => ("", "", "", false)
def tyJ1 : Nat → FieldType := fun k => match k with
  | _ => .int
abbrev wsJ10 : List Cond := u_ws RJ1 TJ1 0
theorem nmJ1 : ∀ a, a < 0 → ∀ b, b < 0 → a ≠ b → (TJ1 a).2.1 ≠ (TJ1 b).2.1 := by decide +kernel
theorem tyJ1_ok : ∀ k, k < 0 → parseFieldDescriptor (TJ1 k).2.2.1 = some (tyJ1 k) := by decide +kernel
abbrev cJ1_charAt_3b067 : ByteArray := prog_17_method_2_code
def yJ1_charAt_3b067 : MethodName := ⟨RJ1, "charAt", "([BI)C"⟩
def RJ2 : String := "java/lang/StringUTF16"
def TJ2 : u_T := fun k => match k with
  | _ => ("", "", "", false)
def tyJ2 : Nat → FieldType := fun k => match k with
  | _ => .int
abbrev wsJ20 : List Cond := u_ws RJ2 TJ2 0
theorem nmJ2 : ∀ a, a < 0 → ∀ b, b < 0 → a ≠ b → (TJ2 a).2.1 ≠ (TJ2 b).2.1 := by decide +kernel
theorem tyJ2_ok : ∀ k, k < 0 → parseFieldDescriptor (TJ2 k).2.2.1 = some (tyJ2 k) := by decide +kernel
abbrev cJ2_getChar_3b067 : ByteArray := prog_18_method_5_code
def yJ2_getChar_3b067 : MethodName := ⟨RJ2, "getChar", "([BI)C"⟩
abbrev cJ2_length_9d52b : ByteArray := prog_18_method_6_code
def yJ2_length_9d52b : MethodName := ⟨RJ2, "length", "([B)I"⟩
abbrev cJ2_charAt_3b067 : ByteArray := prog_18_method_83_code
def yJ2_charAt_3b067 : MethodName := ⟨RJ2, "charAt", "([BI)C"⟩
abbrev cJ2_checkIndex_2214a : ByteArray := prog_18_method_91_code
def yJ2_checkIndex_2214a : MethodName := ⟨RJ2, "checkIndex", "(I[B)V"⟩
def RJ10 : String := "java/lang/System"
def TJ10 : u_T := fun k => match k with
  | _ => ("", "", "", false)
def tyJ10 : Nat → FieldType := fun k => match k with
  | _ => .int
abbrev wsJ100 : List Cond := u_ws RJ10 TJ10 0
theorem nmJ10 : ∀ a, a < 0 → ∀ b, b < 0 → a ≠ b → (TJ10 a).2.1 ≠ (TJ10 b).2.1 := by decide +kernel
theorem tyJ10_ok : ∀ k, k < 0 → parseFieldDescriptor (TJ10 k).2.2.1 = some (tyJ10 k) := by decide +kernel
def RJxfd54e : String := "java/lang/constant/Constable"
def TJxfd54e : u_T := fun k => match k with
  | _ => ("", "", "", false)
def tyJxfd54e : Nat → FieldType := fun k => match k with
  | _ => .int
abbrev wsJxfd54e0 : List Cond := u_ws RJxfd54e TJxfd54e 0
theorem nmJxfd54e : ∀ a, a < 0 → ∀ b, b < 0 → a ≠ b → (TJxfd54e a).2.1 ≠ (TJxfd54e b).2.1 := by decide +kernel
theorem tyJxfd54e_ok : ∀ k, k < 0 → parseFieldDescriptor (TJxfd54e k).2.2.1 = some (tyJxfd54e k) := by decide +kernel
def RJx3cf43 : String := "java/lang/constant/ConstantDesc"
def TJx3cf43 : u_T := fun k => match k with
  | _ => ("", "", "", false)
def tyJx3cf43 : Nat → FieldType := fun k => match k with
  | _ => .int
abbrev wsJx3cf430 : List Cond := u_ws RJx3cf43 TJx3cf43 0
theorem nmJx3cf43 : ∀ a, a < 0 → ∀ b, b < 0 → a ≠ b → (TJx3cf43 a).2.1 ≠ (TJx3cf43 b).2.1 := by decide +kernel
theorem tyJx3cf43_ok : ∀ k, k < 0 → parseFieldDescriptor (TJx3cf43 k).2.2.1 = some (tyJx3cf43 k) := by decide +kernel
def RJ3 : String := "jdk/internal/util/Preconditions"
def TJ3 : u_T := fun k => match k with
  | _ => ("", "", "", false)
def tyJ3 : Nat → FieldType := fun k => match k with
  | _ => .int
abbrev wsJ30 : List Cond := u_ws RJ3 TJ3 0
theorem nmJ3 : ∀ a, a < 0 → ∀ b, b < 0 → a ≠ b → (TJ3 a).2.1 ≠ (TJ3 b).2.1 := by decide +kernel
theorem tyJ3_ok : ∀ k, k < 0 → parseFieldDescriptor (TJ3 k).2.2.1 = some (tyJ3 k) := by decide +kernel
abbrev cJ3_checkIndex_8e157 : ByteArray := prog_24_method_11_code
def yJ3_checkIndex_8e157 : MethodName := ⟨RJ3, "checkIndex", "(IILjava/util/function/BiFunction;)I"⟩
def RL : String := "TriedLinesLaw"
abbrev cL_done : ByteArray := method_3_code
def yL_done : MethodName := ⟨RL, "done", "(LTriedLines;I[J)I"⟩
abbrev cL_law : ByteArray := code
def yL_law : MethodName := ⟨RL, "law", "([I)Z"⟩
/-! the good words of the tables: every method takes these -/
def zall : List Cond := lw_tbl.filter goodWord
theorem zall_of {w : Cond} {i : Nat} (h : lw_tbl[i]? = some w) (hg : goodWord w = true) : w ∈ zall := List.mem_filter.mpr ⟨List.mem_of_getElem? h, hg⟩
theorem zin_r (ws : List Cond) (ps : List Nat) (hp : ws = ps.filterMap (fun i => lw_tbl[i]?)) (h : ws.all goodWord = true) : ∀ w ∈ ws, w ∈ zall := by
  intro w hw
  have h1 := List.all_eq_true.mp h w hw
  rw [hp] at hw
  obtain ⟨i, -, hi⟩ := List.mem_filterMap.mp hw
  exact zall_of hi h1
theorem zinX0 : ∀ w ∈ wsX00, w ∈ zall := zin_r wsX00 [303, 305, 307, 309, 311, 313, 315] (by decide +kernel) (by decide +kernel)
theorem zinX1 : ∀ w ∈ wsX10, w ∈ zall := zin_r wsX10 [346, 348, 350, 352, 354, 356, 358, 360] (by decide +kernel) (by decide +kernel)
theorem zinX2 : ∀ w ∈ wsX20, w ∈ zall := zin_r wsX20 [200, 202, 204, 206, 208, 210, 212, 214, 216, 218, 220, 222, 224] (by decide +kernel) (by decide +kernel)
theorem zinX3 : ∀ w ∈ wsX30, w ∈ zall := zin_r wsX30 [385, 387, 389, 391, 393, 395, 397, 399, 401, 403, 405, 407] (by decide +kernel) (by decide +kernel)
theorem zinX4 : ∀ w ∈ wsX40, w ∈ zall := zin_r wsX40 [424, 426, 428, 430, 432, 434] (by decide +kernel) (by decide +kernel)
theorem zinX5 : ∀ w ∈ wsX50, w ∈ zall := zin_r wsX50 [248, 250, 252, 254, 256, 258, 260, 262, 264, 266, 268] (by decide +kernel) (by decide +kernel)
theorem zinX6 : ∀ w ∈ wsX60, w ∈ zall := zin_r wsX60 [450, 452, 454, 456, 458, 460, 462, 464, 466, 468, 470, 472, 474] (by decide +kernel) (by decide +kernel)
theorem zinX7 : ∀ w ∈ wsX70, w ∈ zall := zin_r wsX70 [1167, 1169, 1171, 1173, 1175, 1177, 1179, 1181, 1183, 1185, 1187, 1189, 1191, 1193, 1195, 1197, 1199, 1201, 1203, 1205, 1207, 1209, 1211, 1213, 1215, 1217, 1219, 1221, 1223, 1225, 1227, 1229, 1231, 1233, 1235, 1237, 1239, 1241, 1243, 1245, 1247, 1249] (by decide +kernel) (by decide +kernel)
def znF : List (String × Nat × String × String × String × String) := [("TriedLines$Solo", 78, "TriedLines$Plan", "sets", "I", "TriedLines"), ("TriedLines", 112, "TriedLines$Plan", "sets", "I", "TriedLines"), ("TriedLines$TextReader", 144, "TriedLines$Plan", "sets", "I", "TriedLines"), ("TriedLines$Cache", 51, "TriedLines$Plan", "ways", "I", "TriedLines"), ("TriedLines", 115, "TriedLines$Plan", "ways", "I", "TriedLines"), ("TriedLines$TextReader", 148, "TriedLines$Plan", "ways", "I", "TriedLines"), ("TriedLines", 118, "TriedLines$Plan", "perLine", "I", "TriedLines"), ("TriedLines$TextReader", 152, "TriedLines$Plan", "perLine", "I", "TriedLines"), ("TriedLines$Run", 220, "TriedLines$Plan", "perLine", "I", "TriedLines"), ("TriedLines", 86, "TriedLines$Plan", "rule", "I", "TriedLines"), ("TriedLines$TextReader", 166, "TriedLines$Plan", "rule", "I", "TriedLines"), ("TriedLines", 89, "TriedLines$Plan", "tries", "I", "TriedLines"), ("TriedLines$TextReader", 162, "TriedLines$Plan", "tries", "I", "TriedLines"), ("TriedLines$TextReader", 73, "TriedLines$Plan", "cores", "I", "TriedLines"), ("TriedLines", 103, "TriedLines$Plan", "cores", "I", "TriedLines"), ("TriedLines$Run", 229, "TriedLines$Plan", "cores", "I", "TriedLines"), ("TriedLines$TextReader", 172, "TriedLines$Plan", "told", "I", "TriedLines"), ("TriedLines", 293, "TriedLines$Plan", "told", "I", "TriedLines"), ("TriedLines$Run", 89, "TriedLines$Plan", "lengths", "[I", "TriedLines"), ("TriedLines$TextReader", 192, "TriedLines$Plan", "lengths", "[I", "TriedLines"), ("TriedLines", 245, "TriedLines$Plan", "lengths", "[I", "TriedLines"), ("TriedLines$Solo", 19, "TriedLines$Plan", "first", "[I", "TriedLines"), ("TriedLines$Run", 60, "TriedLines$Plan", "first", "[I", "TriedLines"), ("TriedLines$TextReader", 181, "TriedLines$Plan", "given", "[Z", "TriedLines"), ("TriedLines", 77, "TriedLines$TextReader", "faultNumber", "I", "TriedLines"), ("TriedLines", 109, "TriedLines$TextReader", "faultPlace", "I", "TriedLines"), ("TriedLines$Run", 217, "TriedLines$Cache", "lines", "[I", "TriedLines"), ("TriedLines", 183, "TriedLines$Cache", "lines", "[I", "TriedLines"), ("TriedLines$Run", 174, "TriedLines$Cache", "states", "[I", "TriedLines"), ("TriedLines", 188, "TriedLines$Cache", "states", "[I", "TriedLines"), ("TriedLines$Run", 214, "TriedLines$Cache", "readMarks", "[Z", "TriedLines"), ("TriedLines", 191, "TriedLines$Cache", "readMarks", "[Z", "TriedLines"), ("TriedLines$Run", 177, "TriedLines$Cache", "writeMarks", "[Z", "TriedLines"), ("TriedLines", 195, "TriedLines$Cache", "writeMarks", "[Z", "TriedLines"), ("TriedLines$Run", 211, "TriedLines$Cache", "used", "[I", "TriedLines"), ("TriedLines", 198, "TriedLines$Cache", "used", "[I", "TriedLines"), ("TriedLines$Run", 86, "TriedLines$Core", "next", "I", "TriedLines"), ("TriedLines", 225, "TriedLines$Core", "next", "I", "TriedLines"), ("TriedLines$Run", 151, "TriedLines$Core", "begun", "I", "TriedLines"), ("TriedLines$Run", 110, "TriedLines$Core", "a", "I", "TriedLines"), ("TriedLines", 230, "TriedLines$Core", "a", "I", "TriedLines"), ("TriedLines$Run", 113, "TriedLines$Core", "x", "I", "TriedLines"), ("TriedLines", 233, "TriedLines$Core", "x", "I", "TriedLines"), ("TriedLines$Run", 141, "TriedLines$Core", "state", "I", "TriedLines"), ("TriedLines", 236, "TriedLines$Core", "state", "I", "TriedLines"), ("TriedLines$Run", 130, "TriedLines$Core", "lost", "I", "TriedLines"), ("TriedLines", 239, "TriedLines$Core", "lost", "I", "TriedLines"), ("TriedLines$Run", 154, "TriedLines$Core", "age", "I", "TriedLines"), ("TriedLines", 242, "TriedLines$Core", "age", "I", "TriedLines"), ("TriedLines$Run", 127, "TriedLines$Core", "counts", "[I", "TriedLines"), ("TriedLines", 248, "TriedLines$Core", "counts", "[I", "TriedLines"), ("TriedLines", 155, "TriedLines$Run", "memory", "[I", "TriedLines"), ("TriedLines", 179, "TriedLines$Run", "caches", "[LTriedLines$Cache;", "TriedLines"), ("TriedLines", 219, "TriedLines$Run", "cores", "[LTriedLines$Core;", "TriedLines"), ("TriedLines", 216, "TriedLines$Run", "traffic", "[I", "TriedLines"), ("TriedLines", 166, "TriedLines$Run", "commits", "[I", "TriedLines"), ("TriedLines", 128, "TriedLines$Run", "committed", "I", "TriedLines"), ("TriedLines", 254, "TriedLines$Run", "tries", "I", "TriedLines"), ("TriedLines", 125, "TriedLines$Run", "time", "I", "TriedLines"), ("TriedLines", 173, "TriedLines$Run", "holder", "I", "TriedLines"), ("TriedLines", 261, "TriedLines$Run", "ended", "I", "TriedLines"), ("TriedLines", 161, "TriedLines$Solo", "words", "[I", "TriedLines"), ("TriedLines", 287, "TriedLines$Solo", "widest", "I", "TriedLines")]
def znM : List (String × Nat × MethodName × String) := [("TriedLines", 15, ⟨"TriedLines$Plan", "<init>", "()V"⟩, "TriedLines"), ("TriedLines", 25, ⟨"TriedLines$TextReader", "<init>", "(LTriedLines$Plan;[I)V"⟩, "TriedLines"), ("TriedLines", 34, ⟨"TriedLines$Run", "<init>", "(LTriedLines$Plan;)V"⟩, "TriedLines"), ("TriedLines$Run", 37, ⟨"TriedLines$Cache", "<init>", "(LTriedLines$Plan;)V"⟩, "TriedLines"), ("TriedLines$Run", 40, ⟨"TriedLines$Core", "<init>", "()V"⟩, "TriedLines"), ("TriedLines", 49, ⟨"TriedLines$Solo", "<init>", "(LTriedLines$Plan;)V"⟩, "TriedLines"), ("TriedLines", 73, ⟨"TriedLines$TextReader", "readText", "(I)Z"⟩, "TriedLines"), ("TriedLines$TextReader", 19, ⟨"TriedLines$Plan", "clear", "()V"⟩, "TriedLines"), ("TriedLines$TextReader", 175, ⟨"TriedLines$Plan", "addresses", "()I"⟩, "TriedLines"), ("TriedLines$TextReader", 178, ⟨"TriedLines$Plan", "hasAddress", "(I)Z"⟩, "TriedLines"), ("TriedLines$TextReader", 185, ⟨"TriedLines$Plan", "addWord", "(II)V"⟩, "TriedLines"), ("TriedLines$TextReader", 189, ⟨"TriedLines$Plan", "hasCore", "(I)Z"⟩, "TriedLines"), ("TriedLines$TextReader", 198, ⟨"TriedLines$Plan", "addDeed", "(IIZ)V"⟩, "TriedLines"), ("TriedLines", 83, ⟨"TriedLines$Plan", "copyFrom", "(LTriedLines$Plan;)V"⟩, "TriedLines"), ("TriedLines", 92, ⟨"TriedLines$Run", "startOver", "(II)V"⟩, "TriedLines"), ("TriedLines$Run", 65, ⟨"TriedLines$Cache", "clear", "()V"⟩, "TriedLines"), ("TriedLines$Run", 68, ⟨"TriedLines$Core", "clear", "()V"⟩, "TriedLines"), ("TriedLines", 121, ⟨"TriedLines$Plan", "addresses", "()I"⟩, "TriedLines"), ("TriedLines", 131, ⟨"TriedLines$Plan", "hasDeed", "(II)Z"⟩, "TriedLines"), ("TriedLines", 135, ⟨"TriedLines$Plan", "sortOf", "(II)I"⟩, "TriedLines"), ("TriedLines", 139, ⟨"TriedLines$Plan", "wholeOf", "(II)I"⟩, "TriedLines"), ("TriedLines", 142, ⟨"TriedLines$Plan", "isIndexed", "(II)Z"⟩, "TriedLines"), ("TriedLines", 149, ⟨"TriedLines$Plan", "hasAddress", "(I)Z"⟩, "TriedLines"), ("TriedLines", 152, ⟨"TriedLines$Run", "wordAt", "(I)I"⟩, "TriedLines"), ("TriedLines$Run", 161, ⟨"TriedLines$Plan", "lineOf", "(I)I"⟩, "TriedLines"), ("TriedLines$Run", 165, ⟨"TriedLines$Cache", "find", "(I)I"⟩, "TriedLines"), ("TriedLines$Run", 168, ⟨"TriedLines$Plan", "offsetOf", "(I)I"⟩, "TriedLines"), ("TriedLines$Run", 171, ⟨"TriedLines$Cache", "wordIn", "(II)I"⟩, "TriedLines"), ("TriedLines", 164, ⟨"TriedLines$Solo", "startOver", "()V"⟩, "TriedLines"), ("TriedLines", 169, ⟨"TriedLines$Solo", "play", "(IIZ)V"⟩, "TriedLines"), ("TriedLines$Solo", 43, ⟨"TriedLines$Plan", "hasDeed", "(II)Z"⟩, "TriedLines"), ("TriedLines$Solo", 55, ⟨"TriedLines$Plan", "wholeOf", "(II)I"⟩, "TriedLines"), ("TriedLines$Solo", 51, ⟨"TriedLines$Plan", "sortOf", "(II)I"⟩, "TriedLines"), ("TriedLines$Solo", 81, ⟨"TriedLines$Plan", "setOf", "(I)I"⟩, "TriedLines"), ("TriedLines$Solo", 70, ⟨"TriedLines$Plan", "addressOf", "(III)I"⟩, "TriedLines"), ("TriedLines$Solo", 74, ⟨"TriedLines$Plan", "lineOf", "(I)I"⟩, "TriedLines"), ("TriedLines", 176, ⟨"TriedLines$Plan", "hasCore", "(I)Z"⟩, "TriedLines"), ("TriedLines", 201, ⟨"TriedLines$Plan", "lineOf", "(I)I"⟩, "TriedLines"), ("TriedLines", 204, ⟨"TriedLines$Cache", "find", "(I)I"⟩, "TriedLines"), ("TriedLines", 207, ⟨"TriedLines$Plan", "offsetOf", "(I)I"⟩, "TriedLines"), ("TriedLines", 210, ⟨"TriedLines$Cache", "wordIn", "(II)I"⟩, "TriedLines"), ("TriedLines", 213, ⟨"TriedLines$Cache", "markedLines", "(Z)I"⟩, "TriedLines"), ("TriedLines", 222, ⟨"TriedLines$Run", "hasDeedsLeft", "(I)Z"⟩, "TriedLines"), ("TriedLines$Run", 82, ⟨"TriedLines$Plan", "hasCore", "(I)Z"⟩, "TriedLines"), ("TriedLines", 251, ⟨"TriedLines$Run", "lostAfter", "(II)I"⟩, "TriedLines"), ("TriedLines", 255, ⟨"TriedLines$Run", "copyFrom", "(LTriedLines$Run;)V"⟩, "TriedLines"), ("TriedLines$Run", 75, ⟨"TriedLines$Cache", "copyFrom", "(LTriedLines$Cache;)V"⟩, "TriedLines"), ("TriedLines$Run", 79, ⟨"TriedLines$Core", "copyFrom", "(LTriedLines$Core;)V"⟩, "TriedLines"), ("TriedLines", 258, ⟨"TriedLines$Run", "takeStep", "(I)I"⟩, "TriedLines"), ("TriedLines$Run", 95, ⟨"TriedLines$Plan", "wholeOf", "(II)I"⟩, "TriedLines"), ("TriedLines$Run", 99, ⟨"TriedLines$Plan", "sortOf", "(II)I"⟩, "TriedLines"), ("TriedLines$Run", 189, ⟨"TriedLines$Cache", "unmark", "(Z)V"⟩, "TriedLines"), ("TriedLines$Run", 196, ⟨"TriedLines$Cache", "findRoom", "(I)I"⟩, "TriedLines"), ("TriedLines$Cache", 45, ⟨"TriedLines$Plan", "setOf", "(I)I"⟩, "TriedLines"), ("TriedLines$Run", 199, ⟨"TriedLines$Cache", "dropLine", "(I)V"⟩, "TriedLines"), ("TriedLines$Run", 185, ⟨"TriedLines$Cache", "setWord", "(III)V"⟩, "TriedLines"), ("TriedLines$Run", 157, ⟨"TriedLines$Plan", "addressOf", "(III)I"⟩, "TriedLines"), ("TriedLines", 264, ⟨"TriedLines$Run", "takeRounds", "(I)I"⟩, "TriedLines"), ("TriedLines", 270, ⟨"TriedLines$Run", "takeDraws", "(II)I"⟩, "TriedLines"), ("TriedLines", 274, ⟨"TriedLines$Run", "endTries", "(II)V"⟩, "TriedLines"), ("TriedLines", 280, ⟨"TriedLines$Run", "isAllDone", "()Z"⟩, "TriedLines"), ("TriedLines", 284, ⟨"TriedLines$Run", "countInAll", "(I)I"⟩, "TriedLines"), ("TriedLines", 296, ⟨"TriedLines$Plan", "deedsInAll", "()I"⟩, "TriedLines")]
/-! the String constants: by their texts -/
def zst : List (String × Nat × String × Nat) := [("TriedLines$TextReader", 103, "begin", 0), ("TriedLines$TextReader", 105, "end", 1), ("TriedLines$TextReader", 106, "mark", 2), ("TriedLines$TextReader", 108, "get", 3), ("TriedLines$TextReader", 110, "put", 4), ("TriedLines$TextReader", 112, "plus", 5), ("TriedLines$TextReader", 114, "less", 6), ("TriedLines$TextReader", 116, "machine", 7), ("TriedLines$TextReader", 118, "word", 8), ("TriedLines$TextReader", 120, "core", 9), ("TriedLines$TextReader", 138, "sets", 10), ("TriedLines$TextReader", 146, "ways", 11), ("TriedLines$TextReader", 150, "words", 12), ("TriedLines$TextReader", 155, "rule", 13), ("TriedLines$TextReader", 164, "wins", 14), ("TriedLines$TextReader", 168, "age", 15), ("TriedLines$TextReader", 170, "yields", 16), ("TriedLines$TextReader", 160, "tries", 17), ("TriedLines$TextReader", 202, "x", 18), ("TriedLinesModel", 187, "machine", 7), ("TriedLinesModel", 138, "sets", 10), ("TriedLinesModel", 144, "ways", 11), ("TriedLinesModel", 150, "words", 12), ("TriedLinesModel", 152, "rule", 13), ("TriedLinesModel", 154, "wins", 14), ("TriedLinesModel", 156, "age", 15), ("TriedLinesModel", 158, "yields", 16), ("TriedLinesModel", 160, "tries", 17), ("TriedLinesModel", 192, "word", 8), ("TriedLinesModel", 197, "core", 9), ("TriedLinesModel", 171, "begin", 0), ("TriedLinesModel", 173, "end", 1), ("TriedLinesModel", 175, "mark", 2), ("TriedLinesModel", 177, "get", 3), ("TriedLinesModel", 179, "put", 4), ("TriedLinesModel", 181, "plus", 5), ("TriedLinesModel", 183, "less", 6), ("TriedLinesModel", 185, "x", 18)]
def zlen : List Nat := [5, 3, 4, 3, 3, 4, 4, 7, 4, 4, 4, 4, 5, 4, 4, 3, 6, 5, 1]
def zbyt : List (List Int32) := [[98, 101, 103, 105, 110], [101, 110, 100], [109, 97, 114, 107], [103, 101, 116], [112, 117, 116], [112, 108, 117, 115], [108, 101, 115, 115], [109, 97, 99, 104, 105, 110, 101], [119, 111, 114, 100], [99, 111, 114, 101], [115, 101, 116, 115], [119, 97, 121, 115], [119, 111, 114, 100, 115], [114, 117, 108, 101], [119, 105, 110, 115], [97, 103, 101], [121, 105, 101, 108, 100, 115], [116, 114, 105, 101, 115], [120]]
end
section
def zcds : List (Nat × Nat) := [(0, 0), (10, 0), (1, 0), (11, 0), (12, 0), (13, 0), (14, 0), (15, 0), (16, 0), (1, 1), (11, 1), (12, 1), (13, 1), (14, 1), (15, 1), (16, 1), (2, 0), (3, 0), (17, 0), (18, 0), (19, 0), (20, 0), (21, 0), (4, 0), (22, 0), (23, 0), (24, 0), (25, 0), (26, 0), (27, 0), (5, 0), (28, 0), (4, 1), (22, 1), (23, 1), (24, 1), (25, 1), (26, 1), (27, 1), (5, 1), (28, 1), (4, 2), (22, 2), (23, 2), (24, 2), (25, 2), (26, 2), (27, 2), (5, 2), (28, 2), (4, 3), (22, 3), (23, 3), (24, 3), (25, 3), (26, 3), (27, 3), (5, 3), (28, 3), (3, 1), (17, 1), (18, 1), (19, 1), (20, 1), (21, 1), (4, 4), (22, 4), (23, 4), (24, 4), (25, 4), (26, 4), (27, 4), (5, 4), (28, 4), (4, 5), (22, 5), (23, 5), (24, 5), (25, 5), (26, 5), (27, 5), (5, 5), (28, 5), (4, 6), (22, 6), (23, 6), (24, 6), (25, 6), (26, 6), (27, 6), (5, 6), (28, 6), (4, 7), (22, 7), (23, 7), (24, 7), (25, 7), (26, 7), (27, 7), (5, 7), (28, 7), (3, 2), (17, 2), (18, 2), (19, 2), (20, 2), (21, 2), (4, 8), (22, 8), (23, 8), (24, 8), (25, 8), (26, 8), (27, 8), (5, 8), (28, 8), (4, 9), (22, 9), (23, 9), (24, 9), (25, 9), (26, 9), (27, 9), (5, 9), (28, 9), (4, 10), (22, 10), (23, 10), (24, 10), (25, 10), (26, 10), (27, 10), (5, 10), (28, 10), (4, 11), (22, 11), (23, 11), (24, 11), (25, 11), (26, 11), (27, 11), (5, 11), (28, 11), (6, 0), (29, 0), (7, 0), (30, 0), (31, 0), (32, 0), (33, 0), (34, 0), (35, 0), (36, 0), (37, 0), (38, 0), (39, 0), (40, 0), (41, 0), (42, 0), (43, 0), (44, 0), (45, 0), (46, 0), (47, 0)]
/-! ===== THE WORLD of the claim: its objects by (tag, index); what changes in it are ints alone, by (field, index, place) ===== -/
/-- field, index of the owner, place in the array (0 of a field that is no array) -/
abbrev zG : Type := Nat → Nat → Nat → Int32
/-- a value of a walk: an int, an object (tag, index), a long -/
abbrev zV : Type := Int32 ⊕ ((Nat × Nat) ⊕ Int64)
/-- where the world lies: the classes' numbers, the array classes', the first address, the addresses of the String constants and of their bytes -/
abbrev zX : Type := va_G × (Nat → ClassId) × Nat × (Nat → Nat) × (Nat → Nat)
def zU (g : zG) (f i j : Nat) (v : Int32) : zG := fun a b c => if a = f ∧ b = i ∧ c = j then v else g a b c
/-- a whole array anew -/
def zUA (g : zG) (f i : Nat) (F : Nat → Int32) : zG := fun a b c => if a = f ∧ b = i then F c else g a b c
def zA (X : zX) (q : Nat × Nat) : Nat := if q.1 = 60 then X.2.2.2.1 q.2 else if q.1 = 61 then X.2.2.2.2 q.2 else X.2.2.1 + zcds.idxOf q
/-- what a tag's objects are: a class and its fields (none: an int; else to which object), an array of ints (type, length), an array of objects -/
def zK : Nat → (Nat × List (Option (Nat → Nat × Nat))) ⊕ ((Nat × Nat) ⊕ (Nat × Nat × (Nat → Nat → Nat × Nat)))
  | 0 => .inl (6, [some (fun _ => (10, 0)), none, some (fun _ => (1, 0)), some (fun _ => (1, 1)), some (fun _ => (2, 0)), some (fun _ => (3, 0)), some (fun _ => (3, 1)), some (fun _ => (3, 2)), some (fun _ => (6, 0)), none, none, none, none])
  | 1 => .inl (2, [none, none, none, none, none, none, none, some (fun x => (11, x)), some (fun x => (12, x)), some (fun x => (13, x)), some (fun x => (14, x)), some (fun x => (15, x)), some (fun x => (16, x))])
  | 2 => .inl (5, [some (fun _ => (1, 1)), some (fun _ => (10, 0)), none, none, none, none, none, none, none, none, none])
  | 3 => .inl (3, [some (fun _ => (1, 0)), some (fun x => (17, x)), some (fun x => (18, x)), some (fun x => (19, x)), some (fun x => (20, x)), some (fun x => (21, x)), none, none, none, none, none, none])
  | 4 => .inl (0, [some (fun _ => (1, 0)), some (fun x => (22, x)), some (fun x => (23, x)), some (fun x => (24, x)), some (fun x => (25, x)), some (fun x => (26, x)), some (fun x => (27, x))])
  | 5 => .inl (1, [none, none, none, none, none, none, none, some (fun x => (28, x))])
  | 6 => .inl (4, [some (fun _ => (1, 0)), some (fun x => (29, x)), none, none, none, none])
  | 7 => .inl (7, [none, none, none, none, some (fun x => (30, x)), none, some (fun x => (31, x)), some (fun x => (32, x)), none, none, some (fun x => (33, x)), some (fun x => (34, x)), some (fun x => (35, x)), some (fun x => (36, x)), some (fun x => (37, x)), some (fun x => (38, x)), some (fun x => (39, x)), some (fun x => (40, x)), some (fun x => (41, x)), some (fun x => (42, x)), none, none, none, none, none, none, none, none, none, none, some (fun x => (43, x)), some (fun x => (44, x)), some (fun x => (45, x)), none, none, none, none, none, some (fun x => (46, x)), none, none, none])
  | 10 => .inr (.inl (0, 900))
  | 11 => .inr (.inl (0, 4))
  | 12 => .inr (.inl (0, 96))
  | 13 => .inr (.inl (0, 96))
  | 14 => .inr (.inl (1, 96))
  | 15 => .inr (.inl (0, 64))
  | 16 => .inr (.inl (1, 64))
  | 17 => .inr (.inl (0, 68))
  | 18 => .inr (.inr (2, 4, fun r k => (4, 4 * r + k)))
  | 19 => .inr (.inr (3, 4, fun r k => (5, 4 * r + k)))
  | 20 => .inr (.inl (0, 3))
  | 21 => .inr (.inl (0, 192))
  | 22 => .inr (.inl (0, 16))
  | 23 => .inr (.inl (0, 16))
  | 24 => .inr (.inl (1, 16))
  | 25 => .inr (.inl (1, 16))
  | 26 => .inr (.inl (0, 16))
  | 27 => .inr (.inl (0, 64))
  | 28 => .inr (.inl (0, 7))
  | 29 => .inr (.inl (0, 64))
  | 30 => .inr (.inl (0, 900))
  | 31 => .inr (.inl (0, 6))
  | 32 => .inr (.inl (0, 6))
  | 33 => .inr (.inl (0, 64))
  | 34 => .inr (.inl (0, 64))
  | 35 => .inr (.inl (0, 4))
  | 36 => .inr (.inl (0, 4))
  | 37 => .inr (.inl (0, 96))
  | 38 => .inr (.inl (0, 96))
  | 39 => .inr (.inl (0, 96))
  | 40 => .inr (.inl (0, 96))
  | 41 => .inr (.inl (0, 96))
  | 42 => .inr (.inl (0, 96))
  | 43 => .inr (.inl (0, 2766))
  | 44 => .inr (.inl (0, 2766))
  | 45 => .inr (.inl (0, 2766))
  | 46 => .inr (.inl (0, 64))
  | _ => .inr (.inl (4, 1))
/-- a field's value -/
def zfv (X : zX) (g : zG) (t i k : Nat) (f : Option (Nat → Nat × Nat)) : Value := match f with
  | none => .int (g (1000 * (k + 1) + t) i 0)
  | some tg => .ref (zA X (tg i))
def zC (X : zX) (g : zG) (t i : Nat) : va_E := match zK t with
  | .inl (ci, fs) => .inr (ci, fs.mapIdx (fun k f => zfv X g t i k f))
  | .inr (.inl (j, n)) => if j = 4 then .inl (X.2.1 4, n, .inr (.inl (fun k => (g t i k).toInt64))) else .inl (X.2.1 j, n, .inl (g t i))
  | .inr (.inr (j, n, r)) => .inl (X.2.1 j, n, .inr (.inr (.inr (.inr (fun k => some (zA X (r i k)))))))
def zW (X : zX) (g : zG) : va_W := zcds.map (fun q => (zA X q, zC X g q.1 q.2))
def zF (X : zX) : Nat → Prop := fun q => X.2.2.1 ≤ q ∧ q < X.2.2.1 + zcds.length
abbrev zcl : List vw_C := [(RX0, TX0, 7), (RX1, TX1, 8), (RX2, TX2, 13), (RX3, TX3, 12), (RX4, TX4, 6), (RX5, TX5, 11), (RX6, TX6, 13), (RX7, TX7, 42)]
def zT (X : zX) : List (ClassId × FieldType) := [(X.2.1 0, .int), (X.2.1 1, .boolean), (X.2.1 2, .object RX0), (X.2.1 3, .object RX1), (X.2.1 4, .long)]
theorem zidx : ∀ i : Nat, i < zcds.length → ∀ q, zcds[i]? = some q → zcds.idxOf q = i := by
  have h : (List.range zcds.length).all (fun i => zcds.idxOf (zcds.getD i (0, 0)) == i) = true := by decide +kernel
  intro i hi q hq
  have h1 := List.all_eq_true.mp h i (List.mem_range.mpr hi)
  rw [beq_iff_eq] at h1
  rw [List.getD_eq_getElem?_getD, hq] at h1
  exact h1
theorem ztag : ∀ q ∈ zcds, q.1 < 60 := by
  have h : zcds.all (fun q => decide (q.1 < 60)) = true := by decide +kernel
  intro q hq
  exact of_decide_eq_true (List.all_eq_true.mp h q hq)
theorem zA_of (X : zX) {q : Nat × Nat} (h : q ∈ zcds) : zA X q = X.2.2.1 + zcds.idxOf q := by
  have := ztag q h
  unfold zA
  rw [if_neg (by omega), if_neg (by omega)]
theorem zget {q : Nat × Nat} (h : q ∈ zcds) : zcds[zcds.idxOf q]? = some q := by
  obtain ⟨i, hi⟩ := List.getElem?_of_mem h
  rw [zidx i (List.getElem?_eq_some_iff.mp hi).1 q hi]
  exact hi
theorem zA_inj (X : zX) {q q' : Nat × Nat} (h : q ∈ zcds) (h' : q' ∈ zcds) (he : zA X q = zA X q') : q = q' := by
  rw [zA_of X h, zA_of X h'] at he
  have e : zcds.idxOf q = zcds.idxOf q' := by omega
  have a := zget h
  have b := zget h'
  rw [e, b] at a
  exact (Option.some.inj a).symm
theorem zW_get (X : zX) (g : zG) {t i : Nat} (h : (t, i) ∈ zcds) : (zW X g)[zcds.idxOf (t, i)]? = some (zA X (t, i), zC X g t i) := by
  unfold zW
  rw [List.getElem?_map, zget h]
  rfl
theorem zW_D (X : zX) (g : zG) : va_D (zF X) (zW X g) := by
  have key : ∀ (k : Nat) (p : Nat × va_E), (zW X g)[k]? = some p → ∃ q, zcds[k]? = some q ∧ p = (zA X q, zC X g q.1 q.2) := by
    intro k p hk
    unfold zW at hk
    rw [List.getElem?_map] at hk
    cases hq : zcds[k]? with
    | none => rw [hq] at hk; cases hk
    | some q => rw [hq] at hk; exact ⟨q, rfl, (Option.some.inj hk).symm⟩
  refine ⟨fun i j p p' hi hj he => ?_, fun k p hk => ?_⟩
  · obtain ⟨q, h1, rfl⟩ := key i p hi
    obtain ⟨q', h2, rfl⟩ := key j p' hj
    have e := zA_inj X (List.mem_of_getElem? h1) (List.mem_of_getElem? h2) he
    subst e
    have a := zidx i (List.getElem?_eq_some_iff.mp h1).1 q h1
    have b := zidx j (List.getElem?_eq_some_iff.mp h2).1 q h2
    omega
  · obtain ⟨q, h1, rfl⟩ := key k p hk
    have hm := List.mem_of_getElem? h1
    show X.2.2.1 ≤ zA X q ∧ zA X q < X.2.2.1 + zcds.length
    rw [zA_of X hm]
    have := List.idxOf_lt_length_of_mem hm
    omega
theorem zC_ext (X : zX) {g g' : zG} {t i : Nat} (h1 : ∀ k, g t i k = g' t i k) (h2 : ∀ k, g (1000 * (k + 1) + t) i 0 = g' (1000 * (k + 1) + t) i 0) : zC X g t i = zC X g' t i := by
  have e1 : g t i = g' t i := funext h1
  have e2 : ∀ k f, zfv X g t i k f = zfv X g' t i k f := by
    intro k f
    cases f with
    | none => simp only [zfv, h2]
    | some tg => rfl
  unfold zC
  simp only [e1, e2]
/-- a world with one cell set -/
theorem zW_set (X : zX) {g g' : zG} {t i : Nat} {e : va_E} (h : (t, i) ∈ zcds) (he : e = zC X g' t i) (hne : ∀ q ∈ zcds, q ≠ (t, i) → zC X g q.1 q.2 = zC X g' q.1 q.2) :
    (zW X g).set (zcds.idxOf (t, i)) (zA X (t, i), e) = zW X g' := by
  subst he
  apply List.ext_getElem?
  intro j
  rw [List.getElem?_set]
  by_cases hj : zcds.idxOf (t, i) = j
  · subst hj
    rw [if_pos rfl, zW_get X g' h, if_pos (by unfold zW; rw [List.length_map]; exact List.idxOf_lt_length_of_mem h)]
  · rw [if_neg hj]
    unfold zW
    rw [List.getElem?_map, List.getElem?_map]
    cases hq : zcds[j]? with
    | none => rfl
    | some q =>
      have hm := List.mem_of_getElem? hq
      have hn : q ≠ (t, i) := by
        intro hz
        rw [← hz] at hj
        exact hj (zidx j (List.getElem?_eq_some_iff.mp hq).1 q hq)
      simp only [Option.map_some, hne q hm hn]
theorem zW_setO (X : zX) {g : zG} {t i ci k : Nat} {fs : List (Option (Nat → Nat × Nat))} (h : (t, i) ∈ zcds) (hk : zK t = .inl (ci, fs)) (hf : fs[k]? = some none) (v : Int32) :
    (zW X g).set (zcds.idxOf (t, i)) (zA X (t, i), .inr (ci, (fs.mapIdx (fun k f => zfv X g t i k f)).set k (.int v))) = zW X (zU g (1000 * (k + 1) + t) i 0 v) := by
  have ht := ztag _ h
  refine zW_set X h ?_ ?_
  · simp only [zC, hk]
    congr 1
    congr 1
    apply List.ext_getElem?
    intro j
    have hlt := (List.getElem?_eq_some_iff.mp hf).1
    rw [List.getElem?_set, List.getElem?_mapIdx, List.getElem?_mapIdx, List.length_mapIdx]
    by_cases hj : k = j
    · subst hj
      rw [if_pos rfl, if_pos hlt, hf]
      simp [zfv, zU]
    · rw [if_neg hj]
      cases hq : fs[j]? with
      | none => rfl
      | some f =>
        cases f with
        | none =>
          have : ¬ (1000 * (j + 1) = 1000 * (k + 1)) := by omega
          simp [zfv, zU, this]
        | some tg => rfl
  · intro q hq hn
    have h2 := ztag _ hq
    have hn' : ¬ (q.1 = t ∧ q.2 = i) := fun z => hn (Prod.ext z.1 z.2)
    refine zC_ext X (fun j => ?_) (fun j => ?_)
    · have : ¬ (q.1 = 1000 * (k + 1) + t) := by omega
      simp [zU, this]
    · have : ¬ (1000 * (j + 1) + q.1 = 1000 * (k + 1) + t ∧ q.2 = i) := by
        intro z
        apply hn'
        refine ⟨?_, z.2⟩
        have h1 : t < 60 := ht
        omega
      unfold zU
      rw [if_neg (fun z => this ⟨z.1, z.2.1⟩)]
theorem zW_setA (X : zX) {g : zG} {t i j n : Nat} {F : Nat → Int32} (h : (t, i) ∈ zcds) (hk : zK t = .inr (.inl (j, n))) (hj : j ≠ 4) :
    (zW X g).set (zcds.idxOf (t, i)) (zA X (t, i), .inl (X.2.1 j, n, .inl F)) = zW X (zUA g t i F) := by
  have ht := ztag _ h
  refine zW_set X h ?_ ?_
  · simp only [zC, hk, if_neg hj]
    have : zUA g t i F t i = F := by funext c; simp [zUA]
    rw [this]
  · intro q hq hn
    have h2 := ztag _ hq
    have hn' : ¬ (q.1 = t ∧ q.2 = i) := fun z => hn (Prod.ext z.1 z.2)
    refine zC_ext X (fun j => ?_) (fun j => ?_)
    · simp [zUA, hn']
    · have h1 : t < 60 := ht
      have : ¬ (1000 * (j + 1) + q.1 = t ∧ q.2 = i) := by omega
      simp [zUA, this]
theorem zUA_upd (g : zG) (t i j : Nat) (v : Int32) : zUA g t i (upd (g t i) j v) = zU g t i j v := by
  funext a b c
  unfold zUA zU upd
  by_cases h : a = t ∧ b = i
  · obtain ⟨rfl, rfl⟩ := h
    simp
  · rw [if_neg h, if_neg (fun z => h ⟨z.1, z.2.1⟩)]
end
section
/-! ===== what holds of a state beside the world, and what a method's body is walked in ===== -/
def zS (X : zX) (U : State) (H : Heap) : Prop :=
  va_K X.1 zcl (zT X) U ∧ (∀ q ∈ znF, va_Nw (.fieldLinkNest q.1 q.2.1 q.2.2.1 q.2.2.2.1 q.2.2.2.2.1 q.2.2.2.2.2) U) ∧ (∀ q ∈ znM, va_Nw (.methodLinkNest q.1 q.2.1 q.2.2.1 q.2.2.2) U) ∧
  (∀ i : Nat, i < 19 → vk_S 1 [zlen.getD i 0] [zbyt.getD i []] (fun _ => X.2.2.2.1 i) (fun _ => X.2.2.2.2 i) (zF X) U H) ∧ ∀ q ∈ zst, vk_R q.1 q.2.1 q.2.2.1 (X.2.2.2.1 q.2.2.2) U
theorem zS_vm {X : zX} {u U : State} {H : Heap} (h : zS X u H) (hv : U.vm = u.vm) : zS X U H := by
  have hA : u.vm.Alike U.vm := by rw [hv]; exact Vm.Alike.refl u.vm
  exact ⟨va_K.moved hA h.1, fun q hq => va_Nw.same rfl hv.symm (h.2.1 q hq), fun q hq => va_Nw.same rfl hv.symm (h.2.2.1 q hq), fun i hi => vk_S.moved hA (h.2.2.2.1 i hi), fun q hq => vk_R.same hv (h.2.2.2.2 q hq)⟩
theorem zS_warm {X : zX} {s U : State} {H H1 : Heap} (h : zS X s H) (hW : s.WarmedH U.vm) (hq : ∀ a : Nat, a < H.size → ¬ zF X a → H1[a]? = H[a]?) : zS X U H1 :=
  ⟨va_K.moved hW.alike h.1, fun q hq => va_Nw.warmF hW (h.2.1 q hq), fun q hq => va_Nw.warmM hW (h.2.2.1 q hq), fun i hi => (vk_S.moved hW.alike (h.2.2.2.1 i hi)).kept hq, fun q hq => vk_R.warm hW (h.2.2.2.2 q hq)⟩
/-- the start of a call: the world g, and what else holds -/
def zR (X : zX) (g : zG) (U : State) : Prop := va_P X.1 zcl (zW X g) U.heap ∧ zS X U U.heap
/-- its end: the answer, the world g' -/
def zQ (X : zX) (v : Option Value) (g' : zG) : Array Value → State → Outcome → State → Prop := fun _ st o t => o = .returned v ∧ va_P X.1 zcl (zW X g') t.heap ∧ va_F (zF X) st t
def zM (X : zX) : zV → Value
  | .inl x => .int x
  | .inr (.inl q) => .ref (zA X q)
  | .inr (.inr y) => .long y
def zrm (d : Nat) : Room := { frames := d, cells := 0, slots := 0, locals := 36 * d }
def zws (y : MethodName) (bytes : ByteArray) (maxL : Nat) (ret : Option FieldType) : List Cond := .code y bytes maxL ret :: zall
/-- a method's contract: from the world g with these arguments it returns this, the world is g' then -/
def MC (X : zX) (y : MethodName) (bytes : ByteArray) (maxL : Nat) (ret : Option FieldType) (d : Nat) (as : List zV) (rv : Option zV) (g g' : zG) : Prop :=
  ∀ l : Launch, Met l y (zws y bytes maxL ret) (zrm d) (va_Pc (as.map (zM X)) (zR X g)) (zQ X (rv.map (zM X)) g') 0 0 (zF X)
/-- the locals' list: ints and objects -/
def zE (X : zX) : Nat → List (Option zV) → List (Nat × Value)
  | _, [] => []
  | k, none :: L => zE X (k + 1) L
  | k, some (.inl x) :: L => (k, .int x) :: zE X (k + 1) L
  | k, some (.inr (.inl q)) :: L => (k, .ref (zA X q)) :: zE X (k + 1) L
  | k, some (.inr (.inr _)) :: L => zE X (k + 1) L
theorem zE_get (X : zX) {L : List (Option zV)} : ∀ (k i : Nat) {v : zV}, L[i]? = some (some v) → (∀ y, v ≠ .inr (.inr y)) → (k + i, zM X v) ∈ zE X k L := by
  induction L with
  | nil => intro k i v h; simp at h
  | cons a L ih =>
    intro k i v h hv
    cases i with
    | zero =>
      rw [List.getElem?_cons_zero] at h
      cases h
      rcases v with x | q | y
      · exact List.mem_cons_self
      · exact List.mem_cons_self
      · exact absurd rfl (hv y)
    | succ i =>
      rw [List.getElem?_cons_succ] at h
      have h1 := ih (k + 1) i h hv
      rw [show k + 1 + i = k + (i + 1) by omega] at h1
      rcases a with _ | x | q | y
      · exact h1
      · exact List.mem_cons_of_mem _ h1
      · exact List.mem_cons_of_mem _ h1
      · exact h1
theorem zE_at {X : zX} {ls : Array Slot} {nL : Nat} {L : List (Option zV)} (h : lv_has ls nL (zE X 0 L)) {i : Nat} {v : zV} (hi : L[i]? = some (some v)) (hv : ∀ y, v ≠ .inr (.inr y)) : ls[i]? = some (.val (zM X v)) := by
  have h1 := zE_get X 0 i hi hv
  rw [Nat.zero_add] at h1
  exact h.2.2 _ h1
theorem zE_mem (X : zX) {L : List (Option zV)} : ∀ (k : Nat) {q : Nat × Value}, q ∈ zE X k L → k ≤ q.1 ∧ q.2.category ≠ 2 ∧ ∃ v, L[q.1 - k]? = some (some v) ∧ (∀ y, v ≠ .inr (.inr y)) ∧ q.2 = zM X v := by
  induction L with
  | nil => intro k q h; cases h
  | cons a L ih =>
    intro k q h
    have up : q ∈ zE X (k + 1) L → k ≤ q.1 ∧ q.2.category ≠ 2 ∧ ∃ v, (a :: L)[q.1 - k]? = some (some v) ∧ (∀ y, v ≠ .inr (.inr y)) ∧ q.2 = zM X v := by
      intro h1
      obtain ⟨e1, e2, v, e3, e4⟩ := ih (k + 1) h1
      refine ⟨by omega, e2, v, ?_, e4⟩
      rw [show q.1 - k = (q.1 - (k + 1)) + 1 by omega, List.getElem?_cons_succ]
      exact e3
    rcases a with _ | x | p | y
    · exact up h
    · rcases List.mem_cons.mp h with h | h
      · subst h
        refine ⟨Nat.le_refl _, by simp [Value.category], .inl x, by simp, (fun y => by simp), rfl⟩
      · exact up h
    · rcases List.mem_cons.mp h with h | h
      · subst h
        refine ⟨Nat.le_refl _, by simp [Value.category], .inr (.inl p), by simp, (fun y => by simp), rfl⟩
      · exact up h
    · exact up h
theorem zE_set {X : zX} {ls : Array Slot} {nL : Nat} {L L' : List (Option zV)} {i : Nat} {v : zV} (h : lv_has ls nL ((i, zM X v) :: (zE X 0 L).filter (fun q => !(q.1 == i) && !(q.1 + 1 == i && q.2.category == 2)))) (hL : L.set i (some v) = L') : lv_has ls nL (zE X 0 L') := by
  subst hL
  refine ⟨h.1, h.2.1, fun q hq => h.2.2 q ?_⟩
  obtain ⟨-, e2, w, e3, e4, e5⟩ := zE_mem X 0 hq
  rw [Nat.sub_zero, List.getElem?_set] at e3
  by_cases hi : i = q.1
  · rw [if_pos hi] at e3
    split at e3
    · cases e3
      rw [show q = (i, zM X v) from Prod.ext hi.symm e5]
      exact List.mem_cons_self
    · cases e3
  · rw [if_neg hi] at e3
    refine List.mem_cons_of_mem _ (List.mem_filter.mpr ⟨?_, ?_⟩)
    · have h1 := zE_get X 0 q.1 e3 e4
      rw [Nat.zero_add, ← e5] at h1
      exact h1
    · have h1 : (q.1 == i) = false := by rw [beq_eq_false_iff_ne]; exact fun z => hi z.symm
      have h2 : (q.2.category == 2) = false := by rw [beq_eq_false_iff_ne]; exact e2
      simp [h1, h2]
/-- a bound name for a value: transparent -/
def zb {α β : Type} (x : α) (k : α → β) : β := k x
/-- behind a call -/
def zc (r : Option (Int32 × zG)) (k : Int32 → zG → Option (Int32 × zG)) : Option (Int32 × zG) := match r with
  | none => none
  | some (v, g) => k v g
section ZV
variable {X : zX} {p : Program} {l : Launch} {e : Env} {R : Room} {s : State} {m : MethodId} {args : Array Value} {below : List Frame} {meth : Method} {c : Code} {cc : ByteArray} {nL : Nat} {own : String} {cells slots : Nat} {Q : State → Prop}
/-- what a body is walked in: the machine, the code, the tables' words -/
def Cx (X : zX) (p : Program) (R : Room) (s : State) (m : MethodId) (args : Array Value) (meth : Method) (c : Code) (cc : ByteArray) (nL : Nat) (own : String) (cells slots : Nat) : Prop :=
  p.tables.exec = Jvm.exec ∧ c.code = cc ∧ c.maxLocals = nL ∧ s.vm.findClass own = some m.cls ∧ (∀ w ∈ zall, w.before args s = true) ∧ zS X s s.heap ∧ meth.locks = false ∧ cells ≤ R.cells ∧ slots ≤ R.slots
/-- the walk: from the world g, at pc, with these locals and this stack -/
def V (X : zX) (p : Program) (l : Launch) (e : Env) (R : Room) (s : State) (m : MethodId) (args : Array Value) (below : List Frame) (meth : Method) (c : Code) (nL : Nat) (cells slots : Nat) (Q : State → Prop) (g : zG) (pc : Nat) (L : List (Option zV)) (st : List zV) : Prop :=
  ∀ (H : Heap) (locs : List Loc) (ls : Array Slot), va_P X.1 zcl (zW X g) H → va_S (zF X) s.heap H locs → lv_has ls nL (zE X 0 L) → W p l e R s m args below meth c H locs cells slots Q (F0 m pc ls (st.map (zM X)))
variable {g : zG} {pc : Nat} {L L' : List (Option zV)} {st : List zV}
theorem v_iconst (C : Cx X p R s m args meth c cc nL own cells slots) {n : Int} (x : Int32) (hd : decode cc pc = .ok (.iconst n, 1)) (hv : Int32.ofInt n = x) (kk : V X p l e R s m args below meth c nL cells slots Q g (pc + 1) L (.inl x :: st)) : V X p l e R s m args below meth c nL cells slots Q g pc L st :=
  fun H locs ls hP hS hl => lv_iconst C.1 C.2.1 hd hv (kk H locs ls hP hS hl)
theorem v_bipush (C : Cx X p R s m args meth c cc nL own cells slots) {n : Int} (x : Int32) (hd : decode cc pc = .ok (.bipush n, 2)) (hv : (Int8.ofInt n).toInt32 = x) (kk : V X p l e R s m args below meth c nL cells slots Q g (pc + 2) L (.inl x :: st)) : V X p l e R s m args below meth c nL cells slots Q g pc L st :=
  fun H locs ls hP hS hl => lv_bipush C.1 C.2.1 hd hv (kk H locs ls hP hS hl)
theorem v_sipush (C : Cx X p R s m args meth c cc nL own cells slots) {n : Int} (x : Int32) (hd : decode cc pc = .ok (.sipush n, 3)) (hv : (Int16.ofInt n).toInt32 = x) (kk : V X p l e R s m args below meth c nL cells slots Q g (pc + 3) L (.inl x :: st)) : V X p l e R s m args below meth c nL cells slots Q g pc L st :=
  fun H locs ls hP hS hl => lv_sipush C.1 C.2.1 hd hv (kk H locs ls hP hS hl)
theorem v_ldc (C : Cx X p R s m args meth c cc nL own cells slots) {n : Nat} (x : Int32) (hd : decode cc pc = .ok (.ldc n, 2)) (hv : Cond.constant own n x ∈ zall) (kk : V X p l e R s m args below meth c nL cells slots Q g (pc + 2) L (.inl x :: st)) : V X p l e R s m args below meth c nL cells slots Q g pc L st :=
  fun H locs ls hP hS hl => lv_ldc C.1 C.2.1 C.2.2.2.1 (C.2.2.2.2.1 _ hv) hd (kk H locs ls hP hS hl)
theorem v_iload_n (C : Cx X p R s m args meth c cc nL own cells slots) {k : Fin 4} (i : Nat) {x : Int32} (hd : decode cc pc = .ok (.iload_n k, 1)) (hi : (k : Nat) = i) (hl : L[i]? = some (some (.inl x))) (kk : V X p l e R s m args below meth c nL cells slots Q g (pc + 1) L (.inl x :: st)) : V X p l e R s m args below meth c nL cells slots Q g pc L st :=
  fun H locs ls hP hS h => lv_iload_n C.1 C.2.1 hd hi (zE_at h hl (fun _ => by simp)) (kk H locs ls hP hS h)
theorem v_iload (C : Cx X p R s m args meth c cc nL own cells slots) (i : Nat) {x : Int32} (hd : decode cc pc = .ok (.iload i, 2)) (hl : L[i]? = some (some (.inl x))) (kk : V X p l e R s m args below meth c nL cells slots Q g (pc + 2) L (.inl x :: st)) : V X p l e R s m args below meth c nL cells slots Q g pc L st :=
  fun H locs ls hP hS h => lv_iload C.1 C.2.1 hd (zE_at h hl (fun _ => by simp)) (kk H locs ls hP hS h)
theorem v_aload_n (C : Cx X p R s m args meth c cc nL own cells slots) {k : Fin 4} (i : Nat) {x : Nat × Nat} (hd : decode cc pc = .ok (.aload_n k, 1)) (hi : (k : Nat) = i) (hl : L[i]? = some (some (.inr (.inl x)))) (kk : V X p l e R s m args below meth c nL cells slots Q g (pc + 1) L (.inr (.inl x) :: st)) : V X p l e R s m args below meth c nL cells slots Q g pc L st :=
  fun H locs ls hP hS h => lv_aload_n C.1 C.2.1 hd hi (zE_at h hl (fun _ => by simp)) (kk H locs ls hP hS h)
theorem v_aload (C : Cx X p R s m args meth c cc nL own cells slots) (i : Nat) {x : Nat × Nat} (hd : decode cc pc = .ok (.aload i, 2)) (hl : L[i]? = some (some (.inr (.inl x)))) (kk : V X p l e R s m args below meth c nL cells slots Q g (pc + 2) L (.inr (.inl x) :: st)) : V X p l e R s m args below meth c nL cells slots Q g pc L st :=
  fun H locs ls hP hS h => lv_aload C.1 C.2.1 hd (zE_at h hl (fun _ => by simp)) (kk H locs ls hP hS h)
theorem v_istore_n (C : Cx X p R s m args meth c cc nL own cells slots) {k : Fin 4} (i : Nat) {x : Int32} (hd : decode cc pc = .ok (.istore_n k, 1)) (hi : (k : Nat) = i) (hn : i < nL) (hL : L.set i (some (.inl x)) = L') (kk : V X p l e R s m args below meth c nL cells slots Q g (pc + 1) L' st) : V X p l e R s m args below meth c nL cells slots Q g pc L (.inl x :: st) :=
  fun H locs ls hP hS h => lv_istore_n C.1 C.2.1 hd hi h hn rfl (fun ls' h' => kk H locs ls' hP hS (zE_set (v := .inl x) h' hL))
theorem v_istore (C : Cx X p R s m args meth c cc nL own cells slots) (i : Nat) {x : Int32} (hd : decode cc pc = .ok (.istore i, 2)) (hn : i < nL) (hL : L.set i (some (.inl x)) = L') (kk : V X p l e R s m args below meth c nL cells slots Q g (pc + 2) L' st) : V X p l e R s m args below meth c nL cells slots Q g pc L (.inl x :: st) :=
  fun H locs ls hP hS h => lv_istore C.1 C.2.1 hd h hn rfl (fun ls' h' => kk H locs ls' hP hS (zE_set (v := .inl x) h' hL))
theorem v_astore_n (C : Cx X p R s m args meth c cc nL own cells slots) {k : Fin 4} (i : Nat) {x : Nat × Nat} (hd : decode cc pc = .ok (.astore_n k, 1)) (hi : (k : Nat) = i) (hn : i < nL) (hL : L.set i (some (.inr (.inl x))) = L') (kk : V X p l e R s m args below meth c nL cells slots Q g (pc + 1) L' st) : V X p l e R s m args below meth c nL cells slots Q g pc L (.inr (.inl x) :: st) :=
  fun H locs ls hP hS h => lv_astore_n C.1 C.2.1 hd hi h hn rfl (fun ls' h' => kk H locs ls' hP hS (zE_set (v := .inr (.inl x)) h' hL))
theorem v_astore (C : Cx X p R s m args meth c cc nL own cells slots) (i : Nat) {x : Nat × Nat} (hd : decode cc pc = .ok (.astore i, 2)) (hn : i < nL) (hL : L.set i (some (.inr (.inl x))) = L') (kk : V X p l e R s m args below meth c nL cells slots Q g (pc + 2) L' st) : V X p l e R s m args below meth c nL cells slots Q g pc L (.inr (.inl x) :: st) :=
  fun H locs ls hP hS h => lv_astore C.1 C.2.1 hd h hn rfl (fun ls' h' => kk H locs ls' hP hS (zE_set (v := .inr (.inl x)) h' hL))
theorem zE_idx {X : zX} {L : List (Option zV)} {i : Nat} {x : Int32} (hl : L[i]? = some (some (.inl x))) : ∃ k : Nat, (zE X 0 L)[k]? = some (i, .int x) := by
  have h := zE_get X 0 i hl (fun _ => by simp)
  rw [Nat.zero_add] at h
  exact List.getElem?_of_mem h
theorem v_iinc (C : Cx X p R s m args meth c cc nL own cells slots) (i : Nat) {n : Int} (k : Int32) {x : Int32} (hd : decode cc pc = .ok (.iinc i n, 3)) (hk : Int32.ofInt n = k) (hn : i < nL) (hl : L[i]? = some (some (.inl x))) (hL : L.set i (some (.inl (x + k))) = L') (kk : V X p l e R s m args below meth c nL cells slots Q g (pc + 3) L' st) : V X p l e R s m args below meth c nL cells slots Q g pc L st := by
  intro H locs ls hP hS h
  obtain ⟨q, hq⟩ := zE_idx (X := X) hl
  exact lv_iinc C.1 C.2.1 hd h hq (by rw [hk]) hn rfl (fun ls' h' => kk H locs ls' hP hS (zE_set (v := .inl (x + k)) h' hL))
theorem v_iadd (C : Cx X p R s m args meth c cc nL own cells slots) {x y : Int32} (hd : decode cc pc = .ok (.iadd, 1)) (kk : V X p l e R s m args below meth c nL cells slots Q g (pc + 1) L (.inl (x + y) :: st)) : V X p l e R s m args below meth c nL cells slots Q g pc L (.inl y :: .inl x :: st) :=
  fun H locs ls hP hS h => lv_iadd C.1 C.2.1 hd (kk H locs ls hP hS h)
theorem v_isub (C : Cx X p R s m args meth c cc nL own cells slots) {x y : Int32} (hd : decode cc pc = .ok (.isub, 1)) (kk : V X p l e R s m args below meth c nL cells slots Q g (pc + 1) L (.inl (x - y) :: st)) : V X p l e R s m args below meth c nL cells slots Q g pc L (.inl y :: .inl x :: st) :=
  fun H locs ls hP hS h => lv_isub C.1 C.2.1 hd (kk H locs ls hP hS h)
theorem v_imul (C : Cx X p R s m args meth c cc nL own cells slots) {x y : Int32} (hd : decode cc pc = .ok (.imul, 1)) (kk : V X p l e R s m args below meth c nL cells slots Q g (pc + 1) L (.inl (x * y) :: st)) : V X p l e R s m args below meth c nL cells slots Q g pc L (.inl y :: .inl x :: st) :=
  fun H locs ls hP hS h => lv_imul C.1 C.2.1 hd (kk H locs ls hP hS h)
theorem v_iand (C : Cx X p R s m args meth c cc nL own cells slots) {x y : Int32} (hd : decode cc pc = .ok (.iand, 1)) (kk : V X p l e R s m args below meth c nL cells slots Q g (pc + 1) L (.inl (x &&& y) :: st)) : V X p l e R s m args below meth c nL cells slots Q g pc L (.inl y :: .inl x :: st) :=
  fun H locs ls hP hS h => lv_iand C.1 C.2.1 hd (kk H locs ls hP hS h)
theorem v_ior (C : Cx X p R s m args meth c cc nL own cells slots) {x y : Int32} (hd : decode cc pc = .ok (.ior, 1)) (kk : V X p l e R s m args below meth c nL cells slots Q g (pc + 1) L (.inl (x ||| y) :: st)) : V X p l e R s m args below meth c nL cells slots Q g pc L (.inl y :: .inl x :: st) :=
  fun H locs ls hP hS h => lv_ior C.1 C.2.1 hd (kk H locs ls hP hS h)
theorem v_ishl (C : Cx X p R s m args meth c cc nL own cells slots) {x y : Int32} (hd : decode cc pc = .ok (.ishl, 1)) (kk : V X p l e R s m args below meth c nL cells slots Q g (pc + 1) L (.inl (x <<< (y &&& 31)) :: st)) : V X p l e R s m args below meth c nL cells slots Q g pc L (.inl y :: .inl x :: st) :=
  fun H locs ls hP hS h => lv_ishl C.1 C.2.1 hd (kk H locs ls hP hS h)
theorem v_ishr (C : Cx X p R s m args meth c cc nL own cells slots) {x y : Int32} (hd : decode cc pc = .ok (.ishr, 1)) (kk : V X p l e R s m args below meth c nL cells slots Q g (pc + 1) L (.inl (x >>> (y &&& 31)) :: st)) : V X p l e R s m args below meth c nL cells slots Q g pc L (.inl y :: .inl x :: st) :=
  fun H locs ls hP hS h => lv_ishr C.1 C.2.1 hd (kk H locs ls hP hS h)
theorem v_ineg (C : Cx X p R s m args meth c cc nL own cells slots) {x : Int32} (hd : decode cc pc = .ok (.ineg, 1)) (kk : V X p l e R s m args below meth c nL cells slots Q g (pc + 1) L (.inl (-x) :: st)) : V X p l e R s m args below meth c nL cells slots Q g pc L (.inl x :: st) :=
  fun H locs ls hP hS h => lv_ineg C.1 C.2.1 hd (kk H locs ls hP hS h)
theorem v_idiv (C : Cx X p R s m args meth c cc nL own cells slots) {x y : Int32} {A : Option (Int32 × zG)} {res : Int32 × zG} (hd : decode cc pc = .ok (.idiv, 1)) (hM : (if y = 0 then none else A) = some res) (kk : A = some res → V X p l e R s m args below meth c nL cells slots Q g (pc + 1) L (.inl (x / y) :: st)) : V X p l e R s m args below meth c nL cells slots Q g pc L (.inl y :: .inl x :: st) := by
  intro H locs ls hP hS h
  by_cases hy : y = 0
  · rw [if_pos hy] at hM; cases hM
  · rw [if_neg hy] at hM
    exact lv_idiv C.1 C.2.1 hd hy (kk hM H locs ls hP hS h)
theorem v_irem (C : Cx X p R s m args meth c cc nL own cells slots) {x y : Int32} {A : Option (Int32 × zG)} {res : Int32 × zG} (hd : decode cc pc = .ok (.irem, 1)) (hM : (if y = 0 then none else A) = some res) (kk : A = some res → V X p l e R s m args below meth c nL cells slots Q g (pc + 1) L (.inl (x - x / y * y) :: st)) : V X p l e R s m args below meth c nL cells slots Q g pc L (.inl y :: .inl x :: st) := by
  intro H locs ls hP hS h
  by_cases hy : y = 0
  · rw [if_pos hy] at hM; cases hM
  · rw [if_neg hy] at hM
    exact lv_irem C.1 C.2.1 hd hy (kk hM H locs ls hP hS h)
theorem zM_cat (X : zX) {v : zV} (hv : ∀ y, v ≠ .inr (.inr y)) : (zM X v).category = 1 := by
  rcases v with x | q | y
  · rfl
  · rfl
  · exact absurd rfl (hv y)
theorem v_dup_i (C : Cx X p R s m args meth c cc nL own cells slots) {x : Int32} (hd : decode cc pc = .ok (.dup, 1)) (kk : V X p l e R s m args below meth c nL cells slots Q g (pc + 1) L (.inl x :: .inl x :: st)) : V X p l e R s m args below meth c nL cells slots Q g pc L (.inl x :: st) :=
  fun H locs ls hP hS h => lv_dup C.1 C.2.1 hd rfl (kk H locs ls hP hS h)
theorem v_dup_a (C : Cx X p R s m args meth c cc nL own cells slots) {x : Nat × Nat} (hd : decode cc pc = .ok (.dup, 1)) (kk : V X p l e R s m args below meth c nL cells slots Q g (pc + 1) L (.inr (.inl x) :: .inr (.inl x) :: st)) : V X p l e R s m args below meth c nL cells slots Q g pc L (.inr (.inl x) :: st) :=
  fun H locs ls hP hS h => lv_dup C.1 C.2.1 hd rfl (kk H locs ls hP hS h)
theorem v_pop (C : Cx X p R s m args meth c cc nL own cells slots) {x : Int32} (hd : decode cc pc = .ok (.pop, 1)) (kk : V X p l e R s m args below meth c nL cells slots Q g (pc + 1) L st) : V X p l e R s m args below meth c nL cells slots Q g pc L (.inl x :: st) :=
  fun H locs ls hP hS h => lv_pop C.1 C.2.1 hd rfl (kk H locs ls hP hS h)
theorem v_dup2 (C : Cx X p R s m args meth c cc nL own cells slots) {x : Int32} {q : Nat × Nat} (hd : decode cc pc = .ok (.dup2, 1)) (kk : V X p l e R s m args below meth c nL cells slots Q g (pc + 1) L (.inl x :: .inr (.inl q) :: .inl x :: .inr (.inl q) :: st)) : V X p l e R s m args below meth c nL cells slots Q g pc L (.inl x :: .inr (.inl q) :: st) :=
  fun H locs ls hP hS h => lv_dup2_11 C.1 C.2.1 hd rfl rfl (kk H locs ls hP hS h)
theorem v_goto (C : Cx X p R s m args meth c cc nL own cells slots) {off : Int} (tgt : Nat) (hd : decode cc pc = .ok (.goto off, 3)) (ht : (pc : Int) + off = (tgt : Int)) (kk : V X p l e R s m args below meth c nL cells slots Q g tgt L st) : V X p l e R s m args below meth c nL cells slots Q g pc L st :=
  fun H locs ls hP hS h => lv_goto C.1 C.2.1 hd ht (kk H locs ls hP hS h)
theorem v_if_eq (C : Cx X p R s m args meth c cc nL own cells slots) {x : Int32} {A B : Option (Int32 × zG)} {res : Int32 × zG} {off : Int} (tgt : Nat) (hd : decode cc pc = .ok (.ifCond .eq off, 3)) (ht : (pc : Int) + off = (tgt : Int)) (hM : (if x = 0 then A else B) = some res) (kt : A = some res → V X p l e R s m args below meth c nL cells slots Q g tgt L st) (kf : B = some res → V X p l e R s m args below meth c nL cells slots Q g (pc + 3) L st) : V X p l e R s m args below meth c nL cells slots Q g pc L (.inl x :: st) := by
  intro H locs ls hP hS h
  exact lv_if_eq C.1 C.2.1 hd ht (fun q => kt (by rw [if_pos q] at hM; exact hM) H locs ls hP hS h) (fun q => kf (by rw [if_neg q] at hM; exact hM) H locs ls hP hS h)
theorem v_if_ne (C : Cx X p R s m args meth c cc nL own cells slots) {x : Int32} {A B : Option (Int32 × zG)} {res : Int32 × zG} {off : Int} (tgt : Nat) (hd : decode cc pc = .ok (.ifCond .ne off, 3)) (ht : (pc : Int) + off = (tgt : Int)) (hM : (if x = 0 then A else B) = some res) (kt : B = some res → V X p l e R s m args below meth c nL cells slots Q g tgt L st) (kf : A = some res → V X p l e R s m args below meth c nL cells slots Q g (pc + 3) L st) : V X p l e R s m args below meth c nL cells slots Q g pc L (.inl x :: st) := by
  intro H locs ls hP hS h
  exact lv_if_ne C.1 C.2.1 hd ht (fun q => kt (by rw [if_neg q] at hM; exact hM) H locs ls hP hS h) (fun q => kf (by rw [if_pos q] at hM; exact hM) H locs ls hP hS h)
theorem v_if_lt (C : Cx X p R s m args meth c cc nL own cells slots) {x : Int32} {A B : Option (Int32 × zG)} {res : Int32 × zG} {off : Int} (tgt : Nat) (hd : decode cc pc = .ok (.ifCond .lt off, 3)) (ht : (pc : Int) + off = (tgt : Int)) (hM : (if x < 0 then A else B) = some res) (kt : A = some res → V X p l e R s m args below meth c nL cells slots Q g tgt L st) (kf : B = some res → V X p l e R s m args below meth c nL cells slots Q g (pc + 3) L st) : V X p l e R s m args below meth c nL cells slots Q g pc L (.inl x :: st) := by
  intro H locs ls hP hS h
  exact lv_if_lt C.1 C.2.1 hd ht (fun q => kt (by rw [if_pos q] at hM; exact hM) H locs ls hP hS h) (fun q => kf (by rw [if_neg q] at hM; exact hM) H locs ls hP hS h)
theorem v_if_ge (C : Cx X p R s m args meth c cc nL own cells slots) {x : Int32} {A B : Option (Int32 × zG)} {res : Int32 × zG} {off : Int} (tgt : Nat) (hd : decode cc pc = .ok (.ifCond .ge off, 3)) (ht : (pc : Int) + off = (tgt : Int)) (hM : (if x < 0 then A else B) = some res) (kt : B = some res → V X p l e R s m args below meth c nL cells slots Q g tgt L st) (kf : A = some res → V X p l e R s m args below meth c nL cells slots Q g (pc + 3) L st) : V X p l e R s m args below meth c nL cells slots Q g pc L (.inl x :: st) := by
  intro H locs ls hP hS h
  exact lv_if_ge C.1 C.2.1 hd ht (fun q => kt (by rw [if_neg (Int32.not_lt.mpr q)] at hM; exact hM) H locs ls hP hS h) (fun q => kf (by rw [if_pos (Int32.not_le.mp q)] at hM; exact hM) H locs ls hP hS h)
theorem v_if_gt (C : Cx X p R s m args meth c cc nL own cells slots) {x : Int32} {A B : Option (Int32 × zG)} {res : Int32 × zG} {off : Int} (tgt : Nat) (hd : decode cc pc = .ok (.ifCond .gt off, 3)) (ht : (pc : Int) + off = (tgt : Int)) (hM : (if 0 < x then A else B) = some res) (kt : A = some res → V X p l e R s m args below meth c nL cells slots Q g tgt L st) (kf : B = some res → V X p l e R s m args below meth c nL cells slots Q g (pc + 3) L st) : V X p l e R s m args below meth c nL cells slots Q g pc L (.inl x :: st) := by
  intro H locs ls hP hS h
  exact lv_if_gt C.1 C.2.1 hd ht (fun q => kt (by rw [if_pos q] at hM; exact hM) H locs ls hP hS h) (fun q => kf (by rw [if_neg q] at hM; exact hM) H locs ls hP hS h)
theorem v_if_le (C : Cx X p R s m args meth c cc nL own cells slots) {x : Int32} {A B : Option (Int32 × zG)} {res : Int32 × zG} {off : Int} (tgt : Nat) (hd : decode cc pc = .ok (.ifCond .le off, 3)) (ht : (pc : Int) + off = (tgt : Int)) (hM : (if 0 < x then A else B) = some res) (kt : B = some res → V X p l e R s m args below meth c nL cells slots Q g tgt L st) (kf : A = some res → V X p l e R s m args below meth c nL cells slots Q g (pc + 3) L st) : V X p l e R s m args below meth c nL cells slots Q g pc L (.inl x :: st) := by
  intro H locs ls hP hS h
  exact lv_if_le C.1 C.2.1 hd ht (fun q => kt (by rw [if_neg (Int32.not_lt.mpr q)] at hM; exact hM) H locs ls hP hS h) (fun q => kf (by rw [if_pos (Int32.not_le.mp q)] at hM; exact hM) H locs ls hP hS h)
theorem v_icmp_eq (C : Cx X p R s m args meth c cc nL own cells slots) {x y : Int32} {A B : Option (Int32 × zG)} {res : Int32 × zG} {off : Int} (tgt : Nat) (hd : decode cc pc = .ok (.if_icmp .eq off, 3)) (ht : (pc : Int) + off = (tgt : Int)) (hM : (if x = y then A else B) = some res) (kt : A = some res → V X p l e R s m args below meth c nL cells slots Q g tgt L st) (kf : B = some res → V X p l e R s m args below meth c nL cells slots Q g (pc + 3) L st) : V X p l e R s m args below meth c nL cells slots Q g pc L (.inl y :: .inl x :: st) := by
  intro H locs ls hP hS h
  exact lv_icmp_eq C.1 C.2.1 hd ht (fun q => kt (by rw [if_pos q] at hM; exact hM) H locs ls hP hS h) (fun q => kf (by rw [if_neg q] at hM; exact hM) H locs ls hP hS h)
theorem v_icmp_ne (C : Cx X p R s m args meth c cc nL own cells slots) {x y : Int32} {A B : Option (Int32 × zG)} {res : Int32 × zG} {off : Int} (tgt : Nat) (hd : decode cc pc = .ok (.if_icmp .ne off, 3)) (ht : (pc : Int) + off = (tgt : Int)) (hM : (if x = y then A else B) = some res) (kt : B = some res → V X p l e R s m args below meth c nL cells slots Q g tgt L st) (kf : A = some res → V X p l e R s m args below meth c nL cells slots Q g (pc + 3) L st) : V X p l e R s m args below meth c nL cells slots Q g pc L (.inl y :: .inl x :: st) := by
  intro H locs ls hP hS h
  exact lv_icmp_ne C.1 C.2.1 hd ht (fun q => kt (by rw [if_neg q] at hM; exact hM) H locs ls hP hS h) (fun q => kf (by rw [if_pos q] at hM; exact hM) H locs ls hP hS h)
theorem v_icmp_lt (C : Cx X p R s m args meth c cc nL own cells slots) {x y : Int32} {A B : Option (Int32 × zG)} {res : Int32 × zG} {off : Int} (tgt : Nat) (hd : decode cc pc = .ok (.if_icmp .lt off, 3)) (ht : (pc : Int) + off = (tgt : Int)) (hM : (if x < y then A else B) = some res) (kt : A = some res → V X p l e R s m args below meth c nL cells slots Q g tgt L st) (kf : B = some res → V X p l e R s m args below meth c nL cells slots Q g (pc + 3) L st) : V X p l e R s m args below meth c nL cells slots Q g pc L (.inl y :: .inl x :: st) := by
  intro H locs ls hP hS h
  exact lv_icmp_lt C.1 C.2.1 hd ht (fun q => kt (by rw [if_pos q] at hM; exact hM) H locs ls hP hS h) (fun q => kf (by rw [if_neg q] at hM; exact hM) H locs ls hP hS h)
theorem v_icmp_ge (C : Cx X p R s m args meth c cc nL own cells slots) {x y : Int32} {A B : Option (Int32 × zG)} {res : Int32 × zG} {off : Int} (tgt : Nat) (hd : decode cc pc = .ok (.if_icmp .ge off, 3)) (ht : (pc : Int) + off = (tgt : Int)) (hM : (if x < y then A else B) = some res) (kt : B = some res → V X p l e R s m args below meth c nL cells slots Q g tgt L st) (kf : A = some res → V X p l e R s m args below meth c nL cells slots Q g (pc + 3) L st) : V X p l e R s m args below meth c nL cells slots Q g pc L (.inl y :: .inl x :: st) := by
  intro H locs ls hP hS h
  exact lv_icmp_ge C.1 C.2.1 hd ht (fun q => kt (by rw [if_neg (Int32.not_lt.mpr q)] at hM; exact hM) H locs ls hP hS h) (fun q => kf (by rw [if_pos (Int32.not_le.mp q)] at hM; exact hM) H locs ls hP hS h)
theorem v_icmp_gt (C : Cx X p R s m args meth c cc nL own cells slots) {x y : Int32} {A B : Option (Int32 × zG)} {res : Int32 × zG} {off : Int} (tgt : Nat) (hd : decode cc pc = .ok (.if_icmp .gt off, 3)) (ht : (pc : Int) + off = (tgt : Int)) (hM : (if y < x then A else B) = some res) (kt : A = some res → V X p l e R s m args below meth c nL cells slots Q g tgt L st) (kf : B = some res → V X p l e R s m args below meth c nL cells slots Q g (pc + 3) L st) : V X p l e R s m args below meth c nL cells slots Q g pc L (.inl y :: .inl x :: st) := by
  intro H locs ls hP hS h
  exact lv_icmp_gt C.1 C.2.1 hd ht (fun q => kt (by rw [if_pos q] at hM; exact hM) H locs ls hP hS h) (fun q => kf (by rw [if_neg q] at hM; exact hM) H locs ls hP hS h)
theorem v_icmp_le (C : Cx X p R s m args meth c cc nL own cells slots) {x y : Int32} {A B : Option (Int32 × zG)} {res : Int32 × zG} {off : Int} (tgt : Nat) (hd : decode cc pc = .ok (.if_icmp .le off, 3)) (ht : (pc : Int) + off = (tgt : Int)) (hM : (if y < x then A else B) = some res) (kt : B = some res → V X p l e R s m args below meth c nL cells slots Q g tgt L st) (kf : A = some res → V X p l e R s m args below meth c nL cells slots Q g (pc + 3) L st) : V X p l e R s m args below meth c nL cells slots Q g pc L (.inl y :: .inl x :: st) := by
  intro H locs ls hP hS h
  exact lv_icmp_le C.1 C.2.1 hd ht (fun q => kt (by rw [if_neg (Int32.not_lt.mpr q)] at hM; exact hM) H locs ls hP hS h) (fun q => kf (by rw [if_pos (Int32.not_le.mp q)] at hM; exact hM) H locs ls hP hS h)

/-- a table of jumps: the case's number is read by 'if' one after the other -/
theorem v_tblIn (C : Cx X p R s m args meth c cc nL own cells slots) {dflt lo hi : Int} {offs : Array Int} {len : Nat} {x : Int32} {off : Int} (tgt : Nat) (k : Int) (hd : decode cc pc = .ok (.tableswitch dflt lo hi offs, len)) (hk : x.toInt = k) (h1 : ¬ k < lo) (h2 : ¬ hi < k) (ho : offs[(k - lo).toNat]? = some off) (ht : (pc : Int) + off = (tgt : Int)) (kk : V X p l e R s m args below meth c nL cells slots Q g tgt L st) : V X p l e R s m args below meth c nL cells slots Q g pc L (.inl x :: st) := by
  subst hk
  exact fun H locs ls hP hS h => lv_tableIn C.1 C.2.1 hd h1 h2 ho ht (kk H locs ls hP hS h)
theorem v_tblOut (C : Cx X p R s m args meth c cc nL own cells slots) {dflt lo hi : Int} {offs : Array Int} {len : Nat} {x : Int32} (tgt : Nat) (hd : decode cc pc = .ok (.tableswitch dflt lo hi offs, len)) (h : x.toInt < lo ∨ hi < x.toInt) (ht : (pc : Int) + dflt = (tgt : Int)) (kk : V X p l e R s m args below meth c nL cells slots Q g tgt L st) : V X p l e R s m args below meth c nL cells slots Q g pc L (.inl x :: st) :=
  fun H locs ls hP hS hl => lv_tableOut C.1 C.2.1 hd h ht (kk H locs ls hP hS hl)
/-! the world's cells -/
def zin (j : Int32) (n : Nat) : Bool := decide (¬ j < 0) && decide (j.toNatClampNeg < n)
def zi (j : Int32) (n : Nat) (A : Option (Int32 × zG)) : Option (Int32 × zG) := if zin j n = true then A else none
theorem zin_vp {j : Int32} {n : Nat} (h : zin j n = true) : vp_in j n := by
  simp only [zin, Bool.and_eq_true, decide_eq_true_eq] at h
  rintro (q | q)
  · exact h.1 q
  · omega
theorem zi_elim {j : Int32} {n : Nat} {A : Option (Int32 × zG)} {res : Int32 × zG} (h : zi j n A = some res) : zin j n = true ∧ A = some res := by
  unfold zi at h
  by_cases q : zin j n = true
  · rw [if_pos q] at h; exact ⟨q, h⟩
  · rw [if_neg q] at h; cases h
theorem zin_lt {j : Int32} {n : Nat} (h : zin j n = true) : j.toNatClampNeg < n := by
  simp only [zin, Bool.and_eq_true, decide_eq_true_eq] at h
  exact h.2
theorem v_get (C : Cx X p R s m args meth c cc nL own cells slots) {t i ci N k index : Nat} {fs : List (Option (Nat → Nat × Nat))} {f : Option (Nat → Nat × Nat)} {Cn : String} {T : u_T} (hq : (t, i) ∈ zcds) (hk : zK t = .inl (ci, fs)) (hc : zcl[ci]? = some (Cn, T, N)) (hin : ∀ w ∈ u_ws Cn T N, w ∈ zall) (hkN : k < N) (hf : fs[k]? = some f) (hlink : Cond.fieldLink own index (T k).1 (T k).2.1 (T k).2.2.1 ∈ zall) (hd : decode cc pc = .ok (.getfield index, 3)) {v : zV} (hv : zfv X g t i k f = zM X v)
    (kk : V X p l e R s m args below meth c nL cells slots Q g (pc + 3) L (v :: st)) : V X p l e R s m args below meth c nL cells slots Q g pc L (.inr (.inl (t, i)) :: st) := by
  intro H locs ls hP hS h
  have he := zW_get X g hq
  simp only [zC, hk] at he
  refine va_get (tys := zT X) (index := index) (v := zM X v) C.1 C.2.1 (fun w hw => C.2.2.2.2.1 w hw) hin C.2.2.2.1 C.2.2.2.2.2.1.1 hP (zcds.idxOf (t, i)) he hc k hkN (C.2.2.2.2.1 _ hlink) (fun _ h9 => h9) ?_ hd (kk H locs ls hP hS h)
  rw [List.getElem?_mapIdx, hf, Option.map_some, hv]
theorem v_getN (C : Cx X p R s m args meth c cc nL own cells slots) {t i ci N k index : Nat} {host : String} {fs : List (Option (Nat → Nat × Nat))} {f : Option (Nat → Nat × Nat)} {Cn : String} {T : u_T} (hq : (t, i) ∈ zcds) (hk : zK t = .inl (ci, fs)) (hc : zcl[ci]? = some (Cn, T, N)) (hin : ∀ w ∈ u_ws Cn T N, w ∈ zall) (hkN : k < N) (hf : fs[k]? = some f) (hlink : (own, index, (T k).1, (T k).2.1, (T k).2.2.1, host) ∈ znF) (hd : decode cc pc = .ok (.getfield index, 3)) {v : zV} (hv : zfv X g t i k f = zM X v)
    (kk : V X p l e R s m args below meth c nL cells slots Q g (pc + 3) L (v :: st)) : V X p l e R s m args below meth c nL cells slots Q g pc L (.inr (.inl (t, i)) :: st) := by
  intro H locs ls hP hS h
  have he := zW_get X g hq
  simp only [zC, hk] at he
  refine va_getN (tys := zT X) (index := index) (host := host) (v := zM X v) C.1 C.2.1 (fun w hw => C.2.2.2.2.1 w hw) hin C.2.2.2.1 C.2.2.2.2.2.1.1 hP (zcds.idxOf (t, i)) he hc k hkN (va_Nw.use rfl (C.2.2.2.2.2.1.2.1 _ hlink)) (fun _ h9 => h9) ?_ hd (kk H locs ls hP hS h)
  rw [List.getElem?_mapIdx, hf, Option.map_some, hv]
theorem v_put (C : Cx X p R s m args meth c cc nL own cells slots) {t i ci N k index : Nat} {fs : List (Option (Nat → Nat × Nat))} {Cn : String} {T : u_T} {ty : FieldType} (ty0 : Nat → FieldType) (hty : ∀ k, k < N → parseFieldDescriptor (T k).2.2.1 = some (ty0 k)) (hnm : ∀ a, a < N → ∀ b, b < N → a ≠ b → (T a).2.1 ≠ (T b).2.1) (hq : (t, i) ∈ zcds) (hk : zK t = .inl (ci, fs)) (hc : zcl[ci]? = some (Cn, T, N)) (hin : ∀ w ∈ u_ws Cn T N, w ∈ zall) (hkN : k < N) (hf : fs[k]? = some none) (hlink : Cond.fieldLink own index (T k).1 (T k).2.1 (T k).2.2.1 ∈ zall) (hfin : (T k).2.2.2 = false) (hty1 : ty0 k = ty) {x : Int32} (hn : narrow ty (.int x) = .int x) (hfit : fits ty (.int x) = true) (hd : decode cc pc = .ok (.putfield index, 3))
    (kk : V X p l e R s m args below meth c nL cells slots Q (zU g (1000 * (k + 1) + t) i 0 x) (pc + 3) L st) : V X p l e R s m args below meth c nL cells slots Q g pc L (.inl x :: .inr (.inl (t, i)) :: st) := by
  intro H locs ls hP hS h
  have he := zW_get X g hq
  simp only [zC, hk] at he
  subst hty1
  refine va_put (tys := zT X) (index := index) (v := .int x) C.1 C.2.1 (fun w hw => C.2.2.2.2.1 w hw) hin ty0 hty hnm C.2.2.2.1 C.2.2.2.2.2.1.1 hP (zW_D X g) hS (zcds.idxOf (t, i)) he hc k hkN (C.2.2.2.2.1 _ hlink) (fun _ h9 => h9) hfin (hty k hkN) hn hfit ?_ hd (fun H1 locs1 hP1 _ hS1 => kk H1 locs1 ls ?_ hS1 h)
  · rw [List.length_mapIdx]; exact (List.getElem?_eq_some_iff.mp hf).1
  · rw [← zW_setO X hq hk hf x]; exact hP1
theorem v_putN (C : Cx X p R s m args meth c cc nL own cells slots) {t i ci N k index : Nat} {host : String} {fs : List (Option (Nat → Nat × Nat))} {Cn : String} {T : u_T} {ty : FieldType} (ty0 : Nat → FieldType) (hty : ∀ k, k < N → parseFieldDescriptor (T k).2.2.1 = some (ty0 k)) (hnm : ∀ a, a < N → ∀ b, b < N → a ≠ b → (T a).2.1 ≠ (T b).2.1) (hq : (t, i) ∈ zcds) (hk : zK t = .inl (ci, fs)) (hc : zcl[ci]? = some (Cn, T, N)) (hin : ∀ w ∈ u_ws Cn T N, w ∈ zall) (hkN : k < N) (hf : fs[k]? = some none) (hlink : (own, index, (T k).1, (T k).2.1, (T k).2.2.1, host) ∈ znF) (hfin : (T k).2.2.2 = false) (hty1 : ty0 k = ty) {x : Int32} (hn : narrow ty (.int x) = .int x) (hfit : fits ty (.int x) = true) (hd : decode cc pc = .ok (.putfield index, 3))
    (kk : V X p l e R s m args below meth c nL cells slots Q (zU g (1000 * (k + 1) + t) i 0 x) (pc + 3) L st) : V X p l e R s m args below meth c nL cells slots Q g pc L (.inl x :: .inr (.inl (t, i)) :: st) := by
  intro H locs ls hP hS h
  have he := zW_get X g hq
  simp only [zC, hk] at he
  subst hty1
  refine va_putN (tys := zT X) (index := index) (host := host) (v := .int x) C.1 C.2.1 (fun w hw => C.2.2.2.2.1 w hw) hin ty0 hty hnm C.2.2.2.1 C.2.2.2.2.2.1.1 hP (zW_D X g) hS (zcds.idxOf (t, i)) he hc k hkN (va_Nw.use rfl (C.2.2.2.2.2.1.2.1 _ hlink)) (fun _ h9 => h9) hfin (hty k hkN) hn hfit ?_ hd (fun H1 locs1 hP1 _ hS1 => kk H1 locs1 ls ?_ hS1 h)
  · rw [List.length_mapIdx]; exact (List.getElem?_eq_some_iff.mp hf).1
  · rw [← zW_setO X hq hk hf x]; exact hP1
theorem v_iald (C : Cx X p R s m args meth c cc nL own cells slots) {t i n : Nat} {j : Int32} (hq : (t, i) ∈ zcds) (hk : zK t = .inr (.inl (0, n))) (hj : zin j n = true) (hd : decode cc pc = .ok (.iaload, 1)) (kk : V X p l e R s m args below meth c nL cells slots Q g (pc + 1) L (.inl (g t i j.toNatClampNeg) :: st)) : V X p l e R s m args below meth c nL cells slots Q g pc L (.inl j :: .inr (.inl (t, i)) :: st) := by
  intro H locs ls hP hS h
  have he := zW_get X g hq
  simp only [zC, hk] at he
  rw [if_neg (by decide)] at he
  exact va_iald (tys := zT X) C.1 C.2.1 C.2.2.2.2.2.1.1 hP (zcds.idxOf (t, i)) 0 he rfl (zin_vp hj) hd (kk H locs ls hP hS h)
theorem v_zald (C : Cx X p R s m args meth c cc nL own cells slots) {t i n : Nat} {j : Int32} (hq : (t, i) ∈ zcds) (hk : zK t = .inr (.inl (1, n))) (hj : zin j n = true) (hd : decode cc pc = .ok (.baload, 1)) (kk : V X p l e R s m args below meth c nL cells slots Q g (pc + 1) L (.inl (g t i j.toNatClampNeg) :: st)) : V X p l e R s m args below meth c nL cells slots Q g pc L (.inl j :: .inr (.inl (t, i)) :: st) := by
  intro H locs ls hP hS h
  have he := zW_get X g hq
  simp only [zC, hk] at he
  rw [if_neg (by decide)] at he
  exact va_zald (tys := zT X) C.1 C.2.1 C.2.2.2.2.2.1.1 hP (zcds.idxOf (t, i)) 1 he rfl (zin_vp hj) hd (kk H locs ls hP hS h)
theorem v_aald (C : Cx X p R s m args meth c cc nL own cells slots) {t i n : Nat} {nm : String} {r : Nat → Nat → Nat × Nat} (k : Nat) {j : Int32} (hq : (t, i) ∈ zcds) (hk : zK t = .inr (.inr (k, n, r))) (ht : (zT X)[k]? = some (X.2.1 k, .object nm)) (hj : zin j n = true) (hd : decode cc pc = .ok (.aaload, 1)) (kk : V X p l e R s m args below meth c nL cells slots Q g (pc + 1) L (.inr (.inl (r i j.toNatClampNeg)) :: st)) : V X p l e R s m args below meth c nL cells slots Q g pc L (.inl j :: .inr (.inl (t, i)) :: st) := by
  intro H locs ls hP hS h
  have he := zW_get X g hq
  simp only [zC, hk] at he
  exact va_aldq (tys := zT X) C.1 C.2.1 C.2.2.2.2.2.1.1 hP (zcds.idxOf (t, i)) k he ht (zin_vp hj) hd (kk H locs ls hP hS h)
theorem v_iast (C : Cx X p R s m args meth c cc nL own cells slots) {t i n : Nat} {j x : Int32} (hq : (t, i) ∈ zcds) (hk : zK t = .inr (.inl (0, n))) (hj : zin j n = true) (hd : decode cc pc = .ok (.iastore, 1)) (kk : V X p l e R s m args below meth c nL cells slots Q (zU g t i j.toNatClampNeg x) (pc + 1) L st) : V X p l e R s m args below meth c nL cells slots Q g pc L (.inl x :: .inl j :: .inr (.inl (t, i)) :: st) := by
  intro H locs ls hP hS h
  have he := zW_get X g hq
  simp only [zC, hk] at he
  rw [if_neg (by decide)] at he
  refine va_iast (tys := zT X) C.1 C.2.1 C.2.2.2.2.2.1.1 hP (zW_D X g) hS (zcds.idxOf (t, i)) 0 he rfl (zin_vp hj) hd (fun H1 locs1 hP1 _ hS1 => kk H1 locs1 ls ?_ hS1 h)
  rw [← zUA_upd, ← zW_setA X hq hk (by decide)]
  exact hP1
theorem v_zast (C : Cx X p R s m args meth c cc nL own cells slots) {t i n : Nat} {j x y : Int32} (hq : (t, i) ∈ zcds) (hk : zK t = .inr (.inl (1, n))) (hj : zin j n = true) (hy : vp_nar .boolean x = y) (hd : decode cc pc = .ok (.bastore, 1)) (kk : V X p l e R s m args below meth c nL cells slots Q (zU g t i j.toNatClampNeg y) (pc + 1) L st) : V X p l e R s m args below meth c nL cells slots Q g pc L (.inl x :: .inl j :: .inr (.inl (t, i)) :: st) := by
  intro H locs ls hP hS h
  have he := zW_get X g hq
  simp only [zC, hk] at he
  rw [if_neg (by decide)] at he
  refine va_zast (tys := zT X) C.1 C.2.1 C.2.2.2.2.2.1.1 hP (zW_D X g) hS (zcds.idxOf (t, i)) 1 he rfl (zin_vp hj) hd (fun H1 locs1 hP1 _ hS1 => kk H1 locs1 ls ?_ hS1 h)
  subst hy
  rw [← zUA_upd, ← zW_setA X hq hk (by decide)]
  exact hP1
theorem v_alen (C : Cx X p R s m args meth c cc nL own cells slots) {t i j n : Nat} (hq : (t, i) ∈ zcds) (hk : zK t = .inr (.inl (j, n))) (hj : j < 4) (hd : decode cc pc = .ok (.arraylength, 1)) (x : Int32) (hx : Int32.ofNat n = x) (kk : V X p l e R s m args below meth c nL cells slots Q g (pc + 1) L (.inl x :: st)) : V X p l e R s m args below meth c nL cells slots Q g pc L (.inr (.inl (t, i)) :: st) := by
  intro H locs ls hP hS h
  have he := zW_get X g hq
  simp only [zC, hk] at he
  rw [if_neg (by omega)] at he
  have ht : ∃ ty, (zT X)[j]? = some (X.2.1 j, ty) := by
    match j, hj with
    | 0, _ => exact ⟨_, rfl⟩
    | 1, _ => exact ⟨_, rfl⟩
    | 2, _ => exact ⟨_, rfl⟩
    | 3, _ => exact ⟨_, rfl⟩
  obtain ⟨ty, ht⟩ := ht
  exact va_alen (tys := zT X) C.1 C.2.1 C.2.2.2.2.2.1.1 hP (zcds.idxOf (t, i)) j he ht hx hd (kk H locs ls hP hS h)
/-- a whole copy of one array onto the other, from 0 -/
def zcp (g : zG) (t i t' i' n : Nat) : zG := zUA g t i (fun k => if k < n then g t' i' k else g t i k)
end ZV
end
section
section ZV2
variable {X : zX} {p : Program} {l : Launch} {e : Env} {R : Room} {s : State} {m : MethodId} {args : Array Value} {below : List Frame} {meth : Method} {c : Code} {cc : ByteArray} {nL : Nat} {own : String} {cells slots : Nat} {Q : State → Prop}
variable {g : zG} {pc : Nat} {L L' : List (Option zV)} {st : List zV}
theorem zgood {y : MethodName} {b : ByteArray} {n : Nat} {r : Option FieldType} (h : Cond.code y b n r ∈ zall) : GoodIn zall (zws y b n r) := by
  intro w hw
  rcases List.mem_cons.mp hw with rfl | hw
  · exact ⟨h, good_of_word (List.mem_filter.mp h).2⟩
  · exact ⟨hw, good_of_word (List.mem_filter.mp hw).2⟩
/-- the words that a call of a method takes -/
def zMW (y : MethodName) (bytes : ByteArray) (maxL : Nat) (ret : Option FieldType) (n : Nat) : Prop :=
  Cond.code y bytes maxL ret ∈ zall ∧ Cond.initialized y.cls ∈ zall ∧ (y.cls ≠ "java/lang/invoke/MethodHandle" ∧ y.cls ≠ "java/lang/invoke/VarHandle" ∧ (parseMethodDescriptor y.desc).map (fun d => d.parameters.length) = some n)
def zMI (y : MethodName) : Prop := Cond.instanceMethod y ∈ zall ∧ Cond.selects y.cls y y ∈ zall
theorem zRS {X : zX} {g : zG} {H : Heap} {locs : List Loc} {av : List Value} (hSt : zS X s s.heap) (hP : va_P X.1 zcl (zW X g) H) (hS : va_S (zF X) s.heap H locs) : ∀ U : State, U.heap = H → s.WarmedH U.vm → va_Pc av (zR X g) av.toArray U :=
  fun U hU hW => ⟨rfl, by rw [hU]; exact hP, by rw [hU]; exact zS_warm hSt hW (fun a h1 h2 => hS.2.1 a h1 h2)⟩
theorem zblind {X : zX} {g : zG} {av : List Value} : FrameBlind (va_Pc av (zR X g)) :=
  fun a U gg mk h => ⟨h.1, h.2.1, zS_vm (u := U) (U := U.calling gg mk a) h.2.2 rfl⟩
theorem z_call {g' : zG} {v : Option Value} {ls : Array Slot} {st0 rest : List Value} {a : Array Value} {H : Heap} {locs : List Loc} (hr : va_Run p l e R s m args below meth c H locs cells slots 0 0 (F0 m pc ls st0) rest (zQ X v g' a) (zF X)) (hS : va_S (zF X) s.heap H locs)
    (kk : ∀ (H1 : Heap) (locs1 : List Loc), va_P X.1 zcl (zW X g') H1 → va_S (zF X) s.heap H1 locs1 → W p l e R s m args below meth c H1 locs1 cells slots Q (F0 m (pc + 3) ls (v.toList ++ rest))) : W p l e R s m args below meth c H locs cells slots Q (F0 m pc ls st0) := by
  intro T hT Y
  obtain ⟨v', st₀, t, T', L, h0, X', hL, e1, e2, ⟨hv, hP1, hz, hk⟩, stp⟩ := hr T hT Y
  cases hv
  rw [h0] at hz hk
  obtain ⟨t2, a1, b1⟩ := kk T'.heap (locs ++ L) (by rw [e1]; exact hP1)
    ⟨Nat.le_trans hS.1 (by rw [e1]; exact hz), fun q h1 h2 => by rw [e1, hk q (Nat.lt_of_lt_of_le h1 hS.1) h2]; exact hS.2.1 q h1 h2, fun q hq => by
      rcases List.mem_append.mp hq with h | h
      · exact hS.2.2 q h
      · exact hL q h⟩ T' rfl X'
  exact ⟨t2, stp t2 a1, b1⟩
theorem zfix (C : Cx X p R s m args meth c cc nL own cells slots) : CallFix p m c cc nL s args zall own := ⟨C.1, C.2.1, C.2.2.1, C.2.2.2.1, C.2.2.2.2.1⟩
theorem zcat (X : zX) : ∀ (st : List zV), ((st.map (zM X)).map fun v => v.category).sum ≤ 2 * st.length := by
  intro st
  induction st with
  | nil => simp
  | cons a st ih =>
    simp only [List.map_cons, List.sum_cons, List.length_cons]
    have : (zM X a).category ≤ 2 := by rcases a with x | q | y <;> simp [zM, Value.category]
    omega
theorem v_callV (C : Cx X p R s m args meth c cc nL own cells slots) {y : MethodName} {bytes : ByteArray} {maxL n d index : Nat} {ret : Option FieldType} {t i ci N : Nat} {fs : List (Option (Nat → Nat × Nat))} {T : u_T} {as rest : List zV} {rv : Option zV} {g' : zG} (hM : MC X y bytes maxL ret d (.inr (.inl (t, i)) :: as) rv g g') (hw : zMW y bytes maxL ret n) (hi : zMI y) (hl : Cond.methodLink own index y ∈ zall) (hq : (t, i) ∈ zcds) (hk : zK t = .inl (ci, fs)) (hc : zcl[ci]? = some (y.cls, T, N)) (hR : d + 1 ≤ R.frames ∧ 8 + (maxL + 11) + 36 * d ≤ R.locals) (hn : as.length = n) (hrest : rest.length ≤ 4) (hd : decode cc pc = .ok (.invokevirtual index, 3)) (hst : st = as.reverse ++ .inr (.inl (t, i)) :: rest) (kk : V X p l e R s m args below meth c nL cells slots Q g' (pc + 3) L (rv.toList ++ rest)) : V X p l e R s m args below meth c nL cells slots Q g pc L st := by
  subst hst
  intro H locs ls hP hS h
  have hsz : ls.size = nL := h.1
  have he := zW_get X g hq
  simp only [zC, hk] at he
  have hrec := va_recv (tys := zT X) C.2.2.2.2.2.1.1 hP hc he
  have hcr := zcat X rest
  have hmap : (rv.toList ++ rest).map (zM X) = (rv.map (zM X)).toList ++ rest.map (zM X) := by cases rv <;> rfl
  refine z_call (v := rv.map (zM X)) (g' := g') (rest := rest.map (zM X)) (a := ((.inr (.inl (t, i)) :: as).map (zM X)).toArray) ?_ hS (fun H1 locs1 hP1 hS1 => by have k9 := kk H1 locs1 ls hP1 hS1 h; rw [hmap] at k9; exact k9)
  refine va_runV (As := as.map (zM X)) (zfix C) (hM l) (⟨callB_of n C.2.2.2.2.1 (zgood hw.1) rfl rfl rfl (C.2.2.2.2.1 _ hw.2.1) (C.2.2.2.2.1 _ hl) hw.2.2 hR, C.2.2.2.2.1 _ hi.1, C.2.2.2.2.1 _ hi.2⟩) ⟨zblind, hrec, zRS C.2.2.2.2.2.1 hP hS⟩ rfl (by rw [List.length_map]; exact hn) hsz ?_ ?_ hd ⟨C.2.2.2.2.2.2.2.1, C.2.2.2.2.2.2.2.2⟩
  · simp [zM]
  · show 2 * 0 + _ ≤ 8
    omega
theorem v_callVN (C : Cx X p R s m args meth c cc nL own cells slots) {y : MethodName} {bytes : ByteArray} {maxL n d index : Nat} {ret : Option FieldType} {host : String} {t i ci N : Nat} {fs : List (Option (Nat → Nat × Nat))} {T : u_T} {as rest : List zV} {rv : Option zV} {g' : zG} (hM : MC X y bytes maxL ret d (.inr (.inl (t, i)) :: as) rv g g') (hw : zMW y bytes maxL ret n) (hi : zMI y) (hl : (own, index, y, host) ∈ znM) (hq : (t, i) ∈ zcds) (hk : zK t = .inl (ci, fs)) (hc : zcl[ci]? = some (y.cls, T, N)) (hR : d + 1 ≤ R.frames ∧ 8 + (maxL + 11) + 36 * d ≤ R.locals) (hn : as.length = n) (hrest : rest.length ≤ 4) (hd : decode cc pc = .ok (.invokevirtual index, 3)) (hst : st = as.reverse ++ .inr (.inl (t, i)) :: rest) (kk : V X p l e R s m args below meth c nL cells slots Q g' (pc + 3) L (rv.toList ++ rest)) : V X p l e R s m args below meth c nL cells slots Q g pc L st := by
  subst hst
  intro H locs ls hP hS h
  have hsz : ls.size = nL := h.1
  have he := zW_get X g hq
  simp only [zC, hk] at he
  have hrec := va_recv (tys := zT X) C.2.2.2.2.2.1.1 hP hc he
  have hcr := zcat X rest
  have hmap : (rv.toList ++ rest).map (zM X) = (rv.map (zM X)).toList ++ rest.map (zM X) := by cases rv <;> rfl
  refine z_call (v := rv.map (zM X)) (g' := g') (rest := rest.map (zM X)) (a := ((.inr (.inl (t, i)) :: as).map (zM X)).toArray) ?_ hS (fun H1 locs1 hP1 hS1 => by have k9 := kk H1 locs1 ls hP1 hS1 h; rw [hmap] at k9; exact k9)
  refine va_runVN (As := as.map (zM X)) (zfix C) (hM l) (⟨va_cnB n C.2.2.2.2.1 (zgood hw.1) rfl rfl rfl (C.2.2.2.2.2.1.2.2.1 _ hl) (C.2.2.2.2.1 _ hw.2.1) hw.2.2 hR, C.2.2.2.2.1 _ hi.1, C.2.2.2.2.1 _ hi.2⟩) ⟨zblind, hrec, zRS C.2.2.2.2.2.1 hP hS⟩ rfl (by rw [List.length_map]; exact hn) hsz ?_ ?_ hd ⟨C.2.2.2.2.2.2.2.1, C.2.2.2.2.2.2.2.2⟩
  · simp [zM]
  · show 2 * 0 + _ ≤ 8
    omega
theorem v_callS (C : Cx X p R s m args meth c cc nL own cells slots) {y : MethodName} {bytes : ByteArray} {maxL n d index : Nat} {ret : Option FieldType} {as rest : List zV} {rv : Option zV} {g' : zG} (hM : MC X y bytes maxL ret d (as) rv g g') (hw : zMW y bytes maxL ret n) (hi : Cond.static y ∈ zall) (hl : Cond.methodLink own index y ∈ zall) (hR : d + 1 ≤ R.frames ∧ 8 + (maxL + 11) + 36 * d ≤ R.locals) (hn : as.length = n) (hrest : rest.length ≤ 4) (hd : decode cc pc = .ok (.invokestatic index, 3)) (hst : st = as.reverse ++ rest) (kk : V X p l e R s m args below meth c nL cells slots Q g' (pc + 3) L (rv.toList ++ rest)) : V X p l e R s m args below meth c nL cells slots Q g pc L st := by
  subst hst
  intro H locs ls hP hS h
  have hsz : ls.size = nL := h.1
  have hcr := zcat X rest
  have hmap : (rv.toList ++ rest).map (zM X) = (rv.map (zM X)).toList ++ rest.map (zM X) := by cases rv <;> rfl
  refine z_call (v := rv.map (zM X)) (g' := g') (rest := rest.map (zM X)) (a := ((as).map (zM X)).toArray) ?_ hS (fun H1 locs1 hP1 hS1 => by have k9 := kk H1 locs1 ls hP1 hS1 h; rw [hmap] at k9; exact k9)
  refine va_runS (As := as.map (zM X)) (zfix C) (hM l) (⟨callB_of n C.2.2.2.2.1 (zgood hw.1) rfl rfl rfl (C.2.2.2.2.1 _ hw.2.1) (C.2.2.2.2.1 _ hl) hw.2.2 hR, C.2.2.2.2.1 _ hi⟩) ⟨zblind, zRS C.2.2.2.2.2.1 hP hS⟩ rfl (by rw [List.length_map]; exact hn) hsz ?_ ?_ hd ⟨C.2.2.2.2.2.2.2.1, C.2.2.2.2.2.2.2.2⟩
  · simp [zM]
  · show 2 * 0 + _ ≤ 8
    omega
theorem v_copy (C : Cx X p R s m args meth c cc nL own cells slots) {t i t' i' n n1 n2 index : Nat} (hq : (t, i) ∈ zcds) (hk : zK t = .inr (.inl (0, n1))) (hq' : (t', i') ∈ zcds) (hk' : zK t' = .inr (.inl (0, n2))) {x : Int32} (hx : x.toNatClampNeg = n) (hx0 : ¬ x < 0) (h1 : n ≤ n1) (h2 : n ≤ n2)
    (hl : Cond.methodLink own index arraycopyName ∈ zall) (hnat : Cond.native arraycopyName ∈ zall) (hstt : Cond.static arraycopyName ∈ zall) (hini : Cond.initialized "java/lang/System" ∈ zall) (hR : 1 ≤ R.frames ∧ 2 * st.length + (nativeFrameWords "java/lang/System" "arraycopy" 5 + 11) ≤ R.locals) (hd : decode cc pc = .ok (.invokestatic index, 3))
    (kk : V X p l e R s m args below meth c nL cells slots Q (zcp g t i t' i' n) (pc + 3) L st) : V X p l e R s m args below meth c nL cells slots Q g pc L (.inl x :: .inl 0 :: .inr (.inl (t, i)) :: .inl 0 :: .inr (.inl (t', i')) :: st) := by
  intro H locs ls hP hS h
  have he := zW_get X g hq
  simp only [zC, hk] at he
  rw [if_neg (by decide)] at he
  have he' := zW_get X g hq'
  simp only [zC, hk'] at he'
  rw [if_neg (by decide)] at he'
  have hcr := zcat X st
  subst hx
  refine va_copyi (tys := zT X) (ty := .int) C.1 C.2.1 (C.2.2.1.trans h.1.symm) C.2.2.2.1 (C.2.2.2.2.1 _ hl) (C.2.2.2.2.1 _ hnat) (C.2.2.2.2.1 _ hstt) (C.2.2.2.2.1 _ hini) C.2.2.2.2.2.1.1 hP (zW_D X g) hS (zcds.idxOf (t', i')) (zcds.idxOf (t, i)) 0 0 he' he rfl rfl rfl (by decide) (by decide) hx0 ?_ ?_ (fun _ _ => rfl) hR.1 (by omega) hd (fun H1 locs1 hP1 _ hS1 => kk H1 locs1 ls ?_ hS1 h)
  · show (0 : Int32).toNatClampNeg + _ ≤ _; rw [show (0 : Int32).toNatClampNeg = 0 from rfl]; omega
  · show (0 : Int32).toNatClampNeg + _ ≤ _; rw [show (0 : Int32).toNatClampNeg = 0 from rfl]; omega
  · rw [zW_setA X hq hk (by decide)] at hP1
    have : (va_cpy (g t' i') (g t i) (0 : Int32).toNatClampNeg (0 : Int32).toNatClampNeg x.toNatClampNeg) = fun k => if k < x.toNatClampNeg then g t' i' k else g t i k := by
      funext k
      simp [va_cpy, show (0 : Int32).toNatClampNeg = 0 from rfl]
    rw [this] at hP1
    exact hP1
/-! ends -/
theorem v_iret (C : Cx X p R s m args meth c cc nL own cells slots) {x : Int32} {res : Int32 × zG} (hr : meth.sig.returnType = some .int) (hd : decode cc pc = .ok (.ireturn, 1)) (hM : some (x, g) = some res) : V X p l e R s m args below meth c nL 0 0 (MQ below (zQ X (Option.map (zM X) (some (.inl res.1))) res.2) args s 0 0 (zF X)) g pc L [.inl x] := by
  cases hM
  intro H locs ls hP hS h
  exact W.iret C.1 C.2.1 hr (fun t ht hW => ⟨rfl, by rw [ht]; exact hP, hS.F ht⟩) hS.2.2 hd C.2.2.2.2.2.2.1
theorem v_zret (C : Cx X p R s m args meth c cc nL own cells slots) {x : Int32} {res : Int32 × zG} {ty : FieldType} (hr : meth.sig.returnType = some ty) (hn : narrow ty (.int x) = .int x) (hd : decode cc pc = .ok (.ireturn, 1)) (hM : some (x, g) = some res) : V X p l e R s m args below meth c nL 0 0 (MQ below (zQ X (Option.map (zM X) (some (.inl res.1))) res.2) args s 0 0 (zF X)) g pc L [.inl x] := by
  cases hM
  intro H locs ls hP hS h
  exact W.zret C.1 C.2.1 hr hn (fun t ht hW => ⟨rfl, by rw [ht]; exact hP, hS.F ht⟩) hS.2.2 hd C.2.2.2.2.2.2.1
theorem v_vret (C : Cx X p R s m args meth c cc nL own cells slots) {x : Int32} {res : Int32 × zG} (hr : meth.sig.returnType = none) (hd : decode cc pc = .ok (.return_, 1)) (hM : some (x, g) = some res) : V X p l e R s m args below meth c nL 0 0 (MQ below (zQ X (Option.map (zM X) none) res.2) args s 0 0 (zF X)) g pc L [] := by
  cases hM
  intro H locs ls hP hS h
  exact W.vret C.1 C.2.1 hr (fun t ht hW => ⟨rfl, by rw [ht]; exact hP, hS.F ht⟩) hS.2.2 hd C.2.2.2.2.2.2.1
end ZV2
theorem zE_args (X : zX) : ∀ (as : List zV) (k n : Nat), (∀ v ∈ as, ∀ y, v ≠ .inr (.inr y)) → zE X k (as.map some ++ List.replicate n none) = lv_args k (as.map (zM X)) := by
  intro as
  induction as with
  | nil =>
    intro k n _
    show zE X k (List.replicate n none) = []
    induction n generalizing k with
    | zero => rfl
    | succ n ih => rw [List.replicate_succ]; exact ih (k + 1)
  | cons a as ih =>
    intro k n h
    have h1 := ih (k + 1) n (fun v hv => h v (List.mem_cons_of_mem _ hv))
    rcases a with x | q | y
    · exact congrArg (List.cons (k, Value.int x)) h1
    · exact congrArg (List.cons (k, Value.ref (zA X q))) h1
    · exact absurd rfl (h _ List.mem_cons_self y)
theorem zsl (X : zX) : ∀ (as : List zV), (∀ v ∈ as, ∀ y, v ≠ .inr (.inr y)) → (lg_sl (as.map (zM X))).length = as.length := by
  intro as
  induction as with
  | nil => intro _; rfl
  | cons a as ih =>
    intro h
    have h1 := ih (fun v hv => h v (List.mem_cons_of_mem _ hv))
    rcases a with x | q | y
    · simp [lg_sl, zM, Value.category] at h1 ⊢; exact h1
    · simp [lg_sl, zM, Value.category] at h1 ⊢; exact h1
    · exact absurd rfl (h _ List.mem_cons_self y)
/-- a contract out of a walk -/
theorem MC.of {X : zX} {y : MethodName} {bytes : ByteArray} {maxL : Nat} {ret : Option FieldType} {d : Nat} {as : List zV} {rv : Option zV} {g g' : zG} {own : String} (hy : plainName y.cls = true) (hown : y.cls = own) (has : ∀ v ∈ as, ∀ y, v ≠ .inr (.inr y)) (hlen : as.length ≤ maxL) {L : List (Option zV)} (hL : as.map some ++ List.replicate (maxL - as.length) none = L)
    (body : ∀ p l e s m args below meth c, Cx X p (zrm d) s m args meth c bytes maxL own 0 0 → meth.sig.returnType = ret → V X p l e (zrm d) s m args below meth c maxL 0 0 (MQ below (zQ X (rv.map (zM X)) g') args s 0 0 (zF X)) g 0 L []) : MC X y bytes maxL ret d as rv g g' := by
  subst hL
  subst hown
  intro l
  refine Met.ofW (cc := bytes) (maxL := maxL) (ret := ret) hy rfl ?_
  intro p e s m args below meth c s₁ B hml hv
  obtain ⟨rfl, hP, hSt⟩ := hv
  have hts := atoms_spec (ws := zws y bytes maxL ret) B.pre
  have hown : s.vm.findClass y.cls = some m.cls := findClass_of_methodNamed B.named
  have hb := body p l e s m (as.map (zM X)).toArray below meth c ⟨B.exec, B.bytes, hml, hown, fun w hw => hts w (List.mem_cons_of_mem _ hw), hSt, B.notSynchronized, Nat.zero_le _, Nat.zero_le _⟩ B.returns
  have hl := lv_entry (as.map (zM X)) (n := maxL) (by rw [zsl X as has]; exact hlen)
  rw [lg_entry_eq]
  rw [← zE_args X as 0 (maxL - as.length) has] at hl
  exact hb s.heap [] _ hP va_S.rf hl
end
