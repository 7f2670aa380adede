section
-- ===== PART A: goes FIRST, ahead of the names: the tables' words, and 'selects' of the private methods out of them =====
/-- a private method of a class that the tables say can be made, by its rows of tables_1 -/
def lw_okq (q : MethodName × Nat) : Prop := (q.1.cls ≠ "java/lang/invoke/MethodHandle" ∧ q.1.cls ≠ "java/lang/invoke/VarHandle") ∧ Cond.instantiable q.1.cls q.2 ∈ tables_1 ∧ Cond.privateMethod q.1 ∈ tables_1 ∧ Cond.instanceMethod q.1 ∈ tables_1
theorem lw_p0 : lw_okq (⟨"TriedLines", "putBytes", "(I)V"⟩, 13) := ⟨⟨by decide +kernel, by decide +kernel⟩, List.mem_of_getElem? (i := 20) (by decide +kernel), List.mem_of_getElem? (i := 352) (by decide +kernel), List.mem_of_getElem? (i := 353) (by decide +kernel)⟩
theorem lw_p1 : lw_okq (⟨"TriedLines", "refuse", "(I)I"⟩, 13) := ⟨⟨by decide +kernel, by decide +kernel⟩, List.mem_of_getElem? (i := 20) (by decide +kernel), List.mem_of_getElem? (i := 363) (by decide +kernel), List.mem_of_getElem? (i := 364) (by decide +kernel)⟩
theorem lw_p2 : lw_okq (⟨"TriedLines$TextReader", "readText", "(I)Z"⟩, 11) := ⟨⟨by decide +kernel, by decide +kernel⟩, List.mem_of_getElem? (i := 100) (by decide +kernel), List.mem_of_getElem? (i := 367) (by decide +kernel), List.mem_of_getElem? (i := 368) (by decide +kernel)⟩
theorem lw_p3 : lw_okq (⟨"TriedLines$Plan", "clear", "()V"⟩, 13) := ⟨⟨by decide +kernel, by decide +kernel⟩, List.mem_of_getElem? (i := 28) (by decide +kernel), List.mem_of_getElem? (i := 371) (by decide +kernel), List.mem_of_getElem? (i := 372) (by decide +kernel)⟩
theorem lw_p4 : lw_okq (⟨"TriedLines$TextReader", "advance", "()V"⟩, 11) := ⟨⟨by decide +kernel, by decide +kernel⟩, List.mem_of_getElem? (i := 100) (by decide +kernel), List.mem_of_getElem? (i := 381) (by decide +kernel), List.mem_of_getElem? (i := 382) (by decide +kernel)⟩
theorem lw_p5 : lw_okq (⟨"TriedLines$TextReader", "readLine", "()Z"⟩, 11) := ⟨⟨by decide +kernel, by decide +kernel⟩, List.mem_of_getElem? (i := 100) (by decide +kernel), List.mem_of_getElem? (i := 388) (by decide +kernel), List.mem_of_getElem? (i := 389) (by decide +kernel)⟩
theorem lw_p6 : lw_okq (⟨"TriedLines$TextReader", "sortHere", "()I"⟩, 11) := ⟨⟨by decide +kernel, by decide +kernel⟩, List.mem_of_getElem? (i := 100) (by decide +kernel), List.mem_of_getElem? (i := 392) (by decide +kernel), List.mem_of_getElem? (i := 393) (by decide +kernel)⟩
theorem lw_p7 : lw_okq (⟨"TriedLines$TextReader", "isName", "(Ljava/lang/String;)Z"⟩, 11) := ⟨⟨by decide +kernel, by decide +kernel⟩, List.mem_of_getElem? (i := 100) (by decide +kernel), List.mem_of_getElem? (i := 397) (by decide +kernel), List.mem_of_getElem? (i := 398) (by decide +kernel)⟩
theorem lw_p8 : lw_okq (⟨"TriedLines$TextReader", "fail", "(II)Z"⟩, 11) := ⟨⟨by decide +kernel, by decide +kernel⟩, List.mem_of_getElem? (i := 100) (by decide +kernel), List.mem_of_getElem? (i := 458) (by decide +kernel), List.mem_of_getElem? (i := 459) (by decide +kernel)⟩
theorem lw_p9 : lw_okq (⟨"TriedLines$TextReader", "readMachine", "()Z"⟩, 11) := ⟨⟨by decide +kernel, by decide +kernel⟩, List.mem_of_getElem? (i := 100) (by decide +kernel), List.mem_of_getElem? (i := 462) (by decide +kernel), List.mem_of_getElem? (i := 463) (by decide +kernel)⟩
theorem lw_p10 : lw_okq (⟨"TriedLines$TextReader", "takeSetting", "(Ljava/lang/String;IZ)I"⟩, 11) := ⟨⟨by decide +kernel, by decide +kernel⟩, List.mem_of_getElem? (i := 100) (by decide +kernel), List.mem_of_getElem? (i := 467) (by decide +kernel), List.mem_of_getElem? (i := 468) (by decide +kernel)⟩
theorem lw_p11 : lw_okq (⟨"TriedLines$TextReader", "takeName", "(Ljava/lang/String;)Z"⟩, 11) := ⟨⟨by decide +kernel, by decide +kernel⟩, List.mem_of_getElem? (i := 100) (by decide +kernel), List.mem_of_getElem? (i := 471) (by decide +kernel), List.mem_of_getElem? (i := 472) (by decide +kernel)⟩
theorem lw_p12 : lw_okq (⟨"TriedLines$TextReader", "takeWhole", "(II)Z"⟩, 11) := ⟨⟨by decide +kernel, by decide +kernel⟩, List.mem_of_getElem? (i := 100) (by decide +kernel), List.mem_of_getElem? (i := 475) (by decide +kernel), List.mem_of_getElem? (i := 476) (by decide +kernel)⟩
theorem lw_p13 : lw_okq (⟨"TriedLines$TextReader", "readRule", "()Z"⟩, 11) := ⟨⟨by decide +kernel, by decide +kernel⟩, List.mem_of_getElem? (i := 100) (by decide +kernel), List.mem_of_getElem? (i := 482) (by decide +kernel), List.mem_of_getElem? (i := 483) (by decide +kernel)⟩
theorem lw_p14 : lw_okq (⟨"TriedLines$TextReader", "readWord", "()Z"⟩, 11) := ⟨⟨by decide +kernel, by decide +kernel⟩, List.mem_of_getElem? (i := 100) (by decide +kernel), List.mem_of_getElem? (i := 490) (by decide +kernel), List.mem_of_getElem? (i := 491) (by decide +kernel)⟩
theorem lw_p15 : lw_okq (⟨"TriedLines$Plan", "addresses", "()I"⟩, 13) := ⟨⟨by decide +kernel, by decide +kernel⟩, List.mem_of_getElem? (i := 28) (by decide +kernel), List.mem_of_getElem? (i := 494) (by decide +kernel), List.mem_of_getElem? (i := 495) (by decide +kernel)⟩
def lw_privs_1 : List (MethodName × Nat) := [(⟨"TriedLines", "putBytes", "(I)V"⟩, 13), (⟨"TriedLines", "refuse", "(I)I"⟩, 13), (⟨"TriedLines$TextReader", "readText", "(I)Z"⟩, 11), (⟨"TriedLines$Plan", "clear", "()V"⟩, 13), (⟨"TriedLines$TextReader", "advance", "()V"⟩, 11), (⟨"TriedLines$TextReader", "readLine", "()Z"⟩, 11), (⟨"TriedLines$TextReader", "sortHere", "()I"⟩, 11), (⟨"TriedLines$TextReader", "isName", "(Ljava/lang/String;)Z"⟩, 11), (⟨"TriedLines$TextReader", "fail", "(II)Z"⟩, 11), (⟨"TriedLines$TextReader", "readMachine", "()Z"⟩, 11), (⟨"TriedLines$TextReader", "takeSetting", "(Ljava/lang/String;IZ)I"⟩, 11), (⟨"TriedLines$TextReader", "takeName", "(Ljava/lang/String;)Z"⟩, 11), (⟨"TriedLines$TextReader", "takeWhole", "(II)Z"⟩, 11), (⟨"TriedLines$TextReader", "readRule", "()Z"⟩, 11), (⟨"TriedLines$TextReader", "readWord", "()Z"⟩, 11), (⟨"TriedLines$Plan", "addresses", "()I"⟩, 13)]
theorem lw_r1 : ∀ q ∈ lw_privs_1, lw_okq q := List.forall_mem_cons.mpr ⟨lw_p0, List.forall_mem_cons.mpr ⟨lw_p1, List.forall_mem_cons.mpr ⟨lw_p2, List.forall_mem_cons.mpr ⟨lw_p3, List.forall_mem_cons.mpr ⟨lw_p4, List.forall_mem_cons.mpr ⟨lw_p5, List.forall_mem_cons.mpr ⟨lw_p6, List.forall_mem_cons.mpr ⟨lw_p7, List.forall_mem_cons.mpr ⟨lw_p8, List.forall_mem_cons.mpr ⟨lw_p9, List.forall_mem_cons.mpr ⟨lw_p10, List.forall_mem_cons.mpr ⟨lw_p11, List.forall_mem_cons.mpr ⟨lw_p12, List.forall_mem_cons.mpr ⟨lw_p13, List.forall_mem_cons.mpr ⟨lw_p14, List.forall_mem_cons.mpr ⟨lw_p15, fun _ h => absurd h List.not_mem_nil⟩⟩⟩⟩⟩⟩⟩⟩⟩⟩⟩⟩⟩⟩⟩⟩
theorem lw_p16 : lw_okq (⟨"TriedLines$Plan", "hasAddress", "(I)Z"⟩, 13) := ⟨⟨by decide +kernel, by decide +kernel⟩, List.mem_of_getElem? (i := 28) (by decide +kernel), List.mem_of_getElem? (i := 498) (by decide +kernel), List.mem_of_getElem? (i := 499) (by decide +kernel)⟩
theorem lw_p17 : lw_okq (⟨"TriedLines$Plan", "addWord", "(II)V"⟩, 13) := ⟨⟨by decide +kernel, by decide +kernel⟩, List.mem_of_getElem? (i := 28) (by decide +kernel), List.mem_of_getElem? (i := 503) (by decide +kernel), List.mem_of_getElem? (i := 504) (by decide +kernel)⟩
theorem lw_p18 : lw_okq (⟨"TriedLines$TextReader", "readCore", "()Z"⟩, 11) := ⟨⟨by decide +kernel, by decide +kernel⟩, List.mem_of_getElem? (i := 100) (by decide +kernel), List.mem_of_getElem? (i := 508) (by decide +kernel), List.mem_of_getElem? (i := 509) (by decide +kernel)⟩
theorem lw_p19 : lw_okq (⟨"TriedLines$TextReader", "readDeed", "(I)Z"⟩, 11) := ⟨⟨by decide +kernel, by decide +kernel⟩, List.mem_of_getElem? (i := 100) (by decide +kernel), List.mem_of_getElem? (i := 512) (by decide +kernel), List.mem_of_getElem? (i := 513) (by decide +kernel)⟩
theorem lw_p20 : lw_okq (⟨"TriedLines$Plan", "hasCore", "(I)Z"⟩, 13) := ⟨⟨by decide +kernel, by decide +kernel⟩, List.mem_of_getElem? (i := 28) (by decide +kernel), List.mem_of_getElem? (i := 516) (by decide +kernel), List.mem_of_getElem? (i := 517) (by decide +kernel)⟩
theorem lw_p21 : lw_okq (⟨"TriedLines$TextReader", "readRest", "(I)Z"⟩, 11) := ⟨⟨by decide +kernel, by decide +kernel⟩, List.mem_of_getElem? (i := 100) (by decide +kernel), List.mem_of_getElem? (i := 520) (by decide +kernel), List.mem_of_getElem? (i := 521) (by decide +kernel)⟩
theorem lw_p22 : lw_okq (⟨"TriedLines$Plan", "addDeed", "(IIZ)V"⟩, 13) := ⟨⟨by decide +kernel, by decide +kernel⟩, List.mem_of_getElem? (i := 28) (by decide +kernel), List.mem_of_getElem? (i := 524) (by decide +kernel), List.mem_of_getElem? (i := 525) (by decide +kernel)⟩
theorem lw_p23 : lw_okq (⟨"TriedLines$TextReader", "readEnd", "()Z"⟩, 11) := ⟨⟨by decide +kernel, by decide +kernel⟩, List.mem_of_getElem? (i := 100) (by decide +kernel), List.mem_of_getElem? (i := 530) (by decide +kernel), List.mem_of_getElem? (i := 531) (by decide +kernel)⟩
theorem lw_p24 : lw_okq (⟨"TriedLines$Plan", "copyFrom", "(LTriedLines$Plan;)V"⟩, 13) := ⟨⟨by decide +kernel, by decide +kernel⟩, List.mem_of_getElem? (i := 28) (by decide +kernel), List.mem_of_getElem? (i := 534) (by decide +kernel), List.mem_of_getElem? (i := 535) (by decide +kernel)⟩
theorem lw_p25 : lw_okq (⟨"TriedLines$Run", "startOver", "(II)V"⟩, 12) := ⟨⟨by decide +kernel, by decide +kernel⟩, List.mem_of_getElem? (i := 142) (by decide +kernel), List.mem_of_getElem? (i := 541) (by decide +kernel), List.mem_of_getElem? (i := 542) (by decide +kernel)⟩
theorem lw_p26 : lw_okq (⟨"TriedLines$Cache", "clear", "()V"⟩, 7) := ⟨⟨by decide +kernel, by decide +kernel⟩, List.mem_of_getElem? (i := 151) (by decide +kernel), List.mem_of_getElem? (i := 545) (by decide +kernel), List.mem_of_getElem? (i := 546) (by decide +kernel)⟩
theorem lw_p27 : lw_okq (⟨"TriedLines$Cache", "dropLine", "(I)V"⟩, 7) := ⟨⟨by decide +kernel, by decide +kernel⟩, List.mem_of_getElem? (i := 151) (by decide +kernel), List.mem_of_getElem? (i := 549) (by decide +kernel), List.mem_of_getElem? (i := 550) (by decide +kernel)⟩
theorem lw_p28 : lw_okq (⟨"TriedLines$Core", "clear", "()V"⟩, 8) := ⟨⟨by decide +kernel, by decide +kernel⟩, List.mem_of_getElem? (i := 188) (by decide +kernel), List.mem_of_getElem? (i := 553) (by decide +kernel), List.mem_of_getElem? (i := 554) (by decide +kernel)⟩
theorem lw_p29 : lw_okq (⟨"TriedLines", "answer", "(I)I"⟩, 13) := ⟨⟨by decide +kernel, by decide +kernel⟩, List.mem_of_getElem? (i := 20) (by decide +kernel), List.mem_of_getElem? (i := 557) (by decide +kernel), List.mem_of_getElem? (i := 558) (by decide +kernel)⟩
theorem lw_p30 : lw_okq (⟨"TriedLines$Plan", "hasDeed", "(II)Z"⟩, 13) := ⟨⟨by decide +kernel, by decide +kernel⟩, List.mem_of_getElem? (i := 28) (by decide +kernel), List.mem_of_getElem? (i := 579) (by decide +kernel), List.mem_of_getElem? (i := 580) (by decide +kernel)⟩
theorem lw_p31 : lw_okq (⟨"TriedLines$Plan", "sortOf", "(II)I"⟩, 13) := ⟨⟨by decide +kernel, by decide +kernel⟩, List.mem_of_getElem? (i := 28) (by decide +kernel), List.mem_of_getElem? (i := 583) (by decide +kernel), List.mem_of_getElem? (i := 584) (by decide +kernel)⟩
def lw_privs_2 : List (MethodName × Nat) := [(⟨"TriedLines$Plan", "hasAddress", "(I)Z"⟩, 13), (⟨"TriedLines$Plan", "addWord", "(II)V"⟩, 13), (⟨"TriedLines$TextReader", "readCore", "()Z"⟩, 11), (⟨"TriedLines$TextReader", "readDeed", "(I)Z"⟩, 11), (⟨"TriedLines$Plan", "hasCore", "(I)Z"⟩, 13), (⟨"TriedLines$TextReader", "readRest", "(I)Z"⟩, 11), (⟨"TriedLines$Plan", "addDeed", "(IIZ)V"⟩, 13), (⟨"TriedLines$TextReader", "readEnd", "()Z"⟩, 11), (⟨"TriedLines$Plan", "copyFrom", "(LTriedLines$Plan;)V"⟩, 13), (⟨"TriedLines$Run", "startOver", "(II)V"⟩, 12), (⟨"TriedLines$Cache", "clear", "()V"⟩, 7), (⟨"TriedLines$Cache", "dropLine", "(I)V"⟩, 7), (⟨"TriedLines$Core", "clear", "()V"⟩, 8), (⟨"TriedLines", "answer", "(I)I"⟩, 13), (⟨"TriedLines$Plan", "hasDeed", "(II)Z"⟩, 13), (⟨"TriedLines$Plan", "sortOf", "(II)I"⟩, 13)]
theorem lw_r2 : ∀ q ∈ lw_privs_2, lw_okq q := List.forall_mem_cons.mpr ⟨lw_p16, List.forall_mem_cons.mpr ⟨lw_p17, List.forall_mem_cons.mpr ⟨lw_p18, List.forall_mem_cons.mpr ⟨lw_p19, List.forall_mem_cons.mpr ⟨lw_p20, List.forall_mem_cons.mpr ⟨lw_p21, List.forall_mem_cons.mpr ⟨lw_p22, List.forall_mem_cons.mpr ⟨lw_p23, List.forall_mem_cons.mpr ⟨lw_p24, List.forall_mem_cons.mpr ⟨lw_p25, List.forall_mem_cons.mpr ⟨lw_p26, List.forall_mem_cons.mpr ⟨lw_p27, List.forall_mem_cons.mpr ⟨lw_p28, List.forall_mem_cons.mpr ⟨lw_p29, List.forall_mem_cons.mpr ⟨lw_p30, List.forall_mem_cons.mpr ⟨lw_p31, fun _ h => absurd h List.not_mem_nil⟩⟩⟩⟩⟩⟩⟩⟩⟩⟩⟩⟩⟩⟩⟩⟩
theorem lw_p32 : lw_okq (⟨"TriedLines$Plan", "wholeOf", "(II)I"⟩, 13) := ⟨⟨by decide +kernel, by decide +kernel⟩, List.mem_of_getElem? (i := 28) (by decide +kernel), List.mem_of_getElem? (i := 588) (by decide +kernel), List.mem_of_getElem? (i := 589) (by decide +kernel)⟩
theorem lw_p33 : lw_okq (⟨"TriedLines$Plan", "isIndexed", "(II)Z"⟩, 13) := ⟨⟨by decide +kernel, by decide +kernel⟩, List.mem_of_getElem? (i := 28) (by decide +kernel), List.mem_of_getElem? (i := 592) (by decide +kernel), List.mem_of_getElem? (i := 593) (by decide +kernel)⟩
theorem lw_p34 : lw_okq (⟨"TriedLines$Run", "wordAt", "(I)I"⟩, 12) := ⟨⟨by decide +kernel, by decide +kernel⟩, List.mem_of_getElem? (i := 142) (by decide +kernel), List.mem_of_getElem? (i := 604) (by decide +kernel), List.mem_of_getElem? (i := 605) (by decide +kernel)⟩
theorem lw_p35 : lw_okq (⟨"TriedLines$Plan", "lineOf", "(I)I"⟩, 13) := ⟨⟨by decide +kernel, by decide +kernel⟩, List.mem_of_getElem? (i := 28) (by decide +kernel), List.mem_of_getElem? (i := 608) (by decide +kernel), List.mem_of_getElem? (i := 609) (by decide +kernel)⟩
theorem lw_p36 : lw_okq (⟨"TriedLines$Cache", "find", "(I)I"⟩, 7) := ⟨⟨by decide +kernel, by decide +kernel⟩, List.mem_of_getElem? (i := 151) (by decide +kernel), List.mem_of_getElem? (i := 612) (by decide +kernel), List.mem_of_getElem? (i := 613) (by decide +kernel)⟩
theorem lw_p37 : lw_okq (⟨"TriedLines$Plan", "offsetOf", "(I)I"⟩, 13) := ⟨⟨by decide +kernel, by decide +kernel⟩, List.mem_of_getElem? (i := 28) (by decide +kernel), List.mem_of_getElem? (i := 616) (by decide +kernel), List.mem_of_getElem? (i := 617) (by decide +kernel)⟩
theorem lw_p38 : lw_okq (⟨"TriedLines$Cache", "wordIn", "(II)I"⟩, 7) := ⟨⟨by decide +kernel, by decide +kernel⟩, List.mem_of_getElem? (i := 151) (by decide +kernel), List.mem_of_getElem? (i := 620) (by decide +kernel), List.mem_of_getElem? (i := 621) (by decide +kernel)⟩
theorem lw_p39 : lw_okq (⟨"TriedLines", "playCommits", "()V"⟩, 13) := ⟨⟨by decide +kernel, by decide +kernel⟩, List.mem_of_getElem? (i := 20) (by decide +kernel), List.mem_of_getElem? (i := 632) (by decide +kernel), List.mem_of_getElem? (i := 633) (by decide +kernel)⟩
theorem lw_p40 : lw_okq (⟨"TriedLines$Solo", "startOver", "()V"⟩, 6) := ⟨⟨by decide +kernel, by decide +kernel⟩, List.mem_of_getElem? (i := 281) (by decide +kernel), List.mem_of_getElem? (i := 636) (by decide +kernel), List.mem_of_getElem? (i := 637) (by decide +kernel)⟩
theorem lw_p41 : lw_okq (⟨"TriedLines$Solo", "play", "(IIZ)V"⟩, 6) := ⟨⟨by decide +kernel, by decide +kernel⟩, List.mem_of_getElem? (i := 281) (by decide +kernel), List.mem_of_getElem? (i := 641) (by decide +kernel), List.mem_of_getElem? (i := 642) (by decide +kernel)⟩
theorem lw_p42 : lw_okq (⟨"TriedLines$Solo", "playDeed", "(II)V"⟩, 6) := ⟨⟨by decide +kernel, by decide +kernel⟩, List.mem_of_getElem? (i := 281) (by decide +kernel), List.mem_of_getElem? (i := 646) (by decide +kernel), List.mem_of_getElem? (i := 647) (by decide +kernel)⟩
theorem lw_p43 : lw_okq (⟨"TriedLines$Solo", "widen", "()V"⟩, 6) := ⟨⟨by decide +kernel, by decide +kernel⟩, List.mem_of_getElem? (i := 281) (by decide +kernel), List.mem_of_getElem? (i := 653) (by decide +kernel), List.mem_of_getElem? (i := 654) (by decide +kernel)⟩
theorem lw_p44 : lw_okq (⟨"TriedLines$Plan", "setOf", "(I)I"⟩, 13) := ⟨⟨by decide +kernel, by decide +kernel⟩, List.mem_of_getElem? (i := 28) (by decide +kernel), List.mem_of_getElem? (i := 657) (by decide +kernel), List.mem_of_getElem? (i := 658) (by decide +kernel)⟩
theorem lw_p45 : lw_okq (⟨"TriedLines$Solo", "touch", "(II)I"⟩, 6) := ⟨⟨by decide +kernel, by decide +kernel⟩, List.mem_of_getElem? (i := 281) (by decide +kernel), List.mem_of_getElem? (i := 662) (by decide +kernel), List.mem_of_getElem? (i := 663) (by decide +kernel)⟩
theorem lw_p46 : lw_okq (⟨"TriedLines$Plan", "addressOf", "(III)I"⟩, 13) := ⟨⟨by decide +kernel, by decide +kernel⟩, List.mem_of_getElem? (i := 28) (by decide +kernel), List.mem_of_getElem? (i := 666) (by decide +kernel), List.mem_of_getElem? (i := 667) (by decide +kernel)⟩
theorem lw_p47 : lw_okq (⟨"TriedLines$Cache", "markedLines", "(Z)I"⟩, 7) := ⟨⟨by decide +kernel, by decide +kernel⟩, List.mem_of_getElem? (i := 151) (by decide +kernel), List.mem_of_getElem? (i := 710) (by decide +kernel), List.mem_of_getElem? (i := 711) (by decide +kernel)⟩
def lw_privs_3 : List (MethodName × Nat) := [(⟨"TriedLines$Plan", "wholeOf", "(II)I"⟩, 13), (⟨"TriedLines$Plan", "isIndexed", "(II)Z"⟩, 13), (⟨"TriedLines$Run", "wordAt", "(I)I"⟩, 12), (⟨"TriedLines$Plan", "lineOf", "(I)I"⟩, 13), (⟨"TriedLines$Cache", "find", "(I)I"⟩, 7), (⟨"TriedLines$Plan", "offsetOf", "(I)I"⟩, 13), (⟨"TriedLines$Cache", "wordIn", "(II)I"⟩, 7), (⟨"TriedLines", "playCommits", "()V"⟩, 13), (⟨"TriedLines$Solo", "startOver", "()V"⟩, 6), (⟨"TriedLines$Solo", "play", "(IIZ)V"⟩, 6), (⟨"TriedLines$Solo", "playDeed", "(II)V"⟩, 6), (⟨"TriedLines$Solo", "widen", "()V"⟩, 6), (⟨"TriedLines$Plan", "setOf", "(I)I"⟩, 13), (⟨"TriedLines$Solo", "touch", "(II)I"⟩, 6), (⟨"TriedLines$Plan", "addressOf", "(III)I"⟩, 13), (⟨"TriedLines$Cache", "markedLines", "(Z)I"⟩, 7)]
theorem lw_r3 : ∀ q ∈ lw_privs_3, lw_okq q := List.forall_mem_cons.mpr ⟨lw_p32, List.forall_mem_cons.mpr ⟨lw_p33, List.forall_mem_cons.mpr ⟨lw_p34, List.forall_mem_cons.mpr ⟨lw_p35, List.forall_mem_cons.mpr ⟨lw_p36, List.forall_mem_cons.mpr ⟨lw_p37, List.forall_mem_cons.mpr ⟨lw_p38, List.forall_mem_cons.mpr ⟨lw_p39, List.forall_mem_cons.mpr ⟨lw_p40, List.forall_mem_cons.mpr ⟨lw_p41, List.forall_mem_cons.mpr ⟨lw_p42, List.forall_mem_cons.mpr ⟨lw_p43, List.forall_mem_cons.mpr ⟨lw_p44, List.forall_mem_cons.mpr ⟨lw_p45, List.forall_mem_cons.mpr ⟨lw_p46, List.forall_mem_cons.mpr ⟨lw_p47, fun _ h => absurd h List.not_mem_nil⟩⟩⟩⟩⟩⟩⟩⟩⟩⟩⟩⟩⟩⟩⟩⟩
theorem lw_p48 : lw_okq (⟨"TriedLines$Run", "hasDeedsLeft", "(I)Z"⟩, 12) := ⟨⟨by decide +kernel, by decide +kernel⟩, List.mem_of_getElem? (i := 142) (by decide +kernel), List.mem_of_getElem? (i := 726) (by decide +kernel), List.mem_of_getElem? (i := 727) (by decide +kernel)⟩
theorem lw_p49 : lw_okq (⟨"TriedLines$Run", "lostAfter", "(II)I"⟩, 12) := ⟨⟨by decide +kernel, by decide +kernel⟩, List.mem_of_getElem? (i := 142) (by decide +kernel), List.mem_of_getElem? (i := 739) (by decide +kernel), List.mem_of_getElem? (i := 740) (by decide +kernel)⟩
theorem lw_p50 : lw_okq (⟨"TriedLines$Run", "copyFrom", "(LTriedLines$Run;)V"⟩, 12) := ⟨⟨by decide +kernel, by decide +kernel⟩, List.mem_of_getElem? (i := 142) (by decide +kernel), List.mem_of_getElem? (i := 751) (by decide +kernel), List.mem_of_getElem? (i := 752) (by decide +kernel)⟩
theorem lw_p51 : lw_okq (⟨"TriedLines$Cache", "copyFrom", "(LTriedLines$Cache;)V"⟩, 7) := ⟨⟨by decide +kernel, by decide +kernel⟩, List.mem_of_getElem? (i := 151) (by decide +kernel), List.mem_of_getElem? (i := 756) (by decide +kernel), List.mem_of_getElem? (i := 757) (by decide +kernel)⟩
theorem lw_p52 : lw_okq (⟨"TriedLines$Core", "copyFrom", "(LTriedLines$Core;)V"⟩, 8) := ⟨⟨by decide +kernel, by decide +kernel⟩, List.mem_of_getElem? (i := 188) (by decide +kernel), List.mem_of_getElem? (i := 761) (by decide +kernel), List.mem_of_getElem? (i := 762) (by decide +kernel)⟩
theorem lw_p53 : lw_okq (⟨"TriedLines$Run", "takeStep", "(I)I"⟩, 12) := ⟨⟨by decide +kernel, by decide +kernel⟩, List.mem_of_getElem? (i := 142) (by decide +kernel), List.mem_of_getElem? (i := 766) (by decide +kernel), List.mem_of_getElem? (i := 767) (by decide +kernel)⟩
theorem lw_p54 : lw_okq (⟨"TriedLines$Run", "doBegin", "(ILTriedLines$Core;)I"⟩, 12) := ⟨⟨by decide +kernel, by decide +kernel⟩, List.mem_of_getElem? (i := 142) (by decide +kernel), List.mem_of_getElem? (i := 773) (by decide +kernel), List.mem_of_getElem? (i := 774) (by decide +kernel)⟩
theorem lw_p55 : lw_okq (⟨"TriedLines$Run", "reach", "(IIZ)I"⟩, 12) := ⟨⟨by decide +kernel, by decide +kernel⟩, List.mem_of_getElem? (i := 142) (by decide +kernel), List.mem_of_getElem? (i := 777) (by decide +kernel), List.mem_of_getElem? (i := 778) (by decide +kernel)⟩
theorem lw_p56 : lw_okq (⟨"TriedLines$Run", "ask", "(IIZ)I"⟩, 12) := ⟨⟨by decide +kernel, by decide +kernel⟩, List.mem_of_getElem? (i := 142) (by decide +kernel), List.mem_of_getElem? (i := 781) (by decide +kernel), List.mem_of_getElem? (i := 782) (by decide +kernel)⟩
theorem lw_p57 : lw_okq (⟨"TriedLines$Run", "marking", "(IIZ)I"⟩, 12) := ⟨⟨by decide +kernel, by decide +kernel⟩, List.mem_of_getElem? (i := 142) (by decide +kernel), List.mem_of_getElem? (i := 785) (by decide +kernel), List.mem_of_getElem? (i := 786) (by decide +kernel)⟩
theorem lw_p58 : lw_okq (⟨"TriedLines$Run", "endTries", "(II)V"⟩, 12) := ⟨⟨by decide +kernel, by decide +kernel⟩, List.mem_of_getElem? (i := 142) (by decide +kernel), List.mem_of_getElem? (i := 789) (by decide +kernel), List.mem_of_getElem? (i := 790) (by decide +kernel)⟩
theorem lw_p59 : lw_okq (⟨"TriedLines$Cache", "unmark", "(Z)V"⟩, 7) := ⟨⟨by decide +kernel, by decide +kernel⟩, List.mem_of_getElem? (i := 151) (by decide +kernel), List.mem_of_getElem? (i := 793) (by decide +kernel), List.mem_of_getElem? (i := 794) (by decide +kernel)⟩
theorem lw_p60 : lw_okq (⟨"TriedLines$Cache", "findRoom", "(I)I"⟩, 7) := ⟨⟨by decide +kernel, by decide +kernel⟩, List.mem_of_getElem? (i := 151) (by decide +kernel), List.mem_of_getElem? (i := 798) (by decide +kernel), List.mem_of_getElem? (i := 799) (by decide +kernel)⟩
theorem lw_p61 : lw_okq (⟨"TriedLines$Run", "writeBack", "(LTriedLines$Cache;I)V"⟩, 12) := ⟨⟨by decide +kernel, by decide +kernel⟩, List.mem_of_getElem? (i := 142) (by decide +kernel), List.mem_of_getElem? (i := 803) (by decide +kernel), List.mem_of_getElem? (i := 804) (by decide +kernel)⟩
theorem lw_p62 : lw_okq (⟨"TriedLines$Run", "changeOthers", "(IIZ)Z"⟩, 12) := ⟨⟨by decide +kernel, by decide +kernel⟩, List.mem_of_getElem? (i := 142) (by decide +kernel), List.mem_of_getElem? (i := 808) (by decide +kernel), List.mem_of_getElem? (i := 809) (by decide +kernel)⟩
theorem lw_p63 : lw_okq (⟨"TriedLines$Run", "bringLine", "(LTriedLines$Cache;II)V"⟩, 12) := ⟨⟨by decide +kernel, by decide +kernel⟩, List.mem_of_getElem? (i := 142) (by decide +kernel), List.mem_of_getElem? (i := 812) (by decide +kernel), List.mem_of_getElem? (i := 813) (by decide +kernel)⟩
def lw_privs_4 : List (MethodName × Nat) := [(⟨"TriedLines$Run", "hasDeedsLeft", "(I)Z"⟩, 12), (⟨"TriedLines$Run", "lostAfter", "(II)I"⟩, 12), (⟨"TriedLines$Run", "copyFrom", "(LTriedLines$Run;)V"⟩, 12), (⟨"TriedLines$Cache", "copyFrom", "(LTriedLines$Cache;)V"⟩, 7), (⟨"TriedLines$Core", "copyFrom", "(LTriedLines$Core;)V"⟩, 8), (⟨"TriedLines$Run", "takeStep", "(I)I"⟩, 12), (⟨"TriedLines$Run", "doBegin", "(ILTriedLines$Core;)I"⟩, 12), (⟨"TriedLines$Run", "reach", "(IIZ)I"⟩, 12), (⟨"TriedLines$Run", "ask", "(IIZ)I"⟩, 12), (⟨"TriedLines$Run", "marking", "(IIZ)I"⟩, 12), (⟨"TriedLines$Run", "endTries", "(II)V"⟩, 12), (⟨"TriedLines$Cache", "unmark", "(Z)V"⟩, 7), (⟨"TriedLines$Cache", "findRoom", "(I)I"⟩, 7), (⟨"TriedLines$Run", "writeBack", "(LTriedLines$Cache;I)V"⟩, 12), (⟨"TriedLines$Run", "changeOthers", "(IIZ)Z"⟩, 12), (⟨"TriedLines$Run", "bringLine", "(LTriedLines$Cache;II)V"⟩, 12)]
theorem lw_r4 : ∀ q ∈ lw_privs_4, lw_okq q := List.forall_mem_cons.mpr ⟨lw_p48, List.forall_mem_cons.mpr ⟨lw_p49, List.forall_mem_cons.mpr ⟨lw_p50, List.forall_mem_cons.mpr ⟨lw_p51, List.forall_mem_cons.mpr ⟨lw_p52, List.forall_mem_cons.mpr ⟨lw_p53, List.forall_mem_cons.mpr ⟨lw_p54, List.forall_mem_cons.mpr ⟨lw_p55, List.forall_mem_cons.mpr ⟨lw_p56, List.forall_mem_cons.mpr ⟨lw_p57, List.forall_mem_cons.mpr ⟨lw_p58, List.forall_mem_cons.mpr ⟨lw_p59, List.forall_mem_cons.mpr ⟨lw_p60, List.forall_mem_cons.mpr ⟨lw_p61, List.forall_mem_cons.mpr ⟨lw_p62, List.forall_mem_cons.mpr ⟨lw_p63, fun _ h => absurd h List.not_mem_nil⟩⟩⟩⟩⟩⟩⟩⟩⟩⟩⟩⟩⟩⟩⟩⟩
theorem lw_p64 : lw_okq (⟨"TriedLines$Cache", "setWord", "(III)V"⟩, 7) := ⟨⟨by decide +kernel, by decide +kernel⟩, List.mem_of_getElem? (i := 151) (by decide +kernel), List.mem_of_getElem? (i := 816) (by decide +kernel), List.mem_of_getElem? (i := 817) (by decide +kernel)⟩
theorem lw_p65 : lw_okq (⟨"TriedLines$Run", "markLine", "(IIZ)V"⟩, 12) := ⟨⟨by decide +kernel, by decide +kernel⟩, List.mem_of_getElem? (i := 142) (by decide +kernel), List.mem_of_getElem? (i := 820) (by decide +kernel), List.mem_of_getElem? (i := 821) (by decide +kernel)⟩
theorem lw_p66 : lw_okq (⟨"TriedLines$Run", "doEnd", "(ILTriedLines$Core;)V"⟩, 12) := ⟨⟨by decide +kernel, by decide +kernel⟩, List.mem_of_getElem? (i := 142) (by decide +kernel), List.mem_of_getElem? (i := 824) (by decide +kernel), List.mem_of_getElem? (i := 825) (by decide +kernel)⟩
theorem lw_p67 : lw_okq (⟨"TriedLines$Run", "doGet", "(ILTriedLines$Core;)I"⟩, 12) := ⟨⟨by decide +kernel, by decide +kernel⟩, List.mem_of_getElem? (i := 142) (by decide +kernel), List.mem_of_getElem? (i := 828) (by decide +kernel), List.mem_of_getElem? (i := 829) (by decide +kernel)⟩
theorem lw_p68 : lw_okq (⟨"TriedLines$Run", "doPut", "(ILTriedLines$Core;)I"⟩, 12) := ⟨⟨by decide +kernel, by decide +kernel⟩, List.mem_of_getElem? (i := 142) (by decide +kernel), List.mem_of_getElem? (i := 833) (by decide +kernel), List.mem_of_getElem? (i := 834) (by decide +kernel)⟩
theorem lw_p69 : lw_okq (⟨"TriedLines$Run", "takeRounds", "(I)I"⟩, 12) := ⟨⟨by decide +kernel, by decide +kernel⟩, List.mem_of_getElem? (i := 142) (by decide +kernel), List.mem_of_getElem? (i := 850) (by decide +kernel), List.mem_of_getElem? (i := 851) (by decide +kernel)⟩
theorem lw_p70 : lw_okq (⟨"TriedLines$Run", "takeDraws", "(II)I"⟩, 12) := ⟨⟨by decide +kernel, by decide +kernel⟩, List.mem_of_getElem? (i := 142) (by decide +kernel), List.mem_of_getElem? (i := 863) (by decide +kernel), List.mem_of_getElem? (i := 864) (by decide +kernel)⟩
theorem lw_p71 : lw_okq (⟨"TriedLines$Run", "isAllDone", "()Z"⟩, 12) := ⟨⟨by decide +kernel, by decide +kernel⟩, List.mem_of_getElem? (i := 142) (by decide +kernel), List.mem_of_getElem? (i := 867) (by decide +kernel), List.mem_of_getElem? (i := 868) (by decide +kernel)⟩
theorem lw_p72 : lw_okq (⟨"TriedLines$Run", "countInAll", "(I)I"⟩, 12) := ⟨⟨by decide +kernel, by decide +kernel⟩, List.mem_of_getElem? (i := 142) (by decide +kernel), List.mem_of_getElem? (i := 885) (by decide +kernel), List.mem_of_getElem? (i := 886) (by decide +kernel)⟩
theorem lw_p73 : lw_okq (⟨"TriedLines$Plan", "deedsInAll", "()I"⟩, 13) := ⟨⟨by decide +kernel, by decide +kernel⟩, List.mem_of_getElem? (i := 28) (by decide +kernel), List.mem_of_getElem? (i := 913) (by decide +kernel), List.mem_of_getElem? (i := 914) (by decide +kernel)⟩
theorem lw_p74 : lw_okq (⟨"java/lang/Throwable", "fillInStackTrace", "(I)Ljava/lang/Throwable;"⟩, 6) := ⟨⟨by decide +kernel, by decide +kernel⟩, List.mem_of_getElem? (i := 965) (by decide +kernel), List.mem_of_getElem? (i := 963) (by decide +kernel), List.mem_of_getElem? (i := 964) (by decide +kernel)⟩
theorem lw_p75 : lw_okq (⟨"TriedLinesModel", "lays", "(I)V"⟩, 42) := ⟨⟨by decide +kernel, by decide +kernel⟩, List.mem_of_getElem? (i := 990) (by decide +kernel), List.mem_of_getElem? (i := 1131) (by decide +kernel), List.mem_of_getElem? (i := 1132) (by decide +kernel)⟩
theorem lw_p76 : lw_okq (⟨"TriedLinesModel", "anew", "()V"⟩, 42) := ⟨⟨by decide +kernel, by decide +kernel⟩, List.mem_of_getElem? (i := 990) (by decide +kernel), List.mem_of_getElem? (i := 1139) (by decide +kernel), List.mem_of_getElem? (i := 1140) (by decide +kernel)⟩
theorem lw_p77 : lw_okq (⟨"TriedLinesModel", "no", "(I)I"⟩, 42) := ⟨⟨by decide +kernel, by decide +kernel⟩, List.mem_of_getElem? (i := 990) (by decide +kernel), List.mem_of_getElem? (i := 1146) (by decide +kernel), List.mem_of_getElem? (i := 1147) (by decide +kernel)⟩
theorem lw_p78 : lw_okq (⟨"TriedLinesModel", "readText", "(I)I"⟩, 42) := ⟨⟨by decide +kernel, by decide +kernel⟩, List.mem_of_getElem? (i := 990) (by decide +kernel), List.mem_of_getElem? (i := 1150) (by decide +kernel), List.mem_of_getElem? (i := 1151) (by decide +kernel)⟩
theorem lw_p79 : lw_okq (⟨"TriedLinesModel", "nextToken", "()V"⟩, 42) := ⟨⟨by decide +kernel, by decide +kernel⟩, List.mem_of_getElem? (i := 990) (by decide +kernel), List.mem_of_getElem? (i := 1154) (by decide +kernel), List.mem_of_getElem? (i := 1155) (by decide +kernel)⟩
def lw_privs_5 : List (MethodName × Nat) := [(⟨"TriedLines$Cache", "setWord", "(III)V"⟩, 7), (⟨"TriedLines$Run", "markLine", "(IIZ)V"⟩, 12), (⟨"TriedLines$Run", "doEnd", "(ILTriedLines$Core;)V"⟩, 12), (⟨"TriedLines$Run", "doGet", "(ILTriedLines$Core;)I"⟩, 12), (⟨"TriedLines$Run", "doPut", "(ILTriedLines$Core;)I"⟩, 12), (⟨"TriedLines$Run", "takeRounds", "(I)I"⟩, 12), (⟨"TriedLines$Run", "takeDraws", "(II)I"⟩, 12), (⟨"TriedLines$Run", "isAllDone", "()Z"⟩, 12), (⟨"TriedLines$Run", "countInAll", "(I)I"⟩, 12), (⟨"TriedLines$Plan", "deedsInAll", "()I"⟩, 13), (⟨"java/lang/Throwable", "fillInStackTrace", "(I)Ljava/lang/Throwable;"⟩, 6), (⟨"TriedLinesModel", "lays", "(I)V"⟩, 42), (⟨"TriedLinesModel", "anew", "()V"⟩, 42), (⟨"TriedLinesModel", "no", "(I)I"⟩, 42), (⟨"TriedLinesModel", "readText", "(I)I"⟩, 42), (⟨"TriedLinesModel", "nextToken", "()V"⟩, 42)]
theorem lw_r5 : ∀ q ∈ lw_privs_5, lw_okq q := List.forall_mem_cons.mpr ⟨lw_p64, List.forall_mem_cons.mpr ⟨lw_p65, List.forall_mem_cons.mpr ⟨lw_p66, List.forall_mem_cons.mpr ⟨lw_p67, List.forall_mem_cons.mpr ⟨lw_p68, List.forall_mem_cons.mpr ⟨lw_p69, List.forall_mem_cons.mpr ⟨lw_p70, List.forall_mem_cons.mpr ⟨lw_p71, List.forall_mem_cons.mpr ⟨lw_p72, List.forall_mem_cons.mpr ⟨lw_p73, List.forall_mem_cons.mpr ⟨lw_p74, List.forall_mem_cons.mpr ⟨lw_p75, List.forall_mem_cons.mpr ⟨lw_p76, List.forall_mem_cons.mpr ⟨lw_p77, List.forall_mem_cons.mpr ⟨lw_p78, List.forall_mem_cons.mpr ⟨lw_p79, fun _ h => absurd h List.not_mem_nil⟩⟩⟩⟩⟩⟩⟩⟩⟩⟩⟩⟩⟩⟩⟩⟩
theorem lw_p80 : lw_okq (⟨"TriedLinesModel", "see", "(I)I"⟩, 42) := ⟨⟨by decide +kernel, by decide +kernel⟩, List.mem_of_getElem? (i := 990) (by decide +kernel), List.mem_of_getElem? (i := 1158) (by decide +kernel), List.mem_of_getElem? (i := 1159) (by decide +kernel)⟩
theorem lw_p81 : lw_okq (⟨"TriedLinesModel", "readLine", "()I"⟩, 42) := ⟨⟨by decide +kernel, by decide +kernel⟩, List.mem_of_getElem? (i := 990) (by decide +kernel), List.mem_of_getElem? (i := 1162) (by decide +kernel), List.mem_of_getElem? (i := 1163) (by decide +kernel)⟩
theorem lw_p82 : lw_okq (⟨"TriedLinesModel", "isWord", "(Ljava/lang/String;)Z"⟩, 42) := ⟨⟨by decide +kernel, by decide +kernel⟩, List.mem_of_getElem? (i := 990) (by decide +kernel), List.mem_of_getElem? (i := 1167) (by decide +kernel), List.mem_of_getElem? (i := 1168) (by decide +kernel)⟩
theorem lw_p83 : lw_okq (⟨"TriedLinesModel", "readMachine", "()I"⟩, 42) := ⟨⟨by decide +kernel, by decide +kernel⟩, List.mem_of_getElem? (i := 990) (by decide +kernel), List.mem_of_getElem? (i := 1173) (by decide +kernel), List.mem_of_getElem? (i := 1174) (by decide +kernel)⟩
theorem lw_p84 : lw_okq (⟨"TriedLinesModel", "errs", "(I)I"⟩, 42) := ⟨⟨by decide +kernel, by decide +kernel⟩, List.mem_of_getElem? (i := 990) (by decide +kernel), List.mem_of_getElem? (i := 1177) (by decide +kernel), List.mem_of_getElem? (i := 1178) (by decide +kernel)⟩
theorem lw_p85 : lw_okq (⟨"TriedLinesModel", "power", "(Ljava/lang/String;)I"⟩, 42) := ⟨⟨by decide +kernel, by decide +kernel⟩, List.mem_of_getElem? (i := 990) (by decide +kernel), List.mem_of_getElem? (i := 1182) (by decide +kernel), List.mem_of_getElem? (i := 1183) (by decide +kernel)⟩
theorem lw_p86 : lw_okq (⟨"TriedLinesModel", "wholeHere", "(II)I"⟩, 42) := ⟨⟨by decide +kernel, by decide +kernel⟩, List.mem_of_getElem? (i := 990) (by decide +kernel), List.mem_of_getElem? (i := 1186) (by decide +kernel), List.mem_of_getElem? (i := 1187) (by decide +kernel)⟩
theorem lw_p87 : lw_okq (⟨"TriedLinesModel", "passes", "(II)I"⟩, 42) := ⟨⟨by decide +kernel, by decide +kernel⟩, List.mem_of_getElem? (i := 990) (by decide +kernel), List.mem_of_getElem? (i := 1190) (by decide +kernel), List.mem_of_getElem? (i := 1191) (by decide +kernel)⟩
theorem lw_p88 : lw_okq (⟨"TriedLinesModel", "after", "(Ljava/lang/String;II)I"⟩, 42) := ⟨⟨by decide +kernel, by decide +kernel⟩, List.mem_of_getElem? (i := 990) (by decide +kernel), List.mem_of_getElem? (i := 1195) (by decide +kernel), List.mem_of_getElem? (i := 1196) (by decide +kernel)⟩
theorem lw_p89 : lw_okq (⟨"TriedLinesModel", "readToldWord", "()I"⟩, 42) := ⟨⟨by decide +kernel, by decide +kernel⟩, List.mem_of_getElem? (i := 990) (by decide +kernel), List.mem_of_getElem? (i := 1206) (by decide +kernel), List.mem_of_getElem? (i := 1207) (by decide +kernel)⟩
theorem lw_p90 : lw_okq (⟨"TriedLinesModel", "addresses", "(I)I"⟩, 42) := ⟨⟨by decide +kernel, by decide +kernel⟩, List.mem_of_getElem? (i := 990) (by decide +kernel), List.mem_of_getElem? (i := 1210) (by decide +kernel), List.mem_of_getElem? (i := 1211) (by decide +kernel)⟩
theorem lw_p91 : lw_okq (⟨"TriedLinesModel", "readCore", "()I"⟩, 42) := ⟨⟨by decide +kernel, by decide +kernel⟩, List.mem_of_getElem? (i := 990) (by decide +kernel), List.mem_of_getElem? (i := 1215) (by decide +kernel), List.mem_of_getElem? (i := 1216) (by decide +kernel)⟩
theorem lw_p92 : lw_okq (⟨"TriedLinesModel", "sortHere", "()I"⟩, 42) := ⟨⟨by decide +kernel, by decide +kernel⟩, List.mem_of_getElem? (i := 990) (by decide +kernel), List.mem_of_getElem? (i := 1219) (by decide +kernel), List.mem_of_getElem? (i := 1220) (by decide +kernel)⟩
theorem lw_p93 : lw_okq (⟨"TriedLinesModel", "readDeed", "(I)I"⟩, 42) := ⟨⟨by decide +kernel, by decide +kernel⟩, List.mem_of_getElem? (i := 990) (by decide +kernel), List.mem_of_getElem? (i := 1230) (by decide +kernel), List.mem_of_getElem? (i := 1231) (by decide +kernel)⟩
theorem lw_p94 : lw_okq (⟨"TriedLinesModel", "asTold", "()V"⟩, 42) := ⟨⟨by decide +kernel, by decide +kernel⟩, List.mem_of_getElem? (i := 990) (by decide +kernel), List.mem_of_getElem? (i := 1235) (by decide +kernel), List.mem_of_getElem? (i := 1236) (by decide +kernel)⟩
theorem lw_p95 : lw_okq (⟨"TriedLinesModel", "begins", "()V"⟩, 42) := ⟨⟨by decide +kernel, by decide +kernel⟩, List.mem_of_getElem? (i := 990) (by decide +kernel), List.mem_of_getElem? (i := 1239) (by decide +kernel), List.mem_of_getElem? (i := 1240) (by decide +kernel)⟩
def lw_privs_6 : List (MethodName × Nat) := [(⟨"TriedLinesModel", "see", "(I)I"⟩, 42), (⟨"TriedLinesModel", "readLine", "()I"⟩, 42), (⟨"TriedLinesModel", "isWord", "(Ljava/lang/String;)Z"⟩, 42), (⟨"TriedLinesModel", "readMachine", "()I"⟩, 42), (⟨"TriedLinesModel", "errs", "(I)I"⟩, 42), (⟨"TriedLinesModel", "power", "(Ljava/lang/String;)I"⟩, 42), (⟨"TriedLinesModel", "wholeHere", "(II)I"⟩, 42), (⟨"TriedLinesModel", "passes", "(II)I"⟩, 42), (⟨"TriedLinesModel", "after", "(Ljava/lang/String;II)I"⟩, 42), (⟨"TriedLinesModel", "readToldWord", "()I"⟩, 42), (⟨"TriedLinesModel", "addresses", "(I)I"⟩, 42), (⟨"TriedLinesModel", "readCore", "()I"⟩, 42), (⟨"TriedLinesModel", "sortHere", "()I"⟩, 42), (⟨"TriedLinesModel", "readDeed", "(I)I"⟩, 42), (⟨"TriedLinesModel", "asTold", "()V"⟩, 42), (⟨"TriedLinesModel", "begins", "()V"⟩, 42)]
theorem lw_r6 : ∀ q ∈ lw_privs_6, lw_okq q := List.forall_mem_cons.mpr ⟨lw_p80, List.forall_mem_cons.mpr ⟨lw_p81, List.forall_mem_cons.mpr ⟨lw_p82, List.forall_mem_cons.mpr ⟨lw_p83, List.forall_mem_cons.mpr ⟨lw_p84, List.forall_mem_cons.mpr ⟨lw_p85, List.forall_mem_cons.mpr ⟨lw_p86, List.forall_mem_cons.mpr ⟨lw_p87, List.forall_mem_cons.mpr ⟨lw_p88, List.forall_mem_cons.mpr ⟨lw_p89, List.forall_mem_cons.mpr ⟨lw_p90, List.forall_mem_cons.mpr ⟨lw_p91, List.forall_mem_cons.mpr ⟨lw_p92, List.forall_mem_cons.mpr ⟨lw_p93, List.forall_mem_cons.mpr ⟨lw_p94, List.forall_mem_cons.mpr ⟨lw_p95, fun _ h => absurd h List.not_mem_nil⟩⟩⟩⟩⟩⟩⟩⟩⟩⟩⟩⟩⟩⟩⟩⟩
theorem lw_p96 : lw_okq (⟨"TriedLinesModel", "isCore", "(I)Z"⟩, 42) := ⟨⟨by decide +kernel, by decide +kernel⟩, List.mem_of_getElem? (i := 990) (by decide +kernel), List.mem_of_getElem? (i := 1262) (by decide +kernel), List.mem_of_getElem? (i := 1263) (by decide +kernel)⟩
theorem lw_p97 : lw_okq (⟨"TriedLinesModel", "isAddress", "(I)Z"⟩, 42) := ⟨⟨by decide +kernel, by decide +kernel⟩, List.mem_of_getElem? (i := 990) (by decide +kernel), List.mem_of_getElem? (i := 1270) (by decide +kernel), List.mem_of_getElem? (i := 1271) (by decide +kernel)⟩
theorem lw_p98 : lw_okq (⟨"TriedLinesModel", "wordNow", "(I)I"⟩, 42) := ⟨⟨by decide +kernel, by decide +kernel⟩, List.mem_of_getElem? (i := 990) (by decide +kernel), List.mem_of_getElem? (i := 1274) (by decide +kernel), List.mem_of_getElem? (i := 1275) (by decide +kernel)⟩
theorem lw_p99 : lw_okq (⟨"TriedLinesModel", "find", "(II)I"⟩, 42) := ⟨⟨by decide +kernel, by decide +kernel⟩, List.mem_of_getElem? (i := 990) (by decide +kernel), List.mem_of_getElem? (i := 1278) (by decide +kernel), List.mem_of_getElem? (i := 1279) (by decide +kernel)⟩
theorem lw_p100 : lw_okq (⟨"TriedLinesModel", "serially", "()V"⟩, 42) := ⟨⟨by decide +kernel, by decide +kernel⟩, List.mem_of_getElem? (i := 990) (by decide +kernel), List.mem_of_getElem? (i := 1293) (by decide +kernel), List.mem_of_getElem? (i := 1294) (by decide +kernel)⟩
theorem lw_p101 : lw_okq (⟨"TriedLinesModel", "plainBegins", "()V"⟩, 42) := ⟨⟨by decide +kernel, by decide +kernel⟩, List.mem_of_getElem? (i := 990) (by decide +kernel), List.mem_of_getElem? (i := 1297) (by decide +kernel), List.mem_of_getElem? (i := 1298) (by decide +kernel)⟩
theorem lw_p102 : lw_okq (⟨"TriedLinesModel", "plainly", "(I)V"⟩, 42) := ⟨⟨by decide +kernel, by decide +kernel⟩, List.mem_of_getElem? (i := 990) (by decide +kernel), List.mem_of_getElem? (i := 1301) (by decide +kernel), List.mem_of_getElem? (i := 1302) (by decide +kernel)⟩
theorem lw_p103 : lw_okq (⟨"TriedLinesModel", "marked", "(II)I"⟩, 42) := ⟨⟨by decide +kernel, by decide +kernel⟩, List.mem_of_getElem? (i := 990) (by decide +kernel), List.mem_of_getElem? (i := 1336) (by decide +kernel), List.mem_of_getElem? (i := 1337) (by decide +kernel)⟩
theorem lw_p104 : lw_okq (⟨"TriedLinesModel", "hasLeft", "(I)Z"⟩, 42) := ⟨⟨by decide +kernel, by decide +kernel⟩, List.mem_of_getElem? (i := 990) (by decide +kernel), List.mem_of_getElem? (i := 1352) (by decide +kernel), List.mem_of_getElem? (i := 1353) (by decide +kernel)⟩
theorem lw_p105 : lw_okq (⟨"TriedLinesModel", "laysAside", "()V"⟩, 42) := ⟨⟨by decide +kernel, by decide +kernel⟩, List.mem_of_getElem? (i := 990) (by decide +kernel), List.mem_of_getElem? (i := 1372) (by decide +kernel), List.mem_of_getElem? (i := 1373) (by decide +kernel)⟩
theorem lw_p106 : lw_okq (⟨"TriedLinesModel", "steps", "(I)I"⟩, 42) := ⟨⟨by decide +kernel, by decide +kernel⟩, List.mem_of_getElem? (i := 990) (by decide +kernel), List.mem_of_getElem? (i := 1376) (by decide +kernel), List.mem_of_getElem? (i := 1377) (by decide +kernel)⟩
theorem lw_p107 : lw_okq (⟨"TriedLinesModel", "does", "(II)I"⟩, 42) := ⟨⟨by decide +kernel, by decide +kernel⟩, List.mem_of_getElem? (i := 990) (by decide +kernel), List.mem_of_getElem? (i := 1380) (by decide +kernel), List.mem_of_getElem? (i := 1381) (by decide +kernel)⟩
theorem lw_p108 : lw_okq (⟨"TriedLinesModel", "begin", "(I)I"⟩, 42) := ⟨⟨by decide +kernel, by decide +kernel⟩, List.mem_of_getElem? (i := 990) (by decide +kernel), List.mem_of_getElem? (i := 1384) (by decide +kernel), List.mem_of_getElem? (i := 1385) (by decide +kernel)⟩
theorem lw_p109 : lw_okq (⟨"TriedLinesModel", "waits", "(I)I"⟩, 42) := ⟨⟨by decide +kernel, by decide +kernel⟩, List.mem_of_getElem? (i := 990) (by decide +kernel), List.mem_of_getElem? (i := 1388) (by decide +kernel), List.mem_of_getElem? (i := 1389) (by decide +kernel)⟩
theorem lw_p110 : lw_okq (⟨"TriedLinesModel", "decides", "(IIZ)I"⟩, 42) := ⟨⟨by decide +kernel, by decide +kernel⟩, List.mem_of_getElem? (i := 990) (by decide +kernel), List.mem_of_getElem? (i := 1392) (by decide +kernel), List.mem_of_getElem? (i := 1393) (by decide +kernel)⟩
theorem lw_p111 : lw_okq (⟨"TriedLinesModel", "isRival", "(IIIZ)Z"⟩, 42) := ⟨⟨by decide +kernel, by decide +kernel⟩, List.mem_of_getElem? (i := 990) (by decide +kernel), List.mem_of_getElem? (i := 1396) (by decide +kernel), List.mem_of_getElem? (i := 1397) (by decide +kernel)⟩
def lw_privs_7 : List (MethodName × Nat) := [(⟨"TriedLinesModel", "isCore", "(I)Z"⟩, 42), (⟨"TriedLinesModel", "isAddress", "(I)Z"⟩, 42), (⟨"TriedLinesModel", "wordNow", "(I)I"⟩, 42), (⟨"TriedLinesModel", "find", "(II)I"⟩, 42), (⟨"TriedLinesModel", "serially", "()V"⟩, 42), (⟨"TriedLinesModel", "plainBegins", "()V"⟩, 42), (⟨"TriedLinesModel", "plainly", "(I)V"⟩, 42), (⟨"TriedLinesModel", "marked", "(II)I"⟩, 42), (⟨"TriedLinesModel", "hasLeft", "(I)Z"⟩, 42), (⟨"TriedLinesModel", "laysAside", "()V"⟩, 42), (⟨"TriedLinesModel", "steps", "(I)I"⟩, 42), (⟨"TriedLinesModel", "does", "(II)I"⟩, 42), (⟨"TriedLinesModel", "begin", "(I)I"⟩, 42), (⟨"TriedLinesModel", "waits", "(I)I"⟩, 42), (⟨"TriedLinesModel", "decides", "(IIZ)I"⟩, 42), (⟨"TriedLinesModel", "isRival", "(IIIZ)Z"⟩, 42)]
theorem lw_r7 : ∀ q ∈ lw_privs_7, lw_okq q := List.forall_mem_cons.mpr ⟨lw_p96, List.forall_mem_cons.mpr ⟨lw_p97, List.forall_mem_cons.mpr ⟨lw_p98, List.forall_mem_cons.mpr ⟨lw_p99, List.forall_mem_cons.mpr ⟨lw_p100, List.forall_mem_cons.mpr ⟨lw_p101, List.forall_mem_cons.mpr ⟨lw_p102, List.forall_mem_cons.mpr ⟨lw_p103, List.forall_mem_cons.mpr ⟨lw_p104, List.forall_mem_cons.mpr ⟨lw_p105, List.forall_mem_cons.mpr ⟨lw_p106, List.forall_mem_cons.mpr ⟨lw_p107, List.forall_mem_cons.mpr ⟨lw_p108, List.forall_mem_cons.mpr ⟨lw_p109, List.forall_mem_cons.mpr ⟨lw_p110, List.forall_mem_cons.mpr ⟨lw_p111, fun _ h => absurd h List.not_mem_nil⟩⟩⟩⟩⟩⟩⟩⟩⟩⟩⟩⟩⟩⟩⟩⟩
theorem lw_p112 : lw_okq (⟨"TriedLinesModel", "isSomeElder", "(IIZ)Z"⟩, 42) := ⟨⟨by decide +kernel, by decide +kernel⟩, List.mem_of_getElem? (i := 990) (by decide +kernel), List.mem_of_getElem? (i := 1400) (by decide +kernel), List.mem_of_getElem? (i := 1401) (by decide +kernel)⟩
theorem lw_p113 : lw_okq (⟨"TriedLinesModel", "ends", "(II)V"⟩, 42) := ⟨⟨by decide +kernel, by decide +kernel⟩, List.mem_of_getElem? (i := 990) (by decide +kernel), List.mem_of_getElem? (i := 1404) (by decide +kernel), List.mem_of_getElem? (i := 1405) (by decide +kernel)⟩
theorem lw_p114 : lw_okq (⟨"TriedLinesModel", "empties", "(I)V"⟩, 42) := ⟨⟨by decide +kernel, by decide +kernel⟩, List.mem_of_getElem? (i := 990) (by decide +kernel), List.mem_of_getElem? (i := 1408) (by decide +kernel), List.mem_of_getElem? (i := 1409) (by decide +kernel)⟩
theorem lw_p115 : lw_okq (⟨"TriedLinesModel", "brings", "(IIZ)I"⟩, 42) := ⟨⟨by decide +kernel, by decide +kernel⟩, List.mem_of_getElem? (i := 990) (by decide +kernel), List.mem_of_getElem? (i := 1412) (by decide +kernel), List.mem_of_getElem? (i := 1413) (by decide +kernel)⟩
theorem lw_p116 : lw_okq (⟨"TriedLinesModel", "room", "(II)I"⟩, 42) := ⟨⟨by decide +kernel, by decide +kernel⟩, List.mem_of_getElem? (i := 990) (by decide +kernel), List.mem_of_getElem? (i := 1416) (by decide +kernel), List.mem_of_getElem? (i := 1417) (by decide +kernel)⟩
theorem lw_p117 : lw_okq (⟨"TriedLinesModel", "writesBack", "(I)V"⟩, 42) := ⟨⟨by decide +kernel, by decide +kernel⟩, List.mem_of_getElem? (i := 990) (by decide +kernel), List.mem_of_getElem? (i := 1420) (by decide +kernel), List.mem_of_getElem? (i := 1421) (by decide +kernel)⟩
theorem lw_p118 : lw_okq (⟨"TriedLinesModel", "othersHave", "(IIZ)Z"⟩, 42) := ⟨⟨by decide +kernel, by decide +kernel⟩, List.mem_of_getElem? (i := 990) (by decide +kernel), List.mem_of_getElem? (i := 1424) (by decide +kernel), List.mem_of_getElem? (i := 1425) (by decide +kernel)⟩
theorem lw_p119 : lw_okq (⟨"TriedLinesModel", "touches", "(II)I"⟩, 42) := ⟨⟨by decide +kernel, by decide +kernel⟩, List.mem_of_getElem? (i := 990) (by decide +kernel), List.mem_of_getElem? (i := 1428) (by decide +kernel), List.mem_of_getElem? (i := 1429) (by decide +kernel)⟩
theorem lw_p120 : lw_okq (⟨"TriedLinesModel", "commits", "(I)V"⟩, 42) := ⟨⟨by decide +kernel, by decide +kernel⟩, List.mem_of_getElem? (i := 990) (by decide +kernel), List.mem_of_getElem? (i := 1432) (by decide +kernel), List.mem_of_getElem? (i := 1433) (by decide +kernel)⟩
theorem lw_p121 : lw_okq (⟨"TriedLinesModel", "takesBack", "()V"⟩, 42) := ⟨⟨by decide +kernel, by decide +kernel⟩, List.mem_of_getElem? (i := 990) (by decide +kernel), List.mem_of_getElem? (i := 1436) (by decide +kernel), List.mem_of_getElem? (i := 1437) (by decide +kernel)⟩
theorem lw_p122 : lw_okq (⟨"TriedLinesModel", "drawn", "()I"⟩, 42) := ⟨⟨by decide +kernel, by decide +kernel⟩, List.mem_of_getElem? (i := 990) (by decide +kernel), List.mem_of_getElem? (i := 1460) (by decide +kernel), List.mem_of_getElem? (i := 1461) (by decide +kernel)⟩
theorem lw_p123 : lw_okq (⟨"TriedLinesModel", "triedWhy", "(ZIII)I"⟩, 42) := ⟨⟨by decide +kernel, by decide +kernel⟩, List.mem_of_getElem? (i := 990) (by decide +kernel), List.mem_of_getElem? (i := 1473) (by decide +kernel), List.mem_of_getElem? (i := 1474) (by decide +kernel)⟩
theorem lw_p124 : lw_okq (⟨"TriedLinesModel", "triedAll", "(IIII)I"⟩, 42) := ⟨⟨by decide +kernel, by decide +kernel⟩, List.mem_of_getElem? (i := 990) (by decide +kernel), List.mem_of_getElem? (i := 1477) (by decide +kernel), List.mem_of_getElem? (i := 1478) (by decide +kernel)⟩
theorem lw_p125 : lw_okq (⟨"TriedLinesModel", "tries", "(III)V"⟩, 42) := ⟨⟨by decide +kernel, by decide +kernel⟩, List.mem_of_getElem? (i := 990) (by decide +kernel), List.mem_of_getElem? (i := 1481) (by decide +kernel), List.mem_of_getElem? (i := 1482) (by decide +kernel)⟩
theorem lw_p126 : lw_okq (⟨"TriedLinesModel", "isAnyLeft", "()Z"⟩, 42) := ⟨⟨by decide +kernel, by decide +kernel⟩, List.mem_of_getElem? (i := 990) (by decide +kernel), List.mem_of_getElem? (i := 1485) (by decide +kernel), List.mem_of_getElem? (i := 1486) (by decide +kernel)⟩
theorem lw_p127 : lw_okq (⟨"TriedLinesModel", "triedOf", "(I)I"⟩, 42) := ⟨⟨by decide +kernel, by decide +kernel⟩, List.mem_of_getElem? (i := 990) (by decide +kernel), List.mem_of_getElem? (i := 1489) (by decide +kernel), List.mem_of_getElem? (i := 1490) (by decide +kernel)⟩
def lw_privs_8 : List (MethodName × Nat) := [(⟨"TriedLinesModel", "isSomeElder", "(IIZ)Z"⟩, 42), (⟨"TriedLinesModel", "ends", "(II)V"⟩, 42), (⟨"TriedLinesModel", "empties", "(I)V"⟩, 42), (⟨"TriedLinesModel", "brings", "(IIZ)I"⟩, 42), (⟨"TriedLinesModel", "room", "(II)I"⟩, 42), (⟨"TriedLinesModel", "writesBack", "(I)V"⟩, 42), (⟨"TriedLinesModel", "othersHave", "(IIZ)Z"⟩, 42), (⟨"TriedLinesModel", "touches", "(II)I"⟩, 42), (⟨"TriedLinesModel", "commits", "(I)V"⟩, 42), (⟨"TriedLinesModel", "takesBack", "()V"⟩, 42), (⟨"TriedLinesModel", "drawn", "()I"⟩, 42), (⟨"TriedLinesModel", "triedWhy", "(ZIII)I"⟩, 42), (⟨"TriedLinesModel", "triedAll", "(IIII)I"⟩, 42), (⟨"TriedLinesModel", "tries", "(III)V"⟩, 42), (⟨"TriedLinesModel", "isAnyLeft", "()Z"⟩, 42), (⟨"TriedLinesModel", "triedOf", "(I)I"⟩, 42)]
theorem lw_r8 : ∀ q ∈ lw_privs_8, lw_okq q := List.forall_mem_cons.mpr ⟨lw_p112, List.forall_mem_cons.mpr ⟨lw_p113, List.forall_mem_cons.mpr ⟨lw_p114, List.forall_mem_cons.mpr ⟨lw_p115, List.forall_mem_cons.mpr ⟨lw_p116, List.forall_mem_cons.mpr ⟨lw_p117, List.forall_mem_cons.mpr ⟨lw_p118, List.forall_mem_cons.mpr ⟨lw_p119, List.forall_mem_cons.mpr ⟨lw_p120, List.forall_mem_cons.mpr ⟨lw_p121, List.forall_mem_cons.mpr ⟨lw_p122, List.forall_mem_cons.mpr ⟨lw_p123, List.forall_mem_cons.mpr ⟨lw_p124, List.forall_mem_cons.mpr ⟨lw_p125, List.forall_mem_cons.mpr ⟨lw_p126, List.forall_mem_cons.mpr ⟨lw_p127, fun _ h => absurd h List.not_mem_nil⟩⟩⟩⟩⟩⟩⟩⟩⟩⟩⟩⟩⟩⟩⟩⟩
theorem lw_p128 : lw_okq (⟨"TriedLinesModel", "countAll", "(I)I"⟩, 42) := ⟨⟨by decide +kernel, by decide +kernel⟩, List.mem_of_getElem? (i := 990) (by decide +kernel), List.mem_of_getElem? (i := 1493) (by decide +kernel), List.mem_of_getElem? (i := 1494) (by decide +kernel)⟩
theorem lw_p129 : lw_okq (⟨"TriedLinesModel", "isEnough", "(II)Z"⟩, 42) := ⟨⟨by decide +kernel, by decide +kernel⟩, List.mem_of_getElem? (i := 990) (by decide +kernel), List.mem_of_getElem? (i := 1509) (by decide +kernel), List.mem_of_getElem? (i := 1510) (by decide +kernel)⟩
def lw_privs_9 : List (MethodName × Nat) := [(⟨"TriedLinesModel", "countAll", "(I)I"⟩, 42), (⟨"TriedLinesModel", "isEnough", "(II)Z"⟩, 42)]
theorem lw_r9 : ∀ q ∈ lw_privs_9, lw_okq q := List.forall_mem_cons.mpr ⟨lw_p128, List.forall_mem_cons.mpr ⟨lw_p129, fun _ h => absurd h List.not_mem_nil⟩⟩
def lw_privs : List (MethodName × Nat) := lw_privs_1 ++ (lw_privs_2 ++ (lw_privs_3 ++ (lw_privs_4 ++ (lw_privs_5 ++ (lw_privs_6 ++ (lw_privs_7 ++ (lw_privs_8 ++ (lw_privs_9))))))))
def lw_tbl : List Cond := k2_sels lw_privs ++ tables_1
theorem lw_privs_ok : ∀ q ∈ lw_privs, lw_okq q := by
  show ∀ q ∈ lw_privs_1 ++ (lw_privs_2 ++ (lw_privs_3 ++ (lw_privs_4 ++ (lw_privs_5 ++ (lw_privs_6 ++ (lw_privs_7 ++ (lw_privs_8 ++ (lw_privs_9)))))))), lw_okq q
  exact List.forall_mem_append.mpr ⟨lw_r1, List.forall_mem_append.mpr ⟨lw_r2, List.forall_mem_append.mpr ⟨lw_r3, List.forall_mem_append.mpr ⟨lw_r4, List.forall_mem_append.mpr ⟨lw_r5, List.forall_mem_append.mpr ⟨lw_r6, List.forall_mem_append.mpr ⟨lw_r7, List.forall_mem_append.mpr ⟨lw_r8, lw_r9⟩⟩⟩⟩⟩⟩⟩⟩
end
section
def RX0 : String := "TriedLines$Cache"
def TX0 : u_T := fun k => match k with
  | 0 => ("TriedLines$Cache", "plan", "LTriedLines$Plan;", true)
  | 1 => ("TriedLines$Cache", "lines", "[I", true)
  | 2 => ("TriedLines$Cache", "states", "[I", true)
  | 3 => ("TriedLines$Cache", "readMarks", "[Z", true)
  | 4 => ("TriedLines$Cache", "writeMarks", "[Z", true)
  | 5 => ("TriedLines$Cache", "used", "[I", true)
  | _ => ("TriedLines$Cache", "words", "[I", true)
def tyX0 : Nat → FieldType := fun k => match k with
  | 0 => .object "TriedLines$Plan"
  | 1 => .array .int
  | 2 => .array .int
  | 3 => .array .boolean
  | 4 => .array .boolean
  | 5 => .array .int
  | _ => .array .int
abbrev wsX00 : List Cond := u_ws RX0 TX0 7
theorem nmX0 : ∀ a, a < 7 → ∀ b, b < 7 → a ≠ b → (TX0 a).2.1 ≠ (TX0 b).2.1 := by decide +kernel
theorem tyX0_ok : ∀ k, k < 7 → parseFieldDescriptor (TX0 k).2.2.1 = some (tyX0 k) := by decide +kernel
abbrev cX0_init : ByteArray := prog_2_method_1_code
def yX0_init : MethodName := ⟨RX0, "<init>", "(LTriedLines$Plan;)V"⟩
abbrev cX0_clear : ByteArray := prog_2_method_2_code
def yX0_clear : MethodName := ⟨RX0, "clear", "()V"⟩
abbrev cX0_copyFrom : ByteArray := prog_2_method_3_code
def yX0_copyFrom : MethodName := ⟨RX0, "copyFrom", "(LTriedLines$Cache;)V"⟩
abbrev cX0_dropLine : ByteArray := prog_2_method_4_code
def yX0_dropLine : MethodName := ⟨RX0, "dropLine", "(I)V"⟩
abbrev cX0_find : ByteArray := prog_2_method_5_code
def yX0_find : MethodName := ⟨RX0, "find", "(I)I"⟩
abbrev cX0_findRoom : ByteArray := prog_2_method_6_code
def yX0_findRoom : MethodName := ⟨RX0, "findRoom", "(I)I"⟩
abbrev cX0_markedLines : ByteArray := prog_2_method_7_code
def yX0_markedLines : MethodName := ⟨RX0, "markedLines", "(Z)I"⟩
abbrev cX0_unmark : ByteArray := prog_2_method_8_code
def yX0_unmark : MethodName := ⟨RX0, "unmark", "(Z)V"⟩
abbrev cX0_wordIn : ByteArray := prog_2_method_9_code
def yX0_wordIn : MethodName := ⟨RX0, "wordIn", "(II)I"⟩
abbrev cX0_setWord : ByteArray := prog_2_method_10_code
def yX0_setWord : MethodName := ⟨RX0, "setWord", "(III)V"⟩
def RX1 : String := "TriedLines$Core"
def TX1 : u_T := fun k => match k with
  | 0 => ("TriedLines$Core", "next", "I", false)
  | 1 => ("TriedLines$Core", "begun", "I", false)
  | 2 => ("TriedLines$Core", "a", "I", false)
  | 3 => ("TriedLines$Core", "x", "I", false)
  | 4 => ("TriedLines$Core", "state", "I", false)
  | 5 => ("TriedLines$Core", "lost", "I", false)
  | 6 => ("TriedLines$Core", "age", "I", false)
  | _ => ("TriedLines$Core", "counts", "[I", true)
def tyX1 : Nat → FieldType := fun k => match k with
  | 0 => .int
  | 1 => .int
  | 2 => .int
  | 3 => .int
  | 4 => .int
  | 5 => .int
  | 6 => .int
  | _ => .array .int
abbrev wsX10 : List Cond := u_ws RX1 TX1 8
theorem nmX1 : ∀ a, a < 8 → ∀ b, b < 8 → a ≠ b → (TX1 a).2.1 ≠ (TX1 b).2.1 := by decide +kernel
theorem tyX1_ok : ∀ k, k < 8 → parseFieldDescriptor (TX1 k).2.2.1 = some (tyX1 k) := by decide +kernel
abbrev cX1_init : ByteArray := prog_3_method_1_code
def yX1_init : MethodName := ⟨RX1, "<init>", "()V"⟩
abbrev cX1_clear : ByteArray := prog_3_method_2_code
def yX1_clear : MethodName := ⟨RX1, "clear", "()V"⟩
abbrev cX1_copyFrom : ByteArray := prog_3_method_3_code
def yX1_copyFrom : MethodName := ⟨RX1, "copyFrom", "(LTriedLines$Core;)V"⟩
def RX2 : String := "TriedLines$Plan"
def TX2 : u_T := fun k => match k with
  | 0 => ("TriedLines$Plan", "sets", "I", false)
  | 1 => ("TriedLines$Plan", "ways", "I", false)
  | 2 => ("TriedLines$Plan", "perLine", "I", false)
  | 3 => ("TriedLines$Plan", "rule", "I", false)
  | 4 => ("TriedLines$Plan", "tries", "I", false)
  | 5 => ("TriedLines$Plan", "cores", "I", false)
  | 6 => ("TriedLines$Plan", "told", "I", false)
  | 7 => ("TriedLines$Plan", "lengths", "[I", true)
  | 8 => ("TriedLines$Plan", "sorts", "[I", true)
  | 9 => ("TriedLines$Plan", "wholes", "[I", true)
  | 10 => ("TriedLines$Plan", "indexed", "[Z", true)
  | 11 => ("TriedLines$Plan", "first", "[I", true)
  | _ => ("TriedLines$Plan", "given", "[Z", true)
def tyX2 : Nat → FieldType := fun k => match k with
  | 0 => .int
  | 1 => .int
  | 2 => .int
  | 3 => .int
  | 4 => .int
  | 5 => .int
  | 6 => .int
  | 7 => .array .int
  | 8 => .array .int
  | 9 => .array .int
  | 10 => .array .boolean
  | 11 => .array .int
  | _ => .array .boolean
abbrev wsX20 : List Cond := u_ws RX2 TX2 13
theorem nmX2 : ∀ a, a < 13 → ∀ b, b < 13 → a ≠ b → (TX2 a).2.1 ≠ (TX2 b).2.1 := by decide +kernel
theorem tyX2_ok : ∀ k, k < 13 → parseFieldDescriptor (TX2 k).2.2.1 = some (tyX2 k) := by decide +kernel
abbrev cX2_init : ByteArray := prog_4_method_1_code
def yX2_init : MethodName := ⟨RX2, "<init>", "()V"⟩
abbrev cX2_clear : ByteArray := prog_4_method_2_code
def yX2_clear : MethodName := ⟨RX2, "clear", "()V"⟩
abbrev cX2_copyFrom : ByteArray := prog_4_method_3_code
def yX2_copyFrom : MethodName := ⟨RX2, "copyFrom", "(LTriedLines$Plan;)V"⟩
abbrev cX2_addresses : ByteArray := prog_4_method_4_code
def yX2_addresses : MethodName := ⟨RX2, "addresses", "()I"⟩
abbrev cX2_hasCore : ByteArray := prog_4_method_5_code
def yX2_hasCore : MethodName := ⟨RX2, "hasCore", "(I)Z"⟩
abbrev cX2_hasAddress : ByteArray := prog_4_method_6_code
def yX2_hasAddress : MethodName := ⟨RX2, "hasAddress", "(I)Z"⟩
abbrev cX2_hasDeed : ByteArray := prog_4_method_7_code
def yX2_hasDeed : MethodName := ⟨RX2, "hasDeed", "(II)Z"⟩
abbrev cX2_sortOf : ByteArray := prog_4_method_8_code
def yX2_sortOf : MethodName := ⟨RX2, "sortOf", "(II)I"⟩
abbrev cX2_wholeOf : ByteArray := prog_4_method_9_code
def yX2_wholeOf : MethodName := ⟨RX2, "wholeOf", "(II)I"⟩
abbrev cX2_isIndexed : ByteArray := prog_4_method_10_code
def yX2_isIndexed : MethodName := ⟨RX2, "isIndexed", "(II)Z"⟩
abbrev cX2_deedsInAll : ByteArray := prog_4_method_11_code
def yX2_deedsInAll : MethodName := ⟨RX2, "deedsInAll", "()I"⟩
abbrev cX2_addressOf : ByteArray := prog_4_method_12_code
def yX2_addressOf : MethodName := ⟨RX2, "addressOf", "(III)I"⟩
abbrev cX2_lineOf : ByteArray := prog_4_method_13_code
def yX2_lineOf : MethodName := ⟨RX2, "lineOf", "(I)I"⟩
abbrev cX2_offsetOf : ByteArray := prog_4_method_14_code
def yX2_offsetOf : MethodName := ⟨RX2, "offsetOf", "(I)I"⟩
abbrev cX2_setOf : ByteArray := prog_4_method_15_code
def yX2_setOf : MethodName := ⟨RX2, "setOf", "(I)I"⟩
abbrev cX2_addWord : ByteArray := prog_4_method_16_code
def yX2_addWord : MethodName := ⟨RX2, "addWord", "(II)V"⟩
abbrev cX2_addDeed : ByteArray := prog_4_method_17_code
def yX2_addDeed : MethodName := ⟨RX2, "addDeed", "(IIZ)V"⟩
def RX3 : String := "TriedLines$Run"
def TX3 : u_T := fun k => match k with
  | 0 => ("TriedLines$Run", "plan", "LTriedLines$Plan;", true)
  | 1 => ("TriedLines$Run", "memory", "[I", true)
  | 2 => ("TriedLines$Run", "caches", "[LTriedLines$Cache;", true)
  | 3 => ("TriedLines$Run", "cores", "[LTriedLines$Core;", true)
  | 4 => ("TriedLines$Run", "traffic", "[I", true)
  | 5 => ("TriedLines$Run", "commits", "[I", true)
  | 6 => ("TriedLines$Run", "committed", "I", false)
  | 7 => ("TriedLines$Run", "rule", "I", false)
  | 8 => ("TriedLines$Run", "tries", "I", false)
  | 9 => ("TriedLines$Run", "time", "I", false)
  | 10 => ("TriedLines$Run", "holder", "I", false)
  | _ => ("TriedLines$Run", "ended", "I", false)
def tyX3 : Nat → FieldType := fun k => match k with
  | 0 => .object "TriedLines$Plan"
  | 1 => .array .int
  | 2 => .array (.object "TriedLines$Cache")
  | 3 => .array (.object "TriedLines$Core")
  | 4 => .array .int
  | 5 => .array .int
  | 6 => .int
  | 7 => .int
  | 8 => .int
  | 9 => .int
  | 10 => .int
  | _ => .int
abbrev wsX30 : List Cond := u_ws RX3 TX3 12
theorem nmX3 : ∀ a, a < 12 → ∀ b, b < 12 → a ≠ b → (TX3 a).2.1 ≠ (TX3 b).2.1 := by decide +kernel
theorem tyX3_ok : ∀ k, k < 12 → parseFieldDescriptor (TX3 k).2.2.1 = some (tyX3 k) := by decide +kernel
abbrev cX3_init : ByteArray := prog_5_method_1_code
def yX3_init : MethodName := ⟨RX3, "<init>", "(LTriedLines$Plan;)V"⟩
abbrev cX3_startOver : ByteArray := prog_5_method_2_code
def yX3_startOver : MethodName := ⟨RX3, "startOver", "(II)V"⟩
abbrev cX3_copyFrom : ByteArray := prog_5_method_3_code
def yX3_copyFrom : MethodName := ⟨RX3, "copyFrom", "(LTriedLines$Run;)V"⟩
abbrev cX3_hasDeedsLeft : ByteArray := prog_5_method_4_code
def yX3_hasDeedsLeft : MethodName := ⟨RX3, "hasDeedsLeft", "(I)Z"⟩
abbrev cX3_isAllDone : ByteArray := prog_5_method_5_code
def yX3_isAllDone : MethodName := ⟨RX3, "isAllDone", "()Z"⟩
abbrev cX3_takeStep : ByteArray := prog_5_method_6_code
def yX3_takeStep : MethodName := ⟨RX3, "takeStep", "(I)I"⟩
abbrev cX3_doBegin : ByteArray := prog_5_method_7_code
def yX3_doBegin : MethodName := ⟨RX3, "doBegin", "(ILTriedLines$Core;)I"⟩
abbrev cX3_doGet : ByteArray := prog_5_method_8_code
def yX3_doGet : MethodName := ⟨RX3, "doGet", "(ILTriedLines$Core;)I"⟩
abbrev cX3_doPut : ByteArray := prog_5_method_9_code
def yX3_doPut : MethodName := ⟨RX3, "doPut", "(ILTriedLines$Core;)I"⟩
abbrev cX3_doEnd : ByteArray := prog_5_method_10_code
def yX3_doEnd : MethodName := ⟨RX3, "doEnd", "(ILTriedLines$Core;)V"⟩
abbrev cX3_reach : ByteArray := prog_5_method_11_code
def yX3_reach : MethodName := ⟨RX3, "reach", "(IIZ)I"⟩
abbrev cX3_ask : ByteArray := prog_5_method_12_code
def yX3_ask : MethodName := ⟨RX3, "ask", "(IIZ)I"⟩
abbrev cX3_marking : ByteArray := prog_5_method_13_code
def yX3_marking : MethodName := ⟨RX3, "marking", "(IIZ)I"⟩
abbrev cX3_changeOthers : ByteArray := prog_5_method_14_code
def yX3_changeOthers : MethodName := ⟨RX3, "changeOthers", "(IIZ)Z"⟩
abbrev cX3_bringLine : ByteArray := prog_5_method_15_code
def yX3_bringLine : MethodName := ⟨RX3, "bringLine", "(LTriedLines$Cache;II)V"⟩
abbrev cX3_writeBack : ByteArray := prog_5_method_16_code
def yX3_writeBack : MethodName := ⟨RX3, "writeBack", "(LTriedLines$Cache;I)V"⟩
abbrev cX3_markLine : ByteArray := prog_5_method_17_code
def yX3_markLine : MethodName := ⟨RX3, "markLine", "(IIZ)V"⟩
abbrev cX3_endTries : ByteArray := prog_5_method_18_code
def yX3_endTries : MethodName := ⟨RX3, "endTries", "(II)V"⟩
abbrev cX3_lostAfter : ByteArray := prog_5_method_19_code
def yX3_lostAfter : MethodName := ⟨RX3, "lostAfter", "(II)I"⟩
abbrev cX3_takeRounds : ByteArray := prog_5_method_20_code
def yX3_takeRounds : MethodName := ⟨RX3, "takeRounds", "(I)I"⟩
abbrev cX3_takeDraws : ByteArray := prog_5_method_21_code
def yX3_takeDraws : MethodName := ⟨RX3, "takeDraws", "(II)I"⟩
abbrev cX3_wordAt : ByteArray := prog_5_method_22_code
def yX3_wordAt : MethodName := ⟨RX3, "wordAt", "(I)I"⟩
abbrev cX3_countInAll : ByteArray := prog_5_method_23_code
def yX3_countInAll : MethodName := ⟨RX3, "countInAll", "(I)I"⟩
def RX4 : String := "TriedLines$Solo"
def TX4 : u_T := fun k => match k with
  | 0 => ("TriedLines$Solo", "plan", "LTriedLines$Plan;", true)
  | 1 => ("TriedLines$Solo", "words", "[I", true)
  | 2 => ("TriedLines$Solo", "a", "I", false)
  | 3 => ("TriedLines$Solo", "x", "I", false)
  | 4 => ("TriedLines$Solo", "touched", "I", false)
  | _ => ("TriedLines$Solo", "widest", "I", false)
def tyX4 : Nat → FieldType := fun k => match k with
  | 0 => .object "TriedLines$Plan"
  | 1 => .array .int
  | 2 => .int
  | 3 => .int
  | 4 => .int
  | _ => .int
abbrev wsX40 : List Cond := u_ws RX4 TX4 6
theorem nmX4 : ∀ a, a < 6 → ∀ b, b < 6 → a ≠ b → (TX4 a).2.1 ≠ (TX4 b).2.1 := by decide +kernel
theorem tyX4_ok : ∀ k, k < 6 → parseFieldDescriptor (TX4 k).2.2.1 = some (tyX4 k) := by decide +kernel
abbrev cX4_init : ByteArray := prog_6_method_1_code
def yX4_init : MethodName := ⟨RX4, "<init>", "(LTriedLines$Plan;)V"⟩
abbrev cX4_startOver : ByteArray := prog_6_method_2_code
def yX4_startOver : MethodName := ⟨RX4, "startOver", "()V"⟩
abbrev cX4_play : ByteArray := prog_6_method_3_code
def yX4_play : MethodName := ⟨RX4, "play", "(IIZ)V"⟩
abbrev cX4_playDeed : ByteArray := prog_6_method_4_code
def yX4_playDeed : MethodName := ⟨RX4, "playDeed", "(II)V"⟩
abbrev cX4_touch : ByteArray := prog_6_method_5_code
def yX4_touch : MethodName := ⟨RX4, "touch", "(II)I"⟩
abbrev cX4_widen : ByteArray := prog_6_method_6_code
def yX4_widen : MethodName := ⟨RX4, "widen", "()V"⟩
def RX5 : String := "TriedLines$TextReader"
def TX5 : u_T := fun k => match k with
  | 0 => ("TriedLines$TextReader", "plan", "LTriedLines$Plan;", true)
  | 1 => ("TriedLines$TextReader", "bytes", "[I", true)
  | 2 => ("TriedLines$TextReader", "end", "I", false)
  | 3 => ("TriedLines$TextReader", "kind", "I", false)
  | 4 => ("TriedLines$TextReader", "start", "I", false)
  | 5 => ("TriedLines$TextReader", "next", "I", false)
  | 6 => ("TriedLines$TextReader", "whole", "I", false)
  | 7 => ("TriedLines$TextReader", "hasMachine", "Z", false)
  | 8 => ("TriedLines$TextReader", "open", "Z", false)
  | 9 => ("TriedLines$TextReader", "faultNumber", "I", false)
  | _ => ("TriedLines$TextReader", "faultPlace", "I", false)
def tyX5 : Nat → FieldType := fun k => match k with
  | 0 => .object "TriedLines$Plan"
  | 1 => .array .int
  | 2 => .int
  | 3 => .int
  | 4 => .int
  | 5 => .int
  | 6 => .int
  | 7 => .boolean
  | 8 => .boolean
  | 9 => .int
  | _ => .int
abbrev wsX50 : List Cond := u_ws RX5 TX5 11
theorem nmX5 : ∀ a, a < 11 → ∀ b, b < 11 → a ≠ b → (TX5 a).2.1 ≠ (TX5 b).2.1 := by decide +kernel
theorem tyX5_ok : ∀ k, k < 11 → parseFieldDescriptor (TX5 k).2.2.1 = some (tyX5 k) := by decide +kernel
abbrev cX5_init : ByteArray := prog_7_method_1_code
def yX5_init : MethodName := ⟨RX5, "<init>", "(LTriedLines$Plan;[I)V"⟩
abbrev cX5_readText : ByteArray := prog_7_method_2_code
def yX5_readText : MethodName := ⟨RX5, "readText", "(I)Z"⟩
abbrev cX5_fail : ByteArray := prog_7_method_3_code
def yX5_fail : MethodName := ⟨RX5, "fail", "(II)Z"⟩
abbrev cX5_readEnd : ByteArray := prog_7_method_4_code
def yX5_readEnd : MethodName := ⟨RX5, "readEnd", "()Z"⟩
abbrev cX5_advance : ByteArray := prog_7_method_5_code
def yX5_advance : MethodName := ⟨RX5, "advance", "()V"⟩
abbrev cX5_kindOf : ByteArray := prog_7_method_6_code
def yX5_kindOf : MethodName := ⟨RX5, "kindOf", "(I)I"⟩
abbrev cX5_isName : ByteArray := prog_7_method_7_code
def yX5_isName : MethodName := ⟨RX5, "isName", "(Ljava/lang/String;)Z"⟩
abbrev cX5_takeName : ByteArray := prog_7_method_8_code
def yX5_takeName : MethodName := ⟨RX5, "takeName", "(Ljava/lang/String;)Z"⟩
abbrev cX5_takeWhole : ByteArray := prog_7_method_9_code
def yX5_takeWhole : MethodName := ⟨RX5, "takeWhole", "(II)Z"⟩
abbrev cX5_takeSetting : ByteArray := prog_7_method_10_code
def yX5_takeSetting : MethodName := ⟨RX5, "takeSetting", "(Ljava/lang/String;IZ)I"⟩
abbrev cX5_sortHere : ByteArray := prog_7_method_11_code
def yX5_sortHere : MethodName := ⟨RX5, "sortHere", "()I"⟩
abbrev cX5_readLine : ByteArray := prog_7_method_12_code
def yX5_readLine : MethodName := ⟨RX5, "readLine", "()Z"⟩
abbrev cX5_readMachine : ByteArray := prog_7_method_13_code
def yX5_readMachine : MethodName := ⟨RX5, "readMachine", "()Z"⟩
abbrev cX5_readRule : ByteArray := prog_7_method_14_code
def yX5_readRule : MethodName := ⟨RX5, "readRule", "()Z"⟩
abbrev cX5_readWord : ByteArray := prog_7_method_15_code
def yX5_readWord : MethodName := ⟨RX5, "readWord", "()Z"⟩
abbrev cX5_readCore : ByteArray := prog_7_method_16_code
def yX5_readCore : MethodName := ⟨RX5, "readCore", "()Z"⟩
abbrev cX5_readDeed : ByteArray := prog_7_method_17_code
def yX5_readDeed : MethodName := ⟨RX5, "readDeed", "(I)Z"⟩
abbrev cX5_readRest : ByteArray := prog_7_method_18_code
def yX5_readRest : MethodName := ⟨RX5, "readRest", "(I)Z"⟩
def RX6 : String := "TriedLines"
def TX6 : u_T := fun k => match k with
  | 0 => ("TriedLines", "tape", "[I", true)
  | 1 => ("TriedLines", "taped", "I", false)
  | 2 => ("TriedLines", "plan", "LTriedLines$Plan;", true)
  | 3 => ("TriedLines", "draft", "LTriedLines$Plan;", true)
  | 4 => ("TriedLines", "reader", "LTriedLines$TextReader;", true)
  | 5 => ("TriedLines", "now", "LTriedLines$Run;", true)
  | 6 => ("TriedLines", "kept", "LTriedLines$Run;", true)
  | 7 => ("TriedLines", "trial", "LTriedLines$Run;", true)
  | 8 => ("TriedLines", "solo", "LTriedLines$Solo;", true)
  | 9 => ("TriedLines", "hasMachine", "Z", false)
  | 10 => ("TriedLines", "hasKept", "Z", false)
  | 11 => ("TriedLines", "latestFault", "I", false)
  | _ => ("TriedLines", "latestTrouble", "I", false)
def tyX6 : Nat → FieldType := fun k => match k with
  | 0 => .array .int
  | 1 => .int
  | 2 => .object "TriedLines$Plan"
  | 3 => .object "TriedLines$Plan"
  | 4 => .object "TriedLines$TextReader"
  | 5 => .object "TriedLines$Run"
  | 6 => .object "TriedLines$Run"
  | 7 => .object "TriedLines$Run"
  | 8 => .object "TriedLines$Solo"
  | 9 => .boolean
  | 10 => .boolean
  | 11 => .int
  | _ => .int
abbrev wsX60 : List Cond := u_ws RX6 TX6 13
theorem nmX6 : ∀ a, a < 13 → ∀ b, b < 13 → a ≠ b → (TX6 a).2.1 ≠ (TX6 b).2.1 := by decide +kernel
theorem tyX6_ok : ∀ k, k < 13 → parseFieldDescriptor (TX6 k).2.2.1 = some (tyX6 k) := by decide +kernel
abbrev cX6_init : ByteArray := prog_1_method_1_code
def yX6_init : MethodName := ⟨RX6, "<init>", "()V"⟩
abbrev cX6_refuse : ByteArray := prog_1_method_2_code
def yX6_refuse : MethodName := ⟨RX6, "refuse", "(I)I"⟩
abbrev cX6_answer : ByteArray := prog_1_method_3_code
def yX6_answer : MethodName := ⟨RX6, "answer", "(I)I"⟩
abbrev cX6_asBit : ByteArray := prog_1_method_4_code
def yX6_asBit : MethodName := ⟨RX6, "asBit", "(Z)I"⟩
abbrev cX6_isWithin : ByteArray := prog_1_method_5_code
def yX6_isWithin : MethodName := ⟨RX6, "isWithin", "(III)Z"⟩
abbrev cX6_feed : ByteArray := prog_1_method_6_code
def yX6_feed : MethodName := ⟨RX6, "feed", "(IIIII)I"⟩
abbrev cX6_putBytes : ByteArray := prog_1_method_7_code
def yX6_putBytes : MethodName := ⟨RX6, "putBytes", "(I)V"⟩
abbrev cX6_machine : ByteArray := prog_1_method_8_code
def yX6_machine : MethodName := ⟨RX6, "machine", "(I)I"⟩
abbrev cX6_fault : ByteArray := prog_1_method_9_code
def yX6_fault : MethodName := ⟨RX6, "fault", "()I"⟩
abbrev cX6_where : ByteArray := prog_1_method_10_code
def yX6_where : MethodName := ⟨RX6, "where", "()I"⟩
abbrev cX6_about : ByteArray := prog_1_method_11_code
def yX6_about : MethodName := ⟨RX6, "about", "(I)I"⟩
abbrev cX6_deed : ByteArray := prog_1_method_12_code
def yX6_deed : MethodName := ⟨RX6, "deed", "(III)I"⟩
abbrev cX6_word : ByteArray := prog_1_method_13_code
def yX6_word : MethodName := ⟨RX6, "word", "(I)I"⟩
abbrev cX6_memory : ByteArray := prog_1_method_14_code
def yX6_memory : MethodName := ⟨RX6, "memory", "(I)I"⟩
abbrev cX6_serial : ByteArray := prog_1_method_15_code
def yX6_serial : MethodName := ⟨RX6, "serial", "(I)I"⟩
abbrev cX6_agrees : ByteArray := prog_1_method_16_code
def yX6_agrees : MethodName := ⟨RX6, "agrees", "()I"⟩
abbrev cX6_playCommits : ByteArray := prog_1_method_17_code
def yX6_playCommits : MethodName := ⟨RX6, "playCommits", "()V"⟩
abbrev cX6_lock : ByteArray := prog_1_method_18_code
def yX6_lock : MethodName := ⟨RX6, "lock", "()I"⟩
abbrev cX6_alone : ByteArray := prog_1_method_19_code
def yX6_alone : MethodName := ⟨RX6, "alone", "(II)I"⟩
abbrev cX6_place : ByteArray := prog_1_method_20_code
def yX6_place : MethodName := ⟨RX6, "place", "(IIII)I"⟩
abbrev cX6_cached : ByteArray := prog_1_method_21_code
def yX6_cached : MethodName := ⟨RX6, "cached", "(II)I"⟩
abbrev cX6_sharers : ByteArray := prog_1_method_22_code
def yX6_sharers : MethodName := ⟨RX6, "sharers", "(I)I"⟩
abbrev cX6_reads : ByteArray := prog_1_method_23_code
def yX6_reads : MethodName := ⟨RX6, "reads", "(I)I"⟩
abbrev cX6_writes : ByteArray := prog_1_method_24_code
def yX6_writes : MethodName := ⟨RX6, "writes", "(I)I"⟩
abbrev cX6_traffic : ByteArray := prog_1_method_25_code
def yX6_traffic : MethodName := ⟨RX6, "traffic", "(I)I"⟩
abbrev cX6_core : ByteArray := prog_1_method_26_code
def yX6_core : MethodName := ⟨RX6, "core", "(II)I"⟩
abbrev cX6_count : ByteArray := prog_1_method_27_code
def yX6_count : MethodName := ⟨RX6, "count", "(II)I"⟩
abbrev cX6_advice : ByteArray := prog_1_method_28_code
def yX6_advice : MethodName := ⟨RX6, "advice", "(II)I"⟩
abbrev cX6_commit : ByteArray := prog_1_method_29_code
def yX6_commit : MethodName := ⟨RX6, "commit", "(II)I"⟩
abbrev cX6_would : ByteArray := prog_1_method_30_code
def yX6_would : MethodName := ⟨RX6, "would", "(I)I"⟩
abbrev cX6_wouldEnd : ByteArray := prog_1_method_31_code
def yX6_wouldEnd : MethodName := ⟨RX6, "wouldEnd", "(I)I"⟩
abbrev cX6_step : ByteArray := prog_1_method_32_code
def yX6_step : MethodName := ⟨RX6, "step", "(I)I"⟩
abbrev cX6_rounds : ByteArray := prog_1_method_33_code
def yX6_rounds : MethodName := ⟨RX6, "rounds", "(I)I"⟩
abbrev cX6_draws : ByteArray := prog_1_method_34_code
def yX6_draws : MethodName := ⟨RX6, "draws", "(II)I"⟩
abbrev cX6_isSeed : ByteArray := prog_1_method_35_code
def yX6_isSeed : MethodName := ⟨RX6, "isSeed", "(I)Z"⟩
abbrev cX6_interrupt : ByteArray := prog_1_method_36_code
def yX6_interrupt : MethodName := ⟨RX6, "interrupt", "(I)I"⟩
abbrev cX6_isTrial : ByteArray := prog_1_method_37_code
def yX6_isTrial : MethodName := ⟨RX6, "isTrial", "(III)Z"⟩
abbrev cX6_tried : ByteArray := prog_1_method_38_code
def yX6_tried : MethodName := ⟨RX6, "tried", "(IIII)I"⟩
abbrev cX6_triedWord : ByteArray := prog_1_method_39_code
def yX6_triedWord : MethodName := ⟨RX6, "triedWord", "(IIII)I"⟩
abbrev cX6_best : ByteArray := prog_1_method_40_code
def yX6_best : MethodName := ⟨RX6, "best", "(I)I"⟩
abbrev cX6_waysFor : ByteArray := prog_1_method_41_code
def yX6_waysFor : MethodName := ⟨RX6, "waysFor", "(I)I"⟩
abbrev cX6_keep : ByteArray := prog_1_method_42_code
def yX6_keep : MethodName := ⟨RX6, "keep", "()Z"⟩
abbrev cX6_back : ByteArray := prog_1_method_43_code
def yX6_back : MethodName := ⟨RX6, "back", "()Z"⟩
abbrev cX6_done : ByteArray := prog_1_method_44_code
def yX6_done : MethodName := ⟨RX6, "done", "(I)I"⟩
abbrev cX6_size : ByteArray := prog_1_method_45_code
def yX6_size : MethodName := ⟨RX6, "size", "(I)I"⟩
abbrev cX6_trouble : ByteArray := prog_1_method_46_code
def yX6_trouble : MethodName := ⟨RX6, "trouble", "()I"⟩
def RX7 : String := "TriedLinesModel"
def TX7 : u_T := fun k => match k with
  | 0 => ("TriedLinesModel", "thrown", "I", false)
  | 1 => ("TriedLinesModel", "trouble", "I", false)
  | 2 => ("TriedLinesModel", "fault", "I", false)
  | 3 => ("TriedLinesModel", "where", "I", false)
  | 4 => ("TriedLinesModel", "tape", "[I", true)
  | 5 => ("TriedLinesModel", "taped", "I", false)
  | 6 => ("TriedLinesModel", "is", "[I", true)
  | 7 => ("TriedLinesModel", "read", "[I", true)
  | 8 => ("TriedLinesModel", "toldMany", "I", false)
  | 9 => ("TriedLinesModel", "readToldMany", "I", false)
  | 10 => ("TriedLinesModel", "first", "[I", true)
  | 11 => ("TriedLinesModel", "readFirst", "[I", true)
  | 12 => ("TriedLinesModel", "deedMany", "[I", true)
  | 13 => ("TriedLinesModel", "readDeedMany", "[I", true)
  | 14 => ("TriedLinesModel", "sort", "[I", true)
  | 15 => ("TriedLinesModel", "readSort", "[I", true)
  | 16 => ("TriedLinesModel", "whole", "[I", true)
  | 17 => ("TriedLinesModel", "readWhole", "[I", true)
  | 18 => ("TriedLinesModel", "byX", "[I", true)
  | 19 => ("TriedLinesModel", "readByX", "[I", true)
  | 20 => ("TriedLinesModel", "isTold", "Z", false)
  | 21 => ("TriedLinesModel", "textLong", "I", false)
  | 22 => ("TriedLinesModel", "at", "I", false)
  | 23 => ("TriedLinesModel", "spot", "I", false)
  | 24 => ("TriedLinesModel", "token", "I", false)
  | 25 => ("TriedLinesModel", "number", "I", false)
  | 26 => ("TriedLinesModel", "readFault", "I", false)
  | 27 => ("TriedLinesModel", "readPlace", "I", false)
  | 28 => ("TriedLinesModel", "hasMachine", "Z", false)
  | 29 => ("TriedLinesModel", "isOpen", "Z", false)
  | 30 => ("TriedLinesModel", "row", "[I", true)
  | 31 => ("TriedLinesModel", "aside", "[I", true)
  | 32 => ("TriedLinesModel", "kept", "[I", true)
  | 33 => ("TriedLinesModel", "isKept", "Z", false)
  | 34 => ("TriedLinesModel", "rule", "I", false)
  | 35 => ("TriedLinesModel", "tries", "I", false)
  | 36 => ("TriedLinesModel", "ways", "I", false)
  | 37 => ("TriedLinesModel", "ended", "I", false)
  | 38 => ("TriedLinesModel", "plain", "[I", true)
  | 39 => ("TriedLinesModel", "plainA", "I", false)
  | 40 => ("TriedLinesModel", "plainX", "I", false)
  | _ => ("TriedLinesModel", "seed", "I", false)
def tyX7 : Nat → FieldType := fun k => match k with
  | 0 => .int
  | 1 => .int
  | 2 => .int
  | 3 => .int
  | 4 => .array .int
  | 5 => .int
  | 6 => .array .int
  | 7 => .array .int
  | 8 => .int
  | 9 => .int
  | 10 => .array .int
  | 11 => .array .int
  | 12 => .array .int
  | 13 => .array .int
  | 14 => .array .int
  | 15 => .array .int
  | 16 => .array .int
  | 17 => .array .int
  | 18 => .array .int
  | 19 => .array .int
  | 20 => .boolean
  | 21 => .int
  | 22 => .int
  | 23 => .int
  | 24 => .int
  | 25 => .int
  | 26 => .int
  | 27 => .int
  | 28 => .boolean
  | 29 => .boolean
  | 30 => .array .int
  | 31 => .array .int
  | 32 => .array .int
  | 33 => .boolean
  | 34 => .int
  | 35 => .int
  | 36 => .int
  | 37 => .int
  | 38 => .array .int
  | 39 => .int
  | 40 => .int
  | _ => .int
abbrev wsX70 : List Cond := u_ws RX7 TX7 42
theorem nmX7 : ∀ a, a < 42 → ∀ b, b < 42 → a ≠ b → (TX7 a).2.1 ≠ (TX7 b).2.1 := by decide +kernel
theorem tyX7_ok : ∀ k, k < 42 → parseFieldDescriptor (TX7 k).2.2.1 = some (tyX7 k) := by decide +kernel
abbrev cX7_init : ByteArray := prog_9_method_1_code
def yX7_init : MethodName := ⟨RX7, "<init>", "()V"⟩
abbrev cX7_thrown : ByteArray := prog_9_method_2_code
def yX7_thrown : MethodName := ⟨RX7, "thrown", "()I"⟩
abbrev cX7_in : ByteArray := prog_9_method_3_code
def yX7_in : MethodName := ⟨RX7, "in", "(III)Z"⟩
abbrev cX7_anew : ByteArray := prog_9_method_4_code
def yX7_anew : MethodName := ⟨RX7, "anew", "()V"⟩
abbrev cX7_no : ByteArray := prog_9_method_5_code
def yX7_no : MethodName := ⟨RX7, "no", "(I)I"⟩
abbrev cX7_feed : ByteArray := prog_9_method_6_code
def yX7_feed : MethodName := ⟨RX7, "feed", "(IIIII)I"⟩
abbrev cX7_lays : ByteArray := prog_9_method_7_code
def yX7_lays : MethodName := ⟨RX7, "lays", "(I)V"⟩
abbrev cX7_see : ByteArray := prog_9_method_8_code
def yX7_see : MethodName := ⟨RX7, "see", "(I)I"⟩
abbrev cX7_nextToken : ByteArray := prog_9_method_9_code
def yX7_nextToken : MethodName := ⟨RX7, "nextToken", "()V"⟩
abbrev cX7_isWord : ByteArray := prog_9_method_10_code
def yX7_isWord : MethodName := ⟨RX7, "isWord", "(Ljava/lang/String;)Z"⟩
abbrev cX7_errs : ByteArray := prog_9_method_11_code
def yX7_errs : MethodName := ⟨RX7, "errs", "(I)I"⟩
abbrev cX7_wholeHere : ByteArray := prog_9_method_12_code
def yX7_wholeHere : MethodName := ⟨RX7, "wholeHere", "(II)I"⟩
abbrev cX7_passes : ByteArray := prog_9_method_13_code
def yX7_passes : MethodName := ⟨RX7, "passes", "(II)I"⟩
abbrev cX7_after : ByteArray := prog_9_method_14_code
def yX7_after : MethodName := ⟨RX7, "after", "(Ljava/lang/String;II)I"⟩
abbrev cX7_power : ByteArray := prog_9_method_15_code
def yX7_power : MethodName := ⟨RX7, "power", "(Ljava/lang/String;)I"⟩
abbrev cX7_readMachine : ByteArray := prog_9_method_16_code
def yX7_readMachine : MethodName := ⟨RX7, "readMachine", "()I"⟩
abbrev cX7_addresses : ByteArray := prog_9_method_17_code
def yX7_addresses : MethodName := ⟨RX7, "addresses", "(I)I"⟩
abbrev cX7_readToldWord : ByteArray := prog_9_method_18_code
def yX7_readToldWord : MethodName := ⟨RX7, "readToldWord", "()I"⟩
abbrev cX7_readCore : ByteArray := prog_9_method_19_code
def yX7_readCore : MethodName := ⟨RX7, "readCore", "()I"⟩
abbrev cX7_sortHere : ByteArray := prog_9_method_20_code
def yX7_sortHere : MethodName := ⟨RX7, "sortHere", "()I"⟩
abbrev cX7_readDeed : ByteArray := prog_9_method_21_code
def yX7_readDeed : MethodName := ⟨RX7, "readDeed", "(I)I"⟩
abbrev cX7_readLine : ByteArray := prog_9_method_22_code
def yX7_readLine : MethodName := ⟨RX7, "readLine", "()I"⟩
abbrev cX7_readText : ByteArray := prog_9_method_23_code
def yX7_readText : MethodName := ⟨RX7, "readText", "(I)I"⟩
abbrev cX7_machine : ByteArray := prog_9_method_24_code
def yX7_machine : MethodName := ⟨RX7, "machine", "(I)I"⟩
abbrev cX7_fault : ByteArray := prog_9_method_25_code
def yX7_fault : MethodName := ⟨RX7, "fault", "()I"⟩
abbrev cX7_where : ByteArray := prog_9_method_26_code
def yX7_where : MethodName := ⟨RX7, "where", "()I"⟩
abbrev cX7_asTold : ByteArray := prog_9_method_27_code
def yX7_asTold : MethodName := ⟨RX7, "asTold", "()V"⟩
abbrev cX7_coreAt : ByteArray := prog_9_method_28_code
def yX7_coreAt : MethodName := ⟨RX7, "coreAt", "(II)I"⟩
abbrev cX7_placeAt : ByteArray := prog_9_method_29_code
def yX7_placeAt : MethodName := ⟨RX7, "placeAt", "(III)I"⟩
abbrev cX7_begins : ByteArray := prog_9_method_30_code
def yX7_begins : MethodName := ⟨RX7, "begins", "()V"⟩
abbrev cX7_laysAside : ByteArray := prog_9_method_31_code
def yX7_laysAside : MethodName := ⟨RX7, "laysAside", "()V"⟩
abbrev cX7_takesBack : ByteArray := prog_9_method_32_code
def yX7_takesBack : MethodName := ⟨RX7, "takesBack", "()V"⟩
abbrev cX7_find : ByteArray := prog_9_method_33_code
def yX7_find : MethodName := ⟨RX7, "find", "(II)I"⟩
abbrev cX7_empties : ByteArray := prog_9_method_34_code
def yX7_empties : MethodName := ⟨RX7, "empties", "(I)V"⟩
abbrev cX7_writesBack : ByteArray := prog_9_method_35_code
def yX7_writesBack : MethodName := ⟨RX7, "writesBack", "(I)V"⟩
abbrev cX7_ends : ByteArray := prog_9_method_36_code
def yX7_ends : MethodName := ⟨RX7, "ends", "(II)V"⟩
abbrev cX7_isRival : ByteArray := prog_9_method_37_code
def yX7_isRival : MethodName := ⟨RX7, "isRival", "(IIIZ)Z"⟩
abbrev cX7_isSomeElder : ByteArray := prog_9_method_38_code
def yX7_isSomeElder : MethodName := ⟨RX7, "isSomeElder", "(IIZ)Z"⟩
abbrev cX7_decides : ByteArray := prog_9_method_39_code
def yX7_decides : MethodName := ⟨RX7, "decides", "(IIZ)I"⟩
abbrev cX7_room : ByteArray := prog_9_method_40_code
def yX7_room : MethodName := ⟨RX7, "room", "(II)I"⟩
abbrev cX7_othersHave : ByteArray := prog_9_method_41_code
def yX7_othersHave : MethodName := ⟨RX7, "othersHave", "(IIZ)Z"⟩
abbrev cX7_brings : ByteArray := prog_9_method_42_code
def yX7_brings : MethodName := ⟨RX7, "brings", "(IIZ)I"⟩
abbrev cX7_waits : ByteArray := prog_9_method_43_code
def yX7_waits : MethodName := ⟨RX7, "waits", "(I)I"⟩
abbrev cX7_begin : ByteArray := prog_9_method_44_code
def yX7_begin : MethodName := ⟨RX7, "begin", "(I)I"⟩
abbrev cX7_touches : ByteArray := prog_9_method_45_code
def yX7_touches : MethodName := ⟨RX7, "touches", "(II)I"⟩
abbrev cX7_commits : ByteArray := prog_9_method_46_code
def yX7_commits : MethodName := ⟨RX7, "commits", "(I)V"⟩
abbrev cX7_plus : ByteArray := prog_9_method_47_code
def yX7_plus : MethodName := ⟨RX7, "plus", "(II)I"⟩
abbrev cX7_does : ByteArray := prog_9_method_48_code
def yX7_does : MethodName := ⟨RX7, "does", "(II)I"⟩
abbrev cX7_hasLeft : ByteArray := prog_9_method_49_code
def yX7_hasLeft : MethodName := ⟨RX7, "hasLeft", "(I)Z"⟩
abbrev cX7_steps : ByteArray := prog_9_method_50_code
def yX7_steps : MethodName := ⟨RX7, "steps", "(I)I"⟩
abbrev cX7_isCore : ByteArray := prog_9_method_51_code
def yX7_isCore : MethodName := ⟨RX7, "isCore", "(I)Z"⟩
abbrev cX7_isAddress : ByteArray := prog_9_method_52_code
def yX7_isAddress : MethodName := ⟨RX7, "isAddress", "(I)Z"⟩
abbrev cX7_about : ByteArray := prog_9_method_53_code
def yX7_about : MethodName := ⟨RX7, "about", "(I)I"⟩
abbrev cX7_deed : ByteArray := prog_9_method_54_code
def yX7_deed : MethodName := ⟨RX7, "deed", "(III)I"⟩
abbrev cX7_wordNow : ByteArray := prog_9_method_55_code
def yX7_wordNow : MethodName := ⟨RX7, "wordNow", "(I)I"⟩
abbrev cX7_word : ByteArray := prog_9_method_56_code
def yX7_word : MethodName := ⟨RX7, "word", "(I)I"⟩
abbrev cX7_memory : ByteArray := prog_9_method_57_code
def yX7_memory : MethodName := ⟨RX7, "memory", "(I)I"⟩
abbrev cX7_plainBegins : ByteArray := prog_9_method_58_code
def yX7_plainBegins : MethodName := ⟨RX7, "plainBegins", "()V"⟩
abbrev cX7_plainly : ByteArray := prog_9_method_59_code
def yX7_plainly : MethodName := ⟨RX7, "plainly", "(I)V"⟩
abbrev cX7_serially : ByteArray := prog_9_method_60_code
def yX7_serially : MethodName := ⟨RX7, "serially", "()V"⟩
abbrev cX7_serial : ByteArray := prog_9_method_61_code
def yX7_serial : MethodName := ⟨RX7, "serial", "(I)I"⟩
abbrev cX7_agrees : ByteArray := prog_9_method_62_code
def yX7_agrees : MethodName := ⟨RX7, "agrees", "()I"⟩
abbrev cX7_lock : ByteArray := prog_9_method_63_code
def yX7_lock : MethodName := ⟨RX7, "lock", "()I"⟩
abbrev cX7_alone : ByteArray := prog_9_method_64_code
def yX7_alone : MethodName := ⟨RX7, "alone", "(II)I"⟩
abbrev cX7_place : ByteArray := prog_9_method_65_code
def yX7_place : MethodName := ⟨RX7, "place", "(IIII)I"⟩
abbrev cX7_cached : ByteArray := prog_9_method_66_code
def yX7_cached : MethodName := ⟨RX7, "cached", "(II)I"⟩
abbrev cX7_sharers : ByteArray := prog_9_method_67_code
def yX7_sharers : MethodName := ⟨RX7, "sharers", "(I)I"⟩
abbrev cX7_marked : ByteArray := prog_9_method_68_code
def yX7_marked : MethodName := ⟨RX7, "marked", "(II)I"⟩
abbrev cX7_reads : ByteArray := prog_9_method_69_code
def yX7_reads : MethodName := ⟨RX7, "reads", "(I)I"⟩
abbrev cX7_writes : ByteArray := prog_9_method_70_code
def yX7_writes : MethodName := ⟨RX7, "writes", "(I)I"⟩
abbrev cX7_traffic : ByteArray := prog_9_method_71_code
def yX7_traffic : MethodName := ⟨RX7, "traffic", "(I)I"⟩
abbrev cX7_core : ByteArray := prog_9_method_72_code
def yX7_core : MethodName := ⟨RX7, "core", "(II)I"⟩
abbrev cX7_count : ByteArray := prog_9_method_73_code
def yX7_count : MethodName := ⟨RX7, "count", "(II)I"⟩
abbrev cX7_advice : ByteArray := prog_9_method_74_code
def yX7_advice : MethodName := ⟨RX7, "advice", "(II)I"⟩
abbrev cX7_commit : ByteArray := prog_9_method_75_code
def yX7_commit : MethodName := ⟨RX7, "commit", "(II)I"⟩
abbrev cX7_would : ByteArray := prog_9_method_76_code
def yX7_would : MethodName := ⟨RX7, "would", "(I)I"⟩
abbrev cX7_wouldEnd : ByteArray := prog_9_method_77_code
def yX7_wouldEnd : MethodName := ⟨RX7, "wouldEnd", "(I)I"⟩
abbrev cX7_step : ByteArray := prog_9_method_78_code
def yX7_step : MethodName := ⟨RX7, "step", "(I)I"⟩
abbrev cX7_rounds : ByteArray := prog_9_method_79_code
def yX7_rounds : MethodName := ⟨RX7, "rounds", "(I)I"⟩
abbrev cX7_drawn : ByteArray := prog_9_method_80_code
def yX7_drawn : MethodName := ⟨RX7, "drawn", "()I"⟩
abbrev cX7_isSeed : ByteArray := prog_9_method_81_code
def yX7_isSeed : MethodName := ⟨RX7, "isSeed", "(I)Z"⟩
abbrev cX7_draws : ByteArray := prog_9_method_82_code
def yX7_draws : MethodName := ⟨RX7, "draws", "(II)I"⟩
abbrev cX7_interrupt : ByteArray := prog_9_method_83_code
def yX7_interrupt : MethodName := ⟨RX7, "interrupt", "(I)I"⟩
abbrev cX7_isAnyLeft : ByteArray := prog_9_method_84_code
def yX7_isAnyLeft : MethodName := ⟨RX7, "isAnyLeft", "()Z"⟩
abbrev cX7_countAll : ByteArray := prog_9_method_85_code
def yX7_countAll : MethodName := ⟨RX7, "countAll", "(I)I"⟩
abbrev cX7_tries : ByteArray := prog_9_method_86_code
def yX7_tries : MethodName := ⟨RX7, "tries", "(III)V"⟩
abbrev cX7_triedWhy : ByteArray := prog_9_method_87_code
def yX7_triedWhy : MethodName := ⟨RX7, "triedWhy", "(ZIII)I"⟩
abbrev cX7_triedOf : ByteArray := prog_9_method_88_code
def yX7_triedOf : MethodName := ⟨RX7, "triedOf", "(I)I"⟩
abbrev cX7_triedAll : ByteArray := prog_9_method_89_code
def yX7_triedAll : MethodName := ⟨RX7, "triedAll", "(IIII)I"⟩
abbrev cX7_tried : ByteArray := prog_9_method_90_code
def yX7_tried : MethodName := ⟨RX7, "tried", "(IIII)I"⟩
abbrev cX7_triedWord : ByteArray := prog_9_method_91_code
def yX7_triedWord : MethodName := ⟨RX7, "triedWord", "(IIII)I"⟩
abbrev cX7_best : ByteArray := prog_9_method_92_code
def yX7_best : MethodName := ⟨RX7, "best", "(I)I"⟩
abbrev cX7_isEnough : ByteArray := prog_9_method_93_code
def yX7_isEnough : MethodName := ⟨RX7, "isEnough", "(II)Z"⟩
abbrev cX7_waysFor : ByteArray := prog_9_method_94_code
def yX7_waysFor : MethodName := ⟨RX7, "waysFor", "(I)I"⟩
abbrev cX7_keep : ByteArray := prog_9_method_95_code
def yX7_keep : MethodName := ⟨RX7, "keep", "()Z"⟩
abbrev cX7_back : ByteArray := prog_9_method_96_code
def yX7_back : MethodName := ⟨RX7, "back", "()Z"⟩
abbrev cX7_done : ByteArray := prog_9_method_97_code
def yX7_done : MethodName := ⟨RX7, "done", "(I)I"⟩
abbrev cX7_size : ByteArray := prog_9_method_98_code
def yX7_size : MethodName := ⟨RX7, "size", "(I)I"⟩
abbrev cX7_trouble : ByteArray := prog_9_method_99_code
def yX7_trouble : MethodName := ⟨RX7, "trouble", "()I"⟩
def RJx145de : String := "java/io/Serializable"
def TJx145de : u_T := fun k => match k with
  | _ => ("", "", "", false)
def tyJx145de : Nat → FieldType := fun k => match k with
  | _ => .int
abbrev wsJx145de0 : List Cond := u_ws RJx145de TJx145de 0
theorem nmJx145de : ∀ a, a < 0 → ∀ b, b < 0 → a ≠ b → (TJx145de a).2.1 ≠ (TJx145de b).2.1 := by decide +kernel
theorem tyJx145de_ok : ∀ k, k < 0 → parseFieldDescriptor (TJx145de k).2.2.1 = some (tyJx145de k) := by decide +kernel
def RJx9f9b0 : String := "java/lang/CharSequence"
def TJx9f9b0 : u_T := fun k => match k with
  | _ => ("", "", "", false)
def tyJx9f9b0 : Nat → FieldType := fun k => match k with
  | _ => .int
abbrev wsJx9f9b00 : List Cond := u_ws RJx9f9b0 TJx9f9b0 0
theorem nmJx9f9b0 : ∀ a, a < 0 → ∀ b, b < 0 → a ≠ b → (TJx9f9b0 a).2.1 ≠ (TJx9f9b0 b).2.1 := by decide +kernel
theorem tyJx9f9b0_ok : ∀ k, k < 0 → parseFieldDescriptor (TJx9f9b0 k).2.2.1 = some (tyJx9f9b0 k) := by decide +kernel
def RJxb160c : String := "java/lang/Comparable"
def TJxb160c : u_T := fun k => match k with
  | _ => ("", "", "", false)
def tyJxb160c : Nat → FieldType := fun k => match k with
  | _ => .int
abbrev wsJxb160c0 : List Cond := u_ws RJxb160c TJxb160c 0
theorem nmJxb160c : ∀ a, a < 0 → ∀ b, b < 0 → a ≠ b → (TJxb160c a).2.1 ≠ (TJxb160c b).2.1 := by decide +kernel
theorem tyJxb160c_ok : ∀ k, k < 0 → parseFieldDescriptor (TJxb160c k).2.2.1 = some (tyJxb160c k) := by decide +kernel
def RJ9 : String := "java/lang/Math"
def TJ9 : u_T := fun k => match k with
  | _ => ("", "", "", false)
def tyJ9 : Nat → FieldType := fun k => match k with
  | _ => .int
abbrev wsJ90 : List Cond := u_ws RJ9 TJ9 0
theorem nmJ9 : ∀ a, a < 0 → ∀ b, b < 0 → a ≠ b → (TJ9 a).2.1 ≠ (TJ9 b).2.1 := by decide +kernel
theorem tyJ9_ok : ∀ k, k < 0 → parseFieldDescriptor (TJ9 k).2.2.1 = some (tyJ9 k) := by decide +kernel
abbrev cJ9_floorMod_7cf53 : ByteArray := prog_14_method_50_code
def yJ9_floorMod_7cf53 : MethodName := ⟨RJ9, "floorMod", "(II)I"⟩
abbrev cJ9_max_7cf53 : ByteArray := prog_14_method_65_code
def yJ9_max_7cf53 : MethodName := ⟨RJ9, "max", "(II)I"⟩
abbrev cJ9_min_7cf53 : ByteArray := prog_14_method_69_code
def yJ9_min_7cf53 : MethodName := ⟨RJ9, "min", "(II)I"⟩
def RJ0 : String := "java/lang/String"
def TJ0 : u_T := fun k => match k with
  | _ => ("", "", "", false)
def tyJ0 : Nat → FieldType := fun k => match k with
  | _ => .int
abbrev wsJ00 : List Cond := u_ws RJ0 TJ0 0
theorem nmJ0 : ∀ a, a < 0 → ∀ b, b < 0 → a ≠ b → (TJ0 a).2.1 ≠ (TJ0 b).2.1 := by decide +kernel
theorem tyJ0_ok : ∀ k, k < 0 → parseFieldDescriptor (TJ0 k).2.2.1 = some (tyJ0 k) := by decide +kernel
abbrev cJ0_length_8abf5 : ByteArray := prog_16_method_54_code
def yJ0_length_8abf5 : MethodName := ⟨RJ0, "length", "()I"⟩
abbrev cJ0_charAt_5068e : ByteArray := prog_16_method_56_code
def yJ0_charAt_5068e : MethodName := ⟨RJ0, "charAt", "(I)C"⟩
abbrev cJ0_coder_7d493 : ByteArray := prog_16_method_152_code
def yJ0_coder_7d493 : MethodName := ⟨RJ0, "coder", "()B"⟩
abbrev cJ0_isLatin1_aae02 : ByteArray := prog_16_method_154_code
def yJ0_isLatin1_aae02 : MethodName := ⟨RJ0, "isLatin1", "()Z"⟩
abbrev cJ0_checkIndex_df160 : ByteArray := prog_16_method_155_code
def yJ0_checkIndex_df160 : MethodName := ⟨RJ0, "checkIndex", "(II)V"⟩
def RJ1 : String := "java/lang/StringLatin1"
def TJ1 : u_T := fun k => match k with
  | _ => ("", "", "", false)
def tyJ1 : Nat → FieldType := fun k => match k with
  | _ => .int
abbrev wsJ10 : List Cond := u_ws RJ1 TJ1 0
theorem nmJ1 : ∀ a, a < 0 → ∀ b, b < 0 → a ≠ b → (TJ1 a).2.1 ≠ (TJ1 b).2.1 := by decide +kernel
theorem tyJ1_ok : ∀ k, k < 0 → parseFieldDescriptor (TJ1 k).2.2.1 = some (tyJ1 k) := by decide +kernel
abbrev cJ1_charAt_3b067 : ByteArray := prog_17_method_2_code
def yJ1_charAt_3b067 : MethodName := ⟨RJ1, "charAt", "([BI)C"⟩
def RJ2 : String := "java/lang/StringUTF16"
def TJ2 : u_T := fun k => match k with
  | _ => ("", "", "", false)
def tyJ2 : Nat → FieldType := fun k => match k with
  | _ => .int
abbrev wsJ20 : List Cond := u_ws RJ2 TJ2 0
theorem nmJ2 : ∀ a, a < 0 → ∀ b, b < 0 → a ≠ b → (TJ2 a).2.1 ≠ (TJ2 b).2.1 := by decide +kernel
theorem tyJ2_ok : ∀ k, k < 0 → parseFieldDescriptor (TJ2 k).2.2.1 = some (tyJ2 k) := by decide +kernel
abbrev cJ2_getChar_3b067 : ByteArray := prog_18_method_5_code
def yJ2_getChar_3b067 : MethodName := ⟨RJ2, "getChar", "([BI)C"⟩
abbrev cJ2_length_9d52b : ByteArray := prog_18_method_6_code
def yJ2_length_9d52b : MethodName := ⟨RJ2, "length", "([B)I"⟩
abbrev cJ2_charAt_3b067 : ByteArray := prog_18_method_83_code
def yJ2_charAt_3b067 : MethodName := ⟨RJ2, "charAt", "([BI)C"⟩
abbrev cJ2_checkIndex_2214a : ByteArray := prog_18_method_91_code
def yJ2_checkIndex_2214a : MethodName := ⟨RJ2, "checkIndex", "(I[B)V"⟩
def RJ10 : String := "java/lang/System"
def TJ10 : u_T := fun k => match k with
  | _ => ("", "", "", false)
def tyJ10 : Nat → FieldType := fun k => match k with
  | _ => .int
abbrev wsJ100 : List Cond := u_ws RJ10 TJ10 0
theorem nmJ10 : ∀ a, a < 0 → ∀ b, b < 0 → a ≠ b → (TJ10 a).2.1 ≠ (TJ10 b).2.1 := by decide +kernel
theorem tyJ10_ok : ∀ k, k < 0 → parseFieldDescriptor (TJ10 k).2.2.1 = some (tyJ10 k) := by decide +kernel
def RJxfd54e : String := "java/lang/constant/Constable"
def TJxfd54e : u_T := fun k => match k with
  | _ => ("", "", "", false)
def tyJxfd54e : Nat → FieldType := fun k => match k with
  | _ => .int
abbrev wsJxfd54e0 : List Cond := u_ws RJxfd54e TJxfd54e 0
theorem nmJxfd54e : ∀ a, a < 0 → ∀ b, b < 0 → a ≠ b → (TJxfd54e a).2.1 ≠ (TJxfd54e b).2.1 := by decide +kernel
theorem tyJxfd54e_ok : ∀ k, k < 0 → parseFieldDescriptor (TJxfd54e k).2.2.1 = some (tyJxfd54e k) := by decide +kernel
def RJx3cf43 : String := "java/lang/constant/ConstantDesc"
def TJx3cf43 : u_T := fun k => match k with
  | _ => ("", "", "", false)
def tyJx3cf43 : Nat → FieldType := fun k => match k with
  | _ => .int
abbrev wsJx3cf430 : List Cond := u_ws RJx3cf43 TJx3cf43 0
theorem nmJx3cf43 : ∀ a, a < 0 → ∀ b, b < 0 → a ≠ b → (TJx3cf43 a).2.1 ≠ (TJx3cf43 b).2.1 := by decide +kernel
theorem tyJx3cf43_ok : ∀ k, k < 0 → parseFieldDescriptor (TJx3cf43 k).2.2.1 = some (tyJx3cf43 k) := by decide +kernel
def RJ3 : String := "jdk/internal/util/Preconditions"
def TJ3 : u_T := fun k => match k with
  | _ => ("", "", "", false)
def tyJ3 : Nat → FieldType := fun k => match k with
  | _ => .int
abbrev wsJ30 : List Cond := u_ws RJ3 TJ3 0
theorem nmJ3 : ∀ a, a < 0 → ∀ b, b < 0 → a ≠ b → (TJ3 a).2.1 ≠ (TJ3 b).2.1 := by decide +kernel
theorem tyJ3_ok : ∀ k, k < 0 → parseFieldDescriptor (TJ3 k).2.2.1 = some (tyJ3 k) := by decide +kernel
abbrev cJ3_checkIndex_8e157 : ByteArray := prog_24_method_11_code
def yJ3_checkIndex_8e157 : MethodName := ⟨RJ3, "checkIndex", "(IILjava/util/function/BiFunction;)I"⟩
def RL : String := "TriedLinesLaw"
abbrev cL_done : ByteArray := method_3_code
def yL_done : MethodName := ⟨RL, "done", "(LTriedLines;I[J)I"⟩
abbrev cL_law : ByteArray := code
def yL_law : MethodName := ⟨RL, "law", "([I)Z"⟩
/-! the good words of the tables: every method takes these -/
def zall : List Cond := lw_tbl.filter goodWord
theorem zall_of {w : Cond} {i : Nat} (h : lw_tbl[i]? = some w) (hg : goodWord w = true) : w ∈ zall := List.mem_filter.mpr ⟨List.mem_of_getElem? h, hg⟩
theorem zin_r (ws : List Cond) (ps : List Nat) (hp : ws = ps.filterMap (fun i => lw_tbl[i]?)) (h : ws.all goodWord = true) : ∀ w ∈ ws, w ∈ zall := by
  intro w hw
  have h1 := List.all_eq_true.mp h w hw
  rw [hp] at hw
  obtain ⟨i, -, hi⟩ := List.mem_filterMap.mp hw
  exact zall_of hi h1
theorem zinX0 : ∀ w ∈ wsX00, w ∈ zall := zin_r wsX00 [303, 305, 307, 309, 311, 313, 315] (by decide +kernel) (by decide +kernel)
theorem zinX1 : ∀ w ∈ wsX10, w ∈ zall := zin_r wsX10 [346, 348, 350, 352, 354, 356, 358, 360] (by decide +kernel) (by decide +kernel)
theorem zinX2 : ∀ w ∈ wsX20, w ∈ zall := zin_r wsX20 [200, 202, 204, 206, 208, 210, 212, 214, 216, 218, 220, 222, 224] (by decide +kernel) (by decide +kernel)
theorem zinX3 : ∀ w ∈ wsX30, w ∈ zall := zin_r wsX30 [385, 387, 389, 391, 393, 395, 397, 399, 401, 403, 405, 407] (by decide +kernel) (by decide +kernel)
theorem zinX4 : ∀ w ∈ wsX40, w ∈ zall := zin_r wsX40 [424, 426, 428, 430, 432, 434] (by decide +kernel) (by decide +kernel)
theorem zinX5 : ∀ w ∈ wsX50, w ∈ zall := zin_r wsX50 [248, 250, 252, 254, 256, 258, 260, 262, 264, 266, 268] (by decide +kernel) (by decide +kernel)
theorem zinX6 : ∀ w ∈ wsX60, w ∈ zall := zin_r wsX60 [450, 452, 454, 456, 458, 460, 462, 464, 466, 468, 470, 472, 474] (by decide +kernel) (by decide +kernel)
theorem zinX7 : ∀ w ∈ wsX70, w ∈ zall := zin_r wsX70 [1167, 1169, 1171, 1173, 1175, 1177, 1179, 1181, 1183, 1185, 1187, 1189, 1191, 1193, 1195, 1197, 1199, 1201, 1203, 1205, 1207, 1209, 1211, 1213, 1215, 1217, 1219, 1221, 1223, 1225, 1227, 1229, 1231, 1233, 1235, 1237, 1239, 1241, 1243, 1245, 1247, 1249] (by decide +kernel) (by decide +kernel)
def znF : List (String × Nat × String × String × String × String) := [("TriedLines$Solo", 78, "TriedLines$Plan", "sets", "I", "TriedLines"), ("TriedLines", 112, "TriedLines$Plan", "sets", "I", "TriedLines"), ("TriedLines$TextReader", 144, "TriedLines$Plan", "sets", "I", "TriedLines"), ("TriedLines$Cache", 51, "TriedLines$Plan", "ways", "I", "TriedLines"), ("TriedLines", 115, "TriedLines$Plan", "ways", "I", "TriedLines"), ("TriedLines$TextReader", 148, "TriedLines$Plan", "ways", "I", "TriedLines"), ("TriedLines", 118, "TriedLines$Plan", "perLine", "I", "TriedLines"), ("TriedLines$TextReader", 152, "TriedLines$Plan", "perLine", "I", "TriedLines"), ("TriedLines$Run", 220, "TriedLines$Plan", "perLine", "I", "TriedLines"), ("TriedLines", 86, "TriedLines$Plan", "rule", "I", "TriedLines"), ("TriedLines$TextReader", 166, "TriedLines$Plan", "rule", "I", "TriedLines"), ("TriedLines", 89, "TriedLines$Plan", "tries", "I", "TriedLines"), ("TriedLines$TextReader", 162, "TriedLines$Plan", "tries", "I", "TriedLines"), ("TriedLines$TextReader", 73, "TriedLines$Plan", "cores", "I", "TriedLines"), ("TriedLines", 103, "TriedLines$Plan", "cores", "I", "TriedLines"), ("TriedLines$Run", 229, "TriedLines$Plan", "cores", "I", "TriedLines"), ("TriedLines$TextReader", 172, "TriedLines$Plan", "told", "I", "TriedLines"), ("TriedLines", 293, "TriedLines$Plan", "told", "I", "TriedLines"), ("TriedLines$Run", 89, "TriedLines$Plan", "lengths", "[I", "TriedLines"), ("TriedLines$TextReader", 192, "TriedLines$Plan", "lengths", "[I", "TriedLines"), ("TriedLines", 245, "TriedLines$Plan", "lengths", "[I", "TriedLines"), ("TriedLines$Solo", 19, "TriedLines$Plan", "first", "[I", "TriedLines"), ("TriedLines$Run", 60, "TriedLines$Plan", "first", "[I", "TriedLines"), ("TriedLines$TextReader", 181, "TriedLines$Plan", "given", "[Z", "TriedLines"), ("TriedLines", 77, "TriedLines$TextReader", "faultNumber", "I", "TriedLines"), ("TriedLines", 109, "TriedLines$TextReader", "faultPlace", "I", "TriedLines"), ("TriedLines$Run", 217, "TriedLines$Cache", "lines", "[I", "TriedLines"), ("TriedLines", 183, "TriedLines$Cache", "lines", "[I", "TriedLines"), ("TriedLines$Run", 174, "TriedLines$Cache", "states", "[I", "TriedLines"), ("TriedLines", 188, "TriedLines$Cache", "states", "[I", "TriedLines"), ("TriedLines$Run", 214, "TriedLines$Cache", "readMarks", "[Z", "TriedLines"), ("TriedLines", 191, "TriedLines$Cache", "readMarks", "[Z", "TriedLines"), ("TriedLines$Run", 177, "TriedLines$Cache", "writeMarks", "[Z", "TriedLines"), ("TriedLines", 195, "TriedLines$Cache", "writeMarks", "[Z", "TriedLines"), ("TriedLines$Run", 211, "TriedLines$Cache", "used", "[I", "TriedLines"), ("TriedLines", 198, "TriedLines$Cache", "used", "[I", "TriedLines"), ("TriedLines$Run", 86, "TriedLines$Core", "next", "I", "TriedLines"), ("TriedLines", 225, "TriedLines$Core", "next", "I", "TriedLines"), ("TriedLines$Run", 151, "TriedLines$Core", "begun", "I", "TriedLines"), ("TriedLines$Run", 110, "TriedLines$Core", "a", "I", "TriedLines"), ("TriedLines", 230, "TriedLines$Core", "a", "I", "TriedLines"), ("TriedLines$Run", 113, "TriedLines$Core", "x", "I", "TriedLines"), ("TriedLines", 233, "TriedLines$Core", "x", "I", "TriedLines"), ("TriedLines$Run", 141, "TriedLines$Core", "state", "I", "TriedLines"), ("TriedLines", 236, "TriedLines$Core", "state", "I", "TriedLines"), ("TriedLines$Run", 130, "TriedLines$Core", "lost", "I", "TriedLines"), ("TriedLines", 239, "TriedLines$Core", "lost", "I", "TriedLines"), ("TriedLines$Run", 154, "TriedLines$Core", "age", "I", "TriedLines"), ("TriedLines", 242, "TriedLines$Core", "age", "I", "TriedLines"), ("TriedLines$Run", 127, "TriedLines$Core", "counts", "[I", "TriedLines"), ("TriedLines", 248, "TriedLines$Core", "counts", "[I", "TriedLines"), ("TriedLines", 155, "TriedLines$Run", "memory", "[I", "TriedLines"), ("TriedLines", 179, "TriedLines$Run", "caches", "[LTriedLines$Cache;", "TriedLines"), ("TriedLines", 219, "TriedLines$Run", "cores", "[LTriedLines$Core;", "TriedLines"), ("TriedLines", 216, "TriedLines$Run", "traffic", "[I", "TriedLines"), ("TriedLines", 166, "TriedLines$Run", "commits", "[I", "TriedLines"), ("TriedLines", 128, "TriedLines$Run", "committed", "I", "TriedLines"), ("TriedLines", 254, "TriedLines$Run", "tries", "I", "TriedLines"), ("TriedLines", 125, "TriedLines$Run", "time", "I", "TriedLines"), ("TriedLines", 173, "TriedLines$Run", "holder", "I", "TriedLines"), ("TriedLines", 261, "TriedLines$Run", "ended", "I", "TriedLines"), ("TriedLines", 161, "TriedLines$Solo", "words", "[I", "TriedLines"), ("TriedLines", 287, "TriedLines$Solo", "widest", "I", "TriedLines")]
def znM : List (String × Nat × MethodName × String) := [("TriedLines", 15, ⟨"TriedLines$Plan", "<init>", "()V"⟩, "TriedLines"), ("TriedLines", 25, ⟨"TriedLines$TextReader", "<init>", "(LTriedLines$Plan;[I)V"⟩, "TriedLines"), ("TriedLines", 34, ⟨"TriedLines$Run", "<init>", "(LTriedLines$Plan;)V"⟩, "TriedLines"), ("TriedLines$Run", 37, ⟨"TriedLines$Cache", "<init>", "(LTriedLines$Plan;)V"⟩, "TriedLines"), ("TriedLines$Run", 40, ⟨"TriedLines$Core", "<init>", "()V"⟩, "TriedLines"), ("TriedLines", 49, ⟨"TriedLines$Solo", "<init>", "(LTriedLines$Plan;)V"⟩, "TriedLines"), ("TriedLines", 73, ⟨"TriedLines$TextReader", "readText", "(I)Z"⟩, "TriedLines"), ("TriedLines$TextReader", 19, ⟨"TriedLines$Plan", "clear", "()V"⟩, "TriedLines"), ("TriedLines$TextReader", 175, ⟨"TriedLines$Plan", "addresses", "()I"⟩, "TriedLines"), ("TriedLines$TextReader", 178, ⟨"TriedLines$Plan", "hasAddress", "(I)Z"⟩, "TriedLines"), ("TriedLines$TextReader", 185, ⟨"TriedLines$Plan", "addWord", "(II)V"⟩, "TriedLines"), ("TriedLines$TextReader", 189, ⟨"TriedLines$Plan", "hasCore", "(I)Z"⟩, "TriedLines"), ("TriedLines$TextReader", 198, ⟨"TriedLines$Plan", "addDeed", "(IIZ)V"⟩, "TriedLines"), ("TriedLines", 83, ⟨"TriedLines$Plan", "copyFrom", "(LTriedLines$Plan;)V"⟩, "TriedLines"), ("TriedLines", 92, ⟨"TriedLines$Run", "startOver", "(II)V"⟩, "TriedLines"), ("TriedLines$Run", 65, ⟨"TriedLines$Cache", "clear", "()V"⟩, "TriedLines"), ("TriedLines$Run", 68, ⟨"TriedLines$Core", "clear", "()V"⟩, "TriedLines"), ("TriedLines", 121, ⟨"TriedLines$Plan", "addresses", "()I"⟩, "TriedLines"), ("TriedLines", 131, ⟨"TriedLines$Plan", "hasDeed", "(II)Z"⟩, "TriedLines"), ("TriedLines", 135, ⟨"TriedLines$Plan", "sortOf", "(II)I"⟩, "TriedLines"), ("TriedLines", 139, ⟨"TriedLines$Plan", "wholeOf", "(II)I"⟩, "TriedLines"), ("TriedLines", 142, ⟨"TriedLines$Plan", "isIndexed", "(II)Z"⟩, "TriedLines"), ("TriedLines", 149, ⟨"TriedLines$Plan", "hasAddress", "(I)Z"⟩, "TriedLines"), ("TriedLines", 152, ⟨"TriedLines$Run", "wordAt", "(I)I"⟩, "TriedLines"), ("TriedLines$Run", 161, ⟨"TriedLines$Plan", "lineOf", "(I)I"⟩, "TriedLines"), ("TriedLines$Run", 165, ⟨"TriedLines$Cache", "find", "(I)I"⟩, "TriedLines"), ("TriedLines$Run", 168, ⟨"TriedLines$Plan", "offsetOf", "(I)I"⟩, "TriedLines"), ("TriedLines$Run", 171, ⟨"TriedLines$Cache", "wordIn", "(II)I"⟩, "TriedLines"), ("TriedLines", 164, ⟨"TriedLines$Solo", "startOver", "()V"⟩, "TriedLines"), ("TriedLines", 169, ⟨"TriedLines$Solo", "play", "(IIZ)V"⟩, "TriedLines"), ("TriedLines$Solo", 43, ⟨"TriedLines$Plan", "hasDeed", "(II)Z"⟩, "TriedLines"), ("TriedLines$Solo", 55, ⟨"TriedLines$Plan", "wholeOf", "(II)I"⟩, "TriedLines"), ("TriedLines$Solo", 51, ⟨"TriedLines$Plan", "sortOf", "(II)I"⟩, "TriedLines"), ("TriedLines$Solo", 81, ⟨"TriedLines$Plan", "setOf", "(I)I"⟩, "TriedLines"), ("TriedLines$Solo", 70, ⟨"TriedLines$Plan", "addressOf", "(III)I"⟩, "TriedLines"), ("TriedLines$Solo", 74, ⟨"TriedLines$Plan", "lineOf", "(I)I"⟩, "TriedLines"), ("TriedLines", 176, ⟨"TriedLines$Plan", "hasCore", "(I)Z"⟩, "TriedLines"), ("TriedLines", 201, ⟨"TriedLines$Plan", "lineOf", "(I)I"⟩, "TriedLines"), ("TriedLines", 204, ⟨"TriedLines$Cache", "find", "(I)I"⟩, "TriedLines"), ("TriedLines", 207, ⟨"TriedLines$Plan", "offsetOf", "(I)I"⟩, "TriedLines"), ("TriedLines", 210, ⟨"TriedLines$Cache", "wordIn", "(II)I"⟩, "TriedLines"), ("TriedLines", 213, ⟨"TriedLines$Cache", "markedLines", "(Z)I"⟩, "TriedLines"), ("TriedLines", 222, ⟨"TriedLines$Run", "hasDeedsLeft", "(I)Z"⟩, "TriedLines"), ("TriedLines$Run", 82, ⟨"TriedLines$Plan", "hasCore", "(I)Z"⟩, "TriedLines"), ("TriedLines", 251, ⟨"TriedLines$Run", "lostAfter", "(II)I"⟩, "TriedLines"), ("TriedLines", 255, ⟨"TriedLines$Run", "copyFrom", "(LTriedLines$Run;)V"⟩, "TriedLines"), ("TriedLines$Run", 75, ⟨"TriedLines$Cache", "copyFrom", "(LTriedLines$Cache;)V"⟩, "TriedLines"), ("TriedLines$Run", 79, ⟨"TriedLines$Core", "copyFrom", "(LTriedLines$Core;)V"⟩, "TriedLines"), ("TriedLines", 258, ⟨"TriedLines$Run", "takeStep", "(I)I"⟩, "TriedLines"), ("TriedLines$Run", 95, ⟨"TriedLines$Plan", "wholeOf", "(II)I"⟩, "TriedLines"), ("TriedLines$Run", 99, ⟨"TriedLines$Plan", "sortOf", "(II)I"⟩, "TriedLines"), ("TriedLines$Run", 189, ⟨"TriedLines$Cache", "unmark", "(Z)V"⟩, "TriedLines"), ("TriedLines$Run", 196, ⟨"TriedLines$Cache", "findRoom", "(I)I"⟩, "TriedLines"), ("TriedLines$Cache", 45, ⟨"TriedLines$Plan", "setOf", "(I)I"⟩, "TriedLines"), ("TriedLines$Run", 199, ⟨"TriedLines$Cache", "dropLine", "(I)V"⟩, "TriedLines"), ("TriedLines$Run", 185, ⟨"TriedLines$Cache", "setWord", "(III)V"⟩, "TriedLines"), ("TriedLines$Run", 157, ⟨"TriedLines$Plan", "addressOf", "(III)I"⟩, "TriedLines"), ("TriedLines", 264, ⟨"TriedLines$Run", "takeRounds", "(I)I"⟩, "TriedLines"), ("TriedLines", 270, ⟨"TriedLines$Run", "takeDraws", "(II)I"⟩, "TriedLines"), ("TriedLines", 274, ⟨"TriedLines$Run", "endTries", "(II)V"⟩, "TriedLines"), ("TriedLines", 280, ⟨"TriedLines$Run", "isAllDone", "()Z"⟩, "TriedLines"), ("TriedLines", 284, ⟨"TriedLines$Run", "countInAll", "(I)I"⟩, "TriedLines"), ("TriedLines", 296, ⟨"TriedLines$Plan", "deedsInAll", "()I"⟩, "TriedLines")]
/-! the String constants: by their texts -/
def zst : List (String × Nat × String × Nat) := [("TriedLines$TextReader", 103, "begin", 0), ("TriedLines$TextReader", 105, "end", 1), ("TriedLines$TextReader", 106, "mark", 2), ("TriedLines$TextReader", 108, "get", 3), ("TriedLines$TextReader", 110, "put", 4), ("TriedLines$TextReader", 112, "plus", 5), ("TriedLines$TextReader", 114, "less", 6), ("TriedLines$TextReader", 116, "machine", 7), ("TriedLines$TextReader", 118, "word", 8), ("TriedLines$TextReader", 120, "core", 9), ("TriedLines$TextReader", 138, "sets", 10), ("TriedLines$TextReader", 146, "ways", 11), ("TriedLines$TextReader", 150, "words", 12), ("TriedLines$TextReader", 155, "rule", 13), ("TriedLines$TextReader", 164, "wins", 14), ("TriedLines$TextReader", 168, "age", 15), ("TriedLines$TextReader", 170, "yields", 16), ("TriedLines$TextReader", 160, "tries", 17), ("TriedLines$TextReader", 202, "x", 18), ("TriedLinesModel", 187, "machine", 7), ("TriedLinesModel", 138, "sets", 10), ("TriedLinesModel", 144, "ways", 11), ("TriedLinesModel", 150, "words", 12), ("TriedLinesModel", 152, "rule", 13), ("TriedLinesModel", 154, "wins", 14), ("TriedLinesModel", 156, "age", 15), ("TriedLinesModel", 158, "yields", 16), ("TriedLinesModel", 160, "tries", 17), ("TriedLinesModel", 192, "word", 8), ("TriedLinesModel", 197, "core", 9), ("TriedLinesModel", 171, "begin", 0), ("TriedLinesModel", 173, "end", 1), ("TriedLinesModel", 175, "mark", 2), ("TriedLinesModel", 177, "get", 3), ("TriedLinesModel", 179, "put", 4), ("TriedLinesModel", 181, "plus", 5), ("TriedLinesModel", 183, "less", 6), ("TriedLinesModel", 185, "x", 18)]
def zlen : List Nat := [5, 3, 4, 3, 3, 4, 4, 7, 4, 4, 4, 4, 5, 4, 4, 3, 6, 5, 1]
def zbyt : List (List Int32) := [[98, 101, 103, 105, 110], [101, 110, 100], [109, 97, 114, 107], [103, 101, 116], [112, 117, 116], [112, 108, 117, 115], [108, 101, 115, 115], [109, 97, 99, 104, 105, 110, 101], [119, 111, 114, 100], [99, 111, 114, 101], [115, 101, 116, 115], [119, 97, 121, 115], [119, 111, 114, 100, 115], [114, 117, 108, 101], [119, 105, 110, 115], [97, 103, 101], [121, 105, 101, 108, 100, 115], [116, 114, 105, 101, 115], [120]]
end
section
/-- the words that a call of a method takes -/
def zMW (y : MethodName) (bytes : ByteArray) (maxL : Nat) (ret : Option FieldType) (n : Nat) : Prop :=
  Cond.code y bytes maxL ret ∈ zall ∧ Cond.initialized y.cls ∈ zall ∧ (y.cls ≠ "java/lang/invoke/MethodHandle" ∧ y.cls ≠ "java/lang/invoke/VarHandle" ∧ (parseMethodDescriptor y.desc).map (fun d => d.parameters.length) = some n)
def zMI (y : MethodName) : Prop := Cond.instanceMethod y ∈ zall ∧ Cond.selects y.cls y y ∈ zall
theorem kc_RX6_273 : Cond.constant RX6 273 (nI 65535) ∈ zall := zall_of (i := 991) (by decide +kernel) rfl
theorem kc_RX3_235 : Cond.constant RX3 235 (nI 65536) ∈ zall := zall_of (i := 1000) (by decide +kernel) rfl
theorem kc_RX4_58 : Cond.constant RX4 58 (nI 65536) ∈ zall := zall_of (i := 781) (by decide +kernel) rfl
theorem kc_RX7_347 : Cond.constant RX7 347 (nI 65536) ∈ zall := zall_of (i := 1593) (by decide +kernel) rfl
theorem kc_RX7_348 : Cond.constant RX7 348 (nI 65535) ∈ zall := zall_of (i := 1588) (by decide +kernel) rfl
theorem fl_RX6_9 : Cond.fieldLink RX6 9 (TX6 0).1 (TX6 0).2.1 (TX6 0).2.2.1 ∈ zall := zall_of (i := 437) (by decide +kernel) rfl
theorem fl_RX6_16 : Cond.fieldLink RX6 16 (TX6 2).1 (TX6 2).2.1 (TX6 2).2.2.1 ∈ zall := zall_of (i := 439) (by decide +kernel) rfl
theorem fl_RX6_20 : Cond.fieldLink RX6 20 (TX6 3).1 (TX6 3).2.1 (TX6 3).2.2.1 ∈ zall := zall_of (i := 440) (by decide +kernel) rfl
theorem fl_RX6_28 : Cond.fieldLink RX6 28 (TX6 4).1 (TX6 4).2.1 (TX6 4).2.2.1 ∈ zall := zall_of (i := 441) (by decide +kernel) rfl
theorem fl_RX6_37 : Cond.fieldLink RX6 37 (TX6 5).1 (TX6 5).2.1 (TX6 5).2.2.1 ∈ zall := zall_of (i := 442) (by decide +kernel) rfl
theorem fl_RX6_41 : Cond.fieldLink RX6 41 (TX6 6).1 (TX6 6).2.1 (TX6 6).2.2.1 ∈ zall := zall_of (i := 443) (by decide +kernel) rfl
theorem fl_RX6_44 : Cond.fieldLink RX6 44 (TX6 7).1 (TX6 7).2.1 (TX6 7).2.2.1 ∈ zall := zall_of (i := 444) (by decide +kernel) rfl
theorem fl_RX6_50 : Cond.fieldLink RX6 50 (TX6 8).1 (TX6 8).2.1 (TX6 8).2.2.1 ∈ zall := zall_of (i := 445) (by decide +kernel) rfl
theorem fl_RX6_54 : Cond.fieldLink RX6 54 (TX6 12).1 (TX6 12).2.1 (TX6 12).2.2.1 ∈ zall := zall_of (i := 449) (by decide +kernel) rfl
theorem fl_RX6_58 : Cond.fieldLink RX6 58 (TX6 1).1 (TX6 1).2.1 (TX6 1).2.2.1 ∈ zall := zall_of (i := 438) (by decide +kernel) rfl
theorem fl_RX6_77 : (RX6, 77, (TX5 9).1, (TX5 9).2.1, (TX5 9).2.2.1, "TriedLines") ∈ znF := by decide +kernel
theorem fl_RX6_80 : Cond.fieldLink RX6 80 (TX6 11).1 (TX6 11).2.1 (TX6 11).2.2.1 ∈ zall := zall_of (i := 448) (by decide +kernel) rfl
theorem fl_RX6_86 : (RX6, 86, (TX2 3).1, (TX2 3).2.1, (TX2 3).2.2.1, "TriedLines") ∈ znF := by decide +kernel
theorem fl_RX6_89 : (RX6, 89, (TX2 4).1, (TX2 4).2.1, (TX2 4).2.2.1, "TriedLines") ∈ znF := by decide +kernel
theorem fl_RX6_96 : Cond.fieldLink RX6 96 (TX6 9).1 (TX6 9).2.1 (TX6 9).2.2.1 ∈ zall := zall_of (i := 446) (by decide +kernel) rfl
theorem fl_RX6_100 : Cond.fieldLink RX6 100 (TX6 10).1 (TX6 10).2.1 (TX6 10).2.2.1 ∈ zall := zall_of (i := 447) (by decide +kernel) rfl
theorem fl_RX6_103 : (RX6, 103, (TX2 5).1, (TX2 5).2.1, (TX2 5).2.2.1, "TriedLines") ∈ znF := by decide +kernel
theorem fl_RX6_109 : (RX6, 109, (TX5 10).1, (TX5 10).2.1, (TX5 10).2.2.1, "TriedLines") ∈ znF := by decide +kernel
theorem fl_RX6_112 : (RX6, 112, (TX2 0).1, (TX2 0).2.1, (TX2 0).2.2.1, "TriedLines") ∈ znF := by decide +kernel
theorem fl_RX6_115 : (RX6, 115, (TX2 1).1, (TX2 1).2.1, (TX2 1).2.2.1, "TriedLines") ∈ znF := by decide +kernel
theorem fl_RX6_118 : (RX6, 118, (TX2 2).1, (TX2 2).2.1, (TX2 2).2.2.1, "TriedLines") ∈ znF := by decide +kernel
theorem fl_RX6_125 : (RX6, 125, (TX3 9).1, (TX3 9).2.1, (TX3 9).2.2.1, "TriedLines") ∈ znF := by decide +kernel
theorem fl_RX6_128 : (RX6, 128, (TX3 6).1, (TX3 6).2.1, (TX3 6).2.2.1, "TriedLines") ∈ znF := by decide +kernel
theorem fl_RX6_155 : (RX6, 155, (TX3 1).1, (TX3 1).2.1, (TX3 1).2.2.1, "TriedLines") ∈ znF := by decide +kernel
theorem fl_RX6_161 : (RX6, 161, (TX4 1).1, (TX4 1).2.1, (TX4 1).2.2.1, "TriedLines") ∈ znF := by decide +kernel
theorem fl_RX6_166 : (RX6, 166, (TX3 5).1, (TX3 5).2.1, (TX3 5).2.2.1, "TriedLines") ∈ znF := by decide +kernel
theorem fl_RX6_173 : (RX6, 173, (TX3 10).1, (TX3 10).2.1, (TX3 10).2.2.1, "TriedLines") ∈ znF := by decide +kernel
theorem fl_RX6_179 : (RX6, 179, (TX3 2).1, (TX3 2).2.1, (TX3 2).2.2.1, "TriedLines") ∈ znF := by decide +kernel
theorem fl_RX6_183 : (RX6, 183, (TX0 1).1, (TX0 1).2.1, (TX0 1).2.2.1, "TriedLines") ∈ znF := by decide +kernel
theorem fl_RX6_188 : (RX6, 188, (TX0 2).1, (TX0 2).2.1, (TX0 2).2.2.1, "TriedLines") ∈ znF := by decide +kernel
theorem fl_RX6_191 : (RX6, 191, (TX0 3).1, (TX0 3).2.1, (TX0 3).2.2.1, "TriedLines") ∈ znF := by decide +kernel
theorem fl_RX6_195 : (RX6, 195, (TX0 4).1, (TX0 4).2.1, (TX0 4).2.2.1, "TriedLines") ∈ znF := by decide +kernel
theorem fl_RX6_198 : (RX6, 198, (TX0 5).1, (TX0 5).2.1, (TX0 5).2.2.1, "TriedLines") ∈ znF := by decide +kernel
theorem fl_RX6_216 : (RX6, 216, (TX3 4).1, (TX3 4).2.1, (TX3 4).2.2.1, "TriedLines") ∈ znF := by decide +kernel
theorem fl_RX6_219 : (RX6, 219, (TX3 3).1, (TX3 3).2.1, (TX3 3).2.2.1, "TriedLines") ∈ znF := by decide +kernel
theorem fl_RX6_225 : (RX6, 225, (TX1 0).1, (TX1 0).2.1, (TX1 0).2.2.1, "TriedLines") ∈ znF := by decide +kernel
theorem fl_RX6_230 : (RX6, 230, (TX1 2).1, (TX1 2).2.1, (TX1 2).2.2.1, "TriedLines") ∈ znF := by decide +kernel
theorem fl_RX6_233 : (RX6, 233, (TX1 3).1, (TX1 3).2.1, (TX1 3).2.2.1, "TriedLines") ∈ znF := by decide +kernel
theorem fl_RX6_236 : (RX6, 236, (TX1 4).1, (TX1 4).2.1, (TX1 4).2.2.1, "TriedLines") ∈ znF := by decide +kernel
theorem fl_RX6_239 : (RX6, 239, (TX1 5).1, (TX1 5).2.1, (TX1 5).2.2.1, "TriedLines") ∈ znF := by decide +kernel
theorem fl_RX6_242 : (RX6, 242, (TX1 6).1, (TX1 6).2.1, (TX1 6).2.2.1, "TriedLines") ∈ znF := by decide +kernel
theorem fl_RX6_245 : (RX6, 245, (TX2 7).1, (TX2 7).2.1, (TX2 7).2.2.1, "TriedLines") ∈ znF := by decide +kernel
theorem fl_RX6_248 : (RX6, 248, (TX1 7).1, (TX1 7).2.1, (TX1 7).2.2.1, "TriedLines") ∈ znF := by decide +kernel
theorem fl_RX6_254 : (RX6, 254, (TX3 8).1, (TX3 8).2.1, (TX3 8).2.2.1, "TriedLines") ∈ znF := by decide +kernel
theorem fl_RX6_261 : (RX6, 261, (TX3 11).1, (TX3 11).2.1, (TX3 11).2.2.1, "TriedLines") ∈ znF := by decide +kernel
theorem fl_RX6_287 : (RX6, 287, (TX4 5).1, (TX4 5).2.1, (TX4 5).2.2.1, "TriedLines") ∈ znF := by decide +kernel
theorem fl_RX6_293 : (RX6, 293, (TX2 6).1, (TX2 6).2.1, (TX2 6).2.2.1, "TriedLines") ∈ znF := by decide +kernel
theorem fl_RX0_9 : Cond.fieldLink RX0 9 (TX0 1).1 (TX0 1).2.1 (TX0 1).2.2.1 ∈ zall := zall_of (i := 287) (by decide +kernel) rfl
theorem fl_RX0_15 : Cond.fieldLink RX0 15 (TX0 2).1 (TX0 2).2.1 (TX0 2).2.2.1 ∈ zall := zall_of (i := 290) (by decide +kernel) rfl
theorem fl_RX0_18 : Cond.fieldLink RX0 18 (TX0 3).1 (TX0 3).2.1 (TX0 3).2.2.1 ∈ zall := zall_of (i := 293) (by decide +kernel) rfl
theorem fl_RX0_22 : Cond.fieldLink RX0 22 (TX0 4).1 (TX0 4).2.1 (TX0 4).2.2.1 ∈ zall := zall_of (i := 296) (by decide +kernel) rfl
theorem fl_RX0_25 : Cond.fieldLink RX0 25 (TX0 5).1 (TX0 5).2.1 (TX0 5).2.2.1 ∈ zall := zall_of (i := 299) (by decide +kernel) rfl
theorem fl_RX0_28 : Cond.fieldLink RX0 28 (TX0 6).1 (TX0 6).2.1 (TX0 6).2.2.1 ∈ zall := zall_of (i := 302) (by decide +kernel) rfl
theorem fl_RX0_31 : Cond.fieldLink RX0 31 (TX0 0).1 (TX0 0).2.1 (TX0 0).2.2.1 ∈ zall := zall_of (i := 286) (by decide +kernel) rfl
theorem fl_RX0_51 : (RX0, 51, (TX2 1).1, (TX2 1).2.1, (TX2 1).2.2.1, "TriedLines") ∈ znF := by decide +kernel
theorem fl_RX1_9 : Cond.fieldLink RX1 9 (TX1 7).1 (TX1 7).2.1 (TX1 7).2.2.1 ∈ zall := zall_of (i := 343) (by decide +kernel) rfl
theorem fl_RX1_15 : Cond.fieldLink RX1 15 (TX1 0).1 (TX1 0).2.1 (TX1 0).2.2.1 ∈ zall := zall_of (i := 323) (by decide +kernel) rfl
theorem fl_RX1_19 : Cond.fieldLink RX1 19 (TX1 1).1 (TX1 1).2.1 (TX1 1).2.2.1 ∈ zall := zall_of (i := 326) (by decide +kernel) rfl
theorem fl_RX1_22 : Cond.fieldLink RX1 22 (TX1 2).1 (TX1 2).2.1 (TX1 2).2.2.1 ∈ zall := zall_of (i := 328) (by decide +kernel) rfl
theorem fl_RX1_25 : Cond.fieldLink RX1 25 (TX1 3).1 (TX1 3).2.1 (TX1 3).2.2.1 ∈ zall := zall_of (i := 331) (by decide +kernel) rfl
theorem fl_RX1_28 : Cond.fieldLink RX1 28 (TX1 4).1 (TX1 4).2.1 (TX1 4).2.2.1 ∈ zall := zall_of (i := 334) (by decide +kernel) rfl
theorem fl_RX1_31 : Cond.fieldLink RX1 31 (TX1 5).1 (TX1 5).2.1 (TX1 5).2.2.1 ∈ zall := zall_of (i := 337) (by decide +kernel) rfl
theorem fl_RX1_34 : Cond.fieldLink RX1 34 (TX1 6).1 (TX1 6).2.1 (TX1 6).2.2.1 ∈ zall := zall_of (i := 340) (by decide +kernel) rfl
theorem fl_RX2_9 : Cond.fieldLink RX2 9 (TX2 7).1 (TX2 7).2.1 (TX2 7).2.2.1 ∈ zall := zall_of (i := 188) (by decide +kernel) rfl
theorem fl_RX2_15 : Cond.fieldLink RX2 15 (TX2 8).1 (TX2 8).2.1 (TX2 8).2.2.1 ∈ zall := zall_of (i := 192) (by decide +kernel) rfl
theorem fl_RX2_18 : Cond.fieldLink RX2 18 (TX2 9).1 (TX2 9).2.1 (TX2 9).2.2.1 ∈ zall := zall_of (i := 193) (by decide +kernel) rfl
theorem fl_RX2_21 : Cond.fieldLink RX2 21 (TX2 10).1 (TX2 10).2.1 (TX2 10).2.2.1 ∈ zall := zall_of (i := 194) (by decide +kernel) rfl
theorem fl_RX2_25 : Cond.fieldLink RX2 25 (TX2 11).1 (TX2 11).2.1 (TX2 11).2.2.1 ∈ zall := zall_of (i := 195) (by decide +kernel) rfl
theorem fl_RX2_28 : Cond.fieldLink RX2 28 (TX2 12).1 (TX2 12).2.1 (TX2 12).2.2.1 ∈ zall := zall_of (i := 198) (by decide +kernel) rfl
theorem fl_RX2_31 : Cond.fieldLink RX2 31 (TX2 0).1 (TX2 0).2.1 (TX2 0).2.2.1 ∈ zall := zall_of (i := 163) (by decide +kernel) rfl
theorem fl_RX2_35 : Cond.fieldLink RX2 35 (TX2 1).1 (TX2 1).2.1 (TX2 1).2.2.1 ∈ zall := zall_of (i := 167) (by decide +kernel) rfl
theorem fl_RX2_38 : Cond.fieldLink RX2 38 (TX2 2).1 (TX2 2).2.1 (TX2 2).2.2.1 ∈ zall := zall_of (i := 171) (by decide +kernel) rfl
theorem fl_RX2_41 : Cond.fieldLink RX2 41 (TX2 3).1 (TX2 3).2.1 (TX2 3).2.2.1 ∈ zall := zall_of (i := 175) (by decide +kernel) rfl
theorem fl_RX2_44 : Cond.fieldLink RX2 44 (TX2 4).1 (TX2 4).2.1 (TX2 4).2.2.1 ∈ zall := zall_of (i := 178) (by decide +kernel) rfl
theorem fl_RX2_47 : Cond.fieldLink RX2 47 (TX2 5).1 (TX2 5).2.1 (TX2 5).2.2.1 ∈ zall := zall_of (i := 181) (by decide +kernel) rfl
theorem fl_RX2_50 : Cond.fieldLink RX2 50 (TX2 6).1 (TX2 6).2.1 (TX2 6).2.2.1 ∈ zall := zall_of (i := 185) (by decide +kernel) rfl
theorem fl_RX3_9 : Cond.fieldLink RX3 9 (TX3 1).1 (TX3 1).2.1 (TX3 1).2.2.1 ∈ zall := zall_of (i := 364) (by decide +kernel) rfl
theorem fl_RX3_17 : Cond.fieldLink RX3 17 (TX3 2).1 (TX3 2).2.1 (TX3 2).2.2.1 ∈ zall := zall_of (i := 366) (by decide +kernel) rfl
theorem fl_RX3_23 : Cond.fieldLink RX3 23 (TX3 3).1 (TX3 3).2.1 (TX3 3).2.2.1 ∈ zall := zall_of (i := 368) (by decide +kernel) rfl
theorem fl_RX3_27 : Cond.fieldLink RX3 27 (TX3 4).1 (TX3 4).2.1 (TX3 4).2.2.1 ∈ zall := zall_of (i := 370) (by decide +kernel) rfl
theorem fl_RX3_30 : Cond.fieldLink RX3 30 (TX3 5).1 (TX3 5).2.1 (TX3 5).2.2.1 ∈ zall := zall_of (i := 372) (by decide +kernel) rfl
theorem fl_RX3_33 : Cond.fieldLink RX3 33 (TX3 0).1 (TX3 0).2.1 (TX3 0).2.2.1 ∈ zall := zall_of (i := 363) (by decide +kernel) rfl
theorem fl_RX3_41 : Cond.fieldLink RX3 41 (TX3 7).1 (TX3 7).2.1 (TX3 7).2.2.1 ∈ zall := zall_of (i := 376) (by decide +kernel) rfl
theorem fl_RX3_45 : Cond.fieldLink RX3 45 (TX3 8).1 (TX3 8).2.1 (TX3 8).2.2.1 ∈ zall := zall_of (i := 377) (by decide +kernel) rfl
theorem fl_RX3_48 : Cond.fieldLink RX3 48 (TX3 6).1 (TX3 6).2.1 (TX3 6).2.2.1 ∈ zall := zall_of (i := 374) (by decide +kernel) rfl
theorem fl_RX3_51 : Cond.fieldLink RX3 51 (TX3 9).1 (TX3 9).2.1 (TX3 9).2.2.1 ∈ zall := zall_of (i := 379) (by decide +kernel) rfl
theorem fl_RX3_54 : Cond.fieldLink RX3 54 (TX3 10).1 (TX3 10).2.1 (TX3 10).2.2.1 ∈ zall := zall_of (i := 381) (by decide +kernel) rfl
theorem fl_RX3_57 : Cond.fieldLink RX3 57 (TX3 11).1 (TX3 11).2.1 (TX3 11).2.2.1 ∈ zall := zall_of (i := 383) (by decide +kernel) rfl
theorem fl_RX3_60 : (RX3, 60, (TX2 11).1, (TX2 11).2.1, (TX2 11).2.2.1, "TriedLines") ∈ znF := by decide +kernel
theorem fl_RX3_86 : (RX3, 86, (TX1 0).1, (TX1 0).2.1, (TX1 0).2.2.1, "TriedLines") ∈ znF := by decide +kernel
theorem fl_RX3_89 : (RX3, 89, (TX2 7).1, (TX2 7).2.1, (TX2 7).2.2.1, "TriedLines") ∈ znF := by decide +kernel
theorem fl_RX3_110 : (RX3, 110, (TX1 2).1, (TX1 2).2.1, (TX1 2).2.2.1, "TriedLines") ∈ znF := by decide +kernel
theorem fl_RX3_113 : (RX3, 113, (TX1 3).1, (TX1 3).2.1, (TX1 3).2.2.1, "TriedLines") ∈ znF := by decide +kernel
theorem fl_RX3_127 : (RX3, 127, (TX1 7).1, (TX1 7).2.1, (TX1 7).2.2.1, "TriedLines") ∈ znF := by decide +kernel
theorem fl_RX3_130 : (RX3, 130, (TX1 5).1, (TX1 5).2.1, (TX1 5).2.2.1, "TriedLines") ∈ znF := by decide +kernel
theorem fl_RX3_141 : (RX3, 141, (TX1 4).1, (TX1 4).2.1, (TX1 4).2.2.1, "TriedLines") ∈ znF := by decide +kernel
theorem fl_RX3_151 : (RX3, 151, (TX1 1).1, (TX1 1).2.1, (TX1 1).2.2.1, "TriedLines") ∈ znF := by decide +kernel
theorem fl_RX3_154 : (RX3, 154, (TX1 6).1, (TX1 6).2.1, (TX1 6).2.2.1, "TriedLines") ∈ znF := by decide +kernel
theorem fl_RX3_174 : (RX3, 174, (TX0 2).1, (TX0 2).2.1, (TX0 2).2.2.1, "TriedLines") ∈ znF := by decide +kernel
theorem fl_RX3_177 : (RX3, 177, (TX0 4).1, (TX0 4).2.1, (TX0 4).2.2.1, "TriedLines") ∈ znF := by decide +kernel
theorem fl_RX3_211 : (RX3, 211, (TX0 5).1, (TX0 5).2.1, (TX0 5).2.2.1, "TriedLines") ∈ znF := by decide +kernel
theorem fl_RX3_214 : (RX3, 214, (TX0 3).1, (TX0 3).2.1, (TX0 3).2.2.1, "TriedLines") ∈ znF := by decide +kernel
theorem fl_RX3_217 : (RX3, 217, (TX0 1).1, (TX0 1).2.1, (TX0 1).2.2.1, "TriedLines") ∈ znF := by decide +kernel
theorem fl_RX3_220 : (RX3, 220, (TX2 2).1, (TX2 2).2.1, (TX2 2).2.2.1, "TriedLines") ∈ znF := by decide +kernel
theorem fl_RX3_229 : (RX3, 229, (TX2 5).1, (TX2 5).2.1, (TX2 5).2.2.1, "TriedLines") ∈ znF := by decide +kernel
theorem fl_RX4_9 : Cond.fieldLink RX4 9 (TX4 1).1 (TX4 1).2.1 (TX4 1).2.2.1 ∈ zall := zall_of (i := 417) (by decide +kernel) rfl
theorem fl_RX4_15 : Cond.fieldLink RX4 15 (TX4 0).1 (TX4 0).2.1 (TX4 0).2.2.1 ∈ zall := zall_of (i := 416) (by decide +kernel) rfl
theorem fl_RX4_19 : (RX4, 19, (TX2 11).1, (TX2 11).2.1, (TX2 11).2.2.1, "TriedLines") ∈ znF := by decide +kernel
theorem fl_RX4_30 : Cond.fieldLink RX4 30 (TX4 2).1 (TX4 2).2.1 (TX4 2).2.2.1 ∈ zall := zall_of (i := 419) (by decide +kernel) rfl
theorem fl_RX4_34 : Cond.fieldLink RX4 34 (TX4 3).1 (TX4 3).2.1 (TX4 3).2.2.1 ∈ zall := zall_of (i := 420) (by decide +kernel) rfl
theorem fl_RX4_37 : Cond.fieldLink RX4 37 (TX4 4).1 (TX4 4).2.1 (TX4 4).2.2.1 ∈ zall := zall_of (i := 421) (by decide +kernel) rfl
theorem fl_RX4_40 : Cond.fieldLink RX4 40 (TX4 5).1 (TX4 5).2.1 (TX4 5).2.2.1 ∈ zall := zall_of (i := 422) (by decide +kernel) rfl
theorem fl_RX4_78 : (RX4, 78, (TX2 0).1, (TX2 0).2.1, (TX2 0).2.2.1, "TriedLines") ∈ znF := by decide +kernel
theorem fl_RX5_9 : Cond.fieldLink RX5 9 (TX5 0).1 (TX5 0).2.1 (TX5 0).2.2.1 ∈ zall := zall_of (i := 235) (by decide +kernel) rfl
theorem fl_RX5_15 : Cond.fieldLink RX5 15 (TX5 1).1 (TX5 1).2.1 (TX5 1).2.2.1 ∈ zall := zall_of (i := 236) (by decide +kernel) rfl
theorem fl_RX5_33 : Cond.fieldLink RX5 33 (TX5 2).1 (TX5 2).2.1 (TX5 2).2.2.1 ∈ zall := zall_of (i := 237) (by decide +kernel) rfl
theorem fl_RX5_37 : Cond.fieldLink RX5 37 (TX5 5).1 (TX5 5).2.1 (TX5 5).2.2.1 ∈ zall := zall_of (i := 240) (by decide +kernel) rfl
theorem fl_RX5_40 : Cond.fieldLink RX5 40 (TX5 7).1 (TX5 7).2.1 (TX5 7).2.2.1 ∈ zall := zall_of (i := 242) (by decide +kernel) rfl
theorem fl_RX5_44 : Cond.fieldLink RX5 44 (TX5 8).1 (TX5 8).2.1 (TX5 8).2.2.1 ∈ zall := zall_of (i := 243) (by decide +kernel) rfl
theorem fl_RX5_47 : Cond.fieldLink RX5 47 (TX5 9).1 (TX5 9).2.1 (TX5 9).2.2.1 ∈ zall := zall_of (i := 244) (by decide +kernel) rfl
theorem fl_RX5_50 : Cond.fieldLink RX5 50 (TX5 10).1 (TX5 10).2.1 (TX5 10).2.2.1 ∈ zall := zall_of (i := 246) (by decide +kernel) rfl
theorem fl_RX5_60 : Cond.fieldLink RX5 60 (TX5 3).1 (TX5 3).2.1 (TX5 3).2.2.1 ∈ zall := zall_of (i := 238) (by decide +kernel) rfl
theorem fl_RX5_66 : Cond.fieldLink RX5 66 (TX5 4).1 (TX5 4).2.1 (TX5 4).2.2.1 ∈ zall := zall_of (i := 239) (by decide +kernel) rfl
theorem fl_RX5_73 : (RX5, 73, (TX2 5).1, (TX2 5).2.1, (TX2 5).2.2.1, "TriedLines") ∈ znF := by decide +kernel
theorem fl_RX5_80 : Cond.fieldLink RX5 80 (TX5 6).1 (TX5 6).2.1 (TX5 6).2.2.1 ∈ zall := zall_of (i := 241) (by decide +kernel) rfl
theorem fl_RX5_144 : (RX5, 144, (TX2 0).1, (TX2 0).2.1, (TX2 0).2.2.1, "TriedLines") ∈ znF := by decide +kernel
theorem fl_RX5_148 : (RX5, 148, (TX2 1).1, (TX2 1).2.1, (TX2 1).2.2.1, "TriedLines") ∈ znF := by decide +kernel
theorem fl_RX5_152 : (RX5, 152, (TX2 2).1, (TX2 2).2.1, (TX2 2).2.2.1, "TriedLines") ∈ znF := by decide +kernel
theorem fl_RX5_162 : (RX5, 162, (TX2 4).1, (TX2 4).2.1, (TX2 4).2.2.1, "TriedLines") ∈ znF := by decide +kernel
theorem fl_RX5_166 : (RX5, 166, (TX2 3).1, (TX2 3).2.1, (TX2 3).2.2.1, "TriedLines") ∈ znF := by decide +kernel
theorem fl_RX5_172 : (RX5, 172, (TX2 6).1, (TX2 6).2.1, (TX2 6).2.2.1, "TriedLines") ∈ znF := by decide +kernel
theorem fl_RX5_181 : (RX5, 181, (TX2 12).1, (TX2 12).2.1, (TX2 12).2.2.1, "TriedLines") ∈ znF := by decide +kernel
theorem fl_RX5_192 : (RX5, 192, (TX2 7).1, (TX2 7).2.1, (TX2 7).2.2.1, "TriedLines") ∈ znF := by decide +kernel
theorem fl_RX7_9 : Cond.fieldLink RX7 9 (TX7 3).1 (TX7 3).2.1 (TX7 3).2.2.1 ∈ zall := zall_of (i := 1128) (by decide +kernel) rfl
theorem fl_RX7_13 : Cond.fieldLink RX7 13 (TX7 4).1 (TX7 4).2.1 (TX7 4).2.2.1 ∈ zall := zall_of (i := 1129) (by decide +kernel) rfl
theorem fl_RX7_17 : Cond.fieldLink RX7 17 (TX7 6).1 (TX7 6).2.1 (TX7 6).2.2.1 ∈ zall := zall_of (i := 1131) (by decide +kernel) rfl
theorem fl_RX7_20 : Cond.fieldLink RX7 20 (TX7 7).1 (TX7 7).2.1 (TX7 7).2.2.1 ∈ zall := zall_of (i := 1132) (by decide +kernel) rfl
theorem fl_RX7_23 : Cond.fieldLink RX7 23 (TX7 10).1 (TX7 10).2.1 (TX7 10).2.2.1 ∈ zall := zall_of (i := 1135) (by decide +kernel) rfl
theorem fl_RX7_26 : Cond.fieldLink RX7 26 (TX7 11).1 (TX7 11).2.1 (TX7 11).2.2.1 ∈ zall := zall_of (i := 1136) (by decide +kernel) rfl
theorem fl_RX7_29 : Cond.fieldLink RX7 29 (TX7 12).1 (TX7 12).2.1 (TX7 12).2.2.1 ∈ zall := zall_of (i := 1137) (by decide +kernel) rfl
theorem fl_RX7_32 : Cond.fieldLink RX7 32 (TX7 13).1 (TX7 13).2.1 (TX7 13).2.2.1 ∈ zall := zall_of (i := 1138) (by decide +kernel) rfl
theorem fl_RX7_35 : Cond.fieldLink RX7 35 (TX7 14).1 (TX7 14).2.1 (TX7 14).2.2.1 ∈ zall := zall_of (i := 1139) (by decide +kernel) rfl
theorem fl_RX7_38 : Cond.fieldLink RX7 38 (TX7 15).1 (TX7 15).2.1 (TX7 15).2.2.1 ∈ zall := zall_of (i := 1140) (by decide +kernel) rfl
theorem fl_RX7_41 : Cond.fieldLink RX7 41 (TX7 16).1 (TX7 16).2.1 (TX7 16).2.2.1 ∈ zall := zall_of (i := 1141) (by decide +kernel) rfl
theorem fl_RX7_44 : Cond.fieldLink RX7 44 (TX7 17).1 (TX7 17).2.1 (TX7 17).2.2.1 ∈ zall := zall_of (i := 1142) (by decide +kernel) rfl
theorem fl_RX7_47 : Cond.fieldLink RX7 47 (TX7 18).1 (TX7 18).2.1 (TX7 18).2.2.1 ∈ zall := zall_of (i := 1143) (by decide +kernel) rfl
theorem fl_RX7_50 : Cond.fieldLink RX7 50 (TX7 19).1 (TX7 19).2.1 (TX7 19).2.2.1 ∈ zall := zall_of (i := 1144) (by decide +kernel) rfl
theorem fl_RX7_53 : Cond.fieldLink RX7 53 (TX7 30).1 (TX7 30).2.1 (TX7 30).2.2.1 ∈ zall := zall_of (i := 1155) (by decide +kernel) rfl
theorem fl_RX7_56 : Cond.fieldLink RX7 56 (TX7 31).1 (TX7 31).2.1 (TX7 31).2.2.1 ∈ zall := zall_of (i := 1156) (by decide +kernel) rfl
theorem fl_RX7_59 : Cond.fieldLink RX7 59 (TX7 32).1 (TX7 32).2.1 (TX7 32).2.2.1 ∈ zall := zall_of (i := 1157) (by decide +kernel) rfl
theorem fl_RX7_62 : Cond.fieldLink RX7 62 (TX7 38).1 (TX7 38).2.1 (TX7 38).2.2.1 ∈ zall := zall_of (i := 1163) (by decide +kernel) rfl
theorem fl_RX7_65 : Cond.fieldLink RX7 65 (TX7 0).1 (TX7 0).2.1 (TX7 0).2.2.1 ∈ zall := zall_of (i := 1125) (by decide +kernel) rfl
theorem fl_RX7_68 : Cond.fieldLink RX7 68 (TX7 1).1 (TX7 1).2.1 (TX7 1).2.2.1 ∈ zall := zall_of (i := 1126) (by decide +kernel) rfl
theorem fl_RX7_71 : Cond.fieldLink RX7 71 (TX7 5).1 (TX7 5).2.1 (TX7 5).2.2.1 ∈ zall := zall_of (i := 1130) (by decide +kernel) rfl
theorem fl_RX7_78 : Cond.fieldLink RX7 78 (TX7 21).1 (TX7 21).2.1 (TX7 21).2.2.1 ∈ zall := zall_of (i := 1146) (by decide +kernel) rfl
theorem fl_RX7_81 : Cond.fieldLink RX7 81 (TX7 23).1 (TX7 23).2.1 (TX7 23).2.2.1 ∈ zall := zall_of (i := 1148) (by decide +kernel) rfl
theorem fl_RX7_88 : Cond.fieldLink RX7 88 (TX7 22).1 (TX7 22).2.1 (TX7 22).2.2.1 ∈ zall := zall_of (i := 1147) (by decide +kernel) rfl
theorem fl_RX7_91 : Cond.fieldLink RX7 91 (TX7 24).1 (TX7 24).2.1 (TX7 24).2.2.1 ∈ zall := zall_of (i := 1149) (by decide +kernel) rfl
theorem fl_RX7_98 : Cond.fieldLink RX7 98 (TX7 25).1 (TX7 25).2.1 (TX7 25).2.2.1 ∈ zall := zall_of (i := 1150) (by decide +kernel) rfl
theorem fl_RX7_111 : Cond.fieldLink RX7 111 (TX7 26).1 (TX7 26).2.1 (TX7 26).2.2.1 ∈ zall := zall_of (i := 1151) (by decide +kernel) rfl
theorem fl_RX7_114 : Cond.fieldLink RX7 114 (TX7 27).1 (TX7 27).2.1 (TX7 27).2.2.1 ∈ zall := zall_of (i := 1152) (by decide +kernel) rfl
theorem fl_RX7_134 : Cond.fieldLink RX7 134 (TX7 28).1 (TX7 28).2.1 (TX7 28).2.2.1 ∈ zall := zall_of (i := 1153) (by decide +kernel) rfl
theorem fl_RX7_162 : Cond.fieldLink RX7 162 (TX7 9).1 (TX7 9).2.1 (TX7 9).2.2.1 ∈ zall := zall_of (i := 1134) (by decide +kernel) rfl
theorem fl_RX7_168 : Cond.fieldLink RX7 168 (TX7 29).1 (TX7 29).2.1 (TX7 29).2.2.1 ∈ zall := zall_of (i := 1154) (by decide +kernel) rfl
theorem fl_RX7_217 : Cond.fieldLink RX7 217 (TX7 2).1 (TX7 2).2.1 (TX7 2).2.2.1 ∈ zall := zall_of (i := 1127) (by decide +kernel) rfl
theorem fl_RX7_223 : Cond.fieldLink RX7 223 (TX7 8).1 (TX7 8).2.1 (TX7 8).2.2.1 ∈ zall := zall_of (i := 1133) (by decide +kernel) rfl
theorem fl_RX7_226 : Cond.fieldLink RX7 226 (TX7 20).1 (TX7 20).2.1 (TX7 20).2.2.1 ∈ zall := zall_of (i := 1145) (by decide +kernel) rfl
theorem fl_RX7_229 : Cond.fieldLink RX7 229 (TX7 33).1 (TX7 33).2.1 (TX7 33).2.2.1 ∈ zall := zall_of (i := 1158) (by decide +kernel) rfl
theorem fl_RX7_238 : Cond.fieldLink RX7 238 (TX7 34).1 (TX7 34).2.1 (TX7 34).2.2.1 ∈ zall := zall_of (i := 1159) (by decide +kernel) rfl
theorem fl_RX7_240 : Cond.fieldLink RX7 240 (TX7 35).1 (TX7 35).2.1 (TX7 35).2.2.1 ∈ zall := zall_of (i := 1160) (by decide +kernel) rfl
theorem fl_RX7_242 : Cond.fieldLink RX7 242 (TX7 36).1 (TX7 36).2.1 (TX7 36).2.2.1 ∈ zall := zall_of (i := 1161) (by decide +kernel) rfl
theorem fl_RX7_254 : Cond.fieldLink RX7 254 (TX7 37).1 (TX7 37).2.1 (TX7 37).2.2.1 ∈ zall := zall_of (i := 1162) (by decide +kernel) rfl
theorem fl_RX7_317 : Cond.fieldLink RX7 317 (TX7 40).1 (TX7 40).2.1 (TX7 40).2.2.1 ∈ zall := zall_of (i := 1165) (by decide +kernel) rfl
theorem fl_RX7_320 : Cond.fieldLink RX7 320 (TX7 39).1 (TX7 39).2.1 (TX7 39).2.2.1 ∈ zall := zall_of (i := 1164) (by decide +kernel) rfl
theorem fl_RX7_344 : Cond.fieldLink RX7 344 (TX7 41).1 (TX7 41).2.1 (TX7 41).2.2.1 ∈ zall := zall_of (i := 1166) (by decide +kernel) rfl
theorem znat : Cond.native arraycopyName ∈ zall := zall_of (i := 669) (by decide +kernel) rfl
theorem zstt : Cond.static arraycopyName ∈ zall := zall_of (i := 668) (by decide +kernel) rfl
theorem zsys : Cond.initialized "java/lang/System" ∈ zall := zall_of (i := 144) (by decide +kernel) rfl
theorem ml_RX6_61 : Cond.methodLink RX6 61 yX6_putBytes ∈ zall := zall_of (i := 481) (by decide +kernel) rfl
theorem ml_RX6_65 : Cond.methodLink RX6 65 yX6_isWithin ∈ zall := zall_of (i := 489) (by decide +kernel) rfl
theorem ml_RX6_69 : Cond.methodLink RX6 69 yX6_refuse ∈ zall := zall_of (i := 492) (by decide +kernel) rfl
theorem ml_RX6_73 : (RX6, 73, yX5_readText, "TriedLines") ∈ znM := by decide +kernel
theorem ml_RX6_83 : (RX6, 83, yX2_copyFrom, "TriedLines") ∈ znM := by decide +kernel
theorem ml_RX6_92 : (RX6, 92, yX3_startOver, "TriedLines") ∈ znM := by decide +kernel
theorem ml_RX6_106 : Cond.methodLink RX6 106 yX6_answer ∈ zall := zall_of (i := 686) (by decide +kernel) rfl
theorem ml_RX6_121 : (RX6, 121, yX2_addresses, "TriedLines") ∈ znM := by decide +kernel
theorem ml_RX6_131 : (RX6, 131, yX2_hasDeed, "TriedLines") ∈ znM := by decide +kernel
theorem ml_RX6_135 : (RX6, 135, yX2_sortOf, "TriedLines") ∈ znM := by decide +kernel
theorem ml_RX6_139 : (RX6, 139, yX2_wholeOf, "TriedLines") ∈ znM := by decide +kernel
theorem ml_RX6_142 : (RX6, 142, yX2_isIndexed, "TriedLines") ∈ znM := by decide +kernel
theorem ml_RX6_145 : Cond.methodLink RX6 145 yX6_asBit ∈ zall := zall_of (i := 725) (by decide +kernel) rfl
theorem ml_RX6_149 : (RX6, 149, yX2_hasAddress, "TriedLines") ∈ znM := by decide +kernel
theorem ml_RX6_152 : (RX6, 152, yX3_wordAt, "TriedLines") ∈ znM := by decide +kernel
theorem ml_RX6_158 : Cond.methodLink RX6 158 yX6_playCommits ∈ zall := zall_of (i := 761) (by decide +kernel) rfl
theorem ml_RX6_164 : (RX6, 164, yX4_startOver, "TriedLines") ∈ znM := by decide +kernel
theorem ml_RX6_169 : (RX6, 169, yX4_play, "TriedLines") ∈ znM := by decide +kernel
theorem ml_RX6_176 : (RX6, 176, yX2_hasCore, "TriedLines") ∈ znM := by decide +kernel
theorem ml_RX6_201 : (RX6, 201, yX2_lineOf, "TriedLines") ∈ znM := by decide +kernel
theorem ml_RX6_204 : (RX6, 204, yX0_find, "TriedLines") ∈ znM := by decide +kernel
theorem ml_RX6_207 : (RX6, 207, yX2_offsetOf, "TriedLines") ∈ znM := by decide +kernel
theorem ml_RX6_210 : (RX6, 210, yX0_wordIn, "TriedLines") ∈ znM := by decide +kernel
theorem ml_RX6_213 : (RX6, 213, yX0_markedLines, "TriedLines") ∈ znM := by decide +kernel
theorem ml_RX6_222 : (RX6, 222, yX3_hasDeedsLeft, "TriedLines") ∈ znM := by decide +kernel
theorem ml_RX6_251 : (RX6, 251, yX3_lostAfter, "TriedLines") ∈ znM := by decide +kernel
theorem ml_RX6_255 : (RX6, 255, yX3_copyFrom, "TriedLines") ∈ znM := by decide +kernel
theorem ml_RX6_258 : (RX6, 258, yX3_takeStep, "TriedLines") ∈ znM := by decide +kernel
theorem ml_RX6_264 : (RX6, 264, yX3_takeRounds, "TriedLines") ∈ znM := by decide +kernel
theorem ml_RX6_267 : Cond.methodLink RX6 267 yX6_isSeed ∈ zall := zall_of (i := 988) (by decide +kernel) rfl
theorem ml_RX6_270 : (RX6, 270, yX3_takeDraws, "TriedLines") ∈ znM := by decide +kernel
theorem ml_RX6_274 : (RX6, 274, yX3_endTries, "TriedLines") ∈ znM := by decide +kernel
theorem ml_RX6_277 : Cond.methodLink RX6 277 yX6_isTrial ∈ zall := zall_of (i := 1010) (by decide +kernel) rfl
theorem ml_RX6_280 : (RX6, 280, yX3_isAllDone, "TriedLines") ∈ znM := by decide +kernel
theorem ml_RX6_284 : (RX6, 284, yX3_countInAll, "TriedLines") ∈ znM := by decide +kernel
theorem ml_RX6_296 : (RX6, 296, yX2_deedsInAll, "TriedLines") ∈ znM := by decide +kernel
theorem ml_RX0_35 : Cond.methodLink RX0 35 yX0_dropLine ∈ zall := zall_of (i := 678) (by decide +kernel) rfl
theorem ml_RX0_39 : Cond.methodLink RX0 39 arraycopyName ∈ zall := zall_of (i := 889) (by decide +kernel) rfl
theorem ml_RX0_45 : (RX0, 45, yX2_setOf, "TriedLines") ∈ znM := by decide +kernel
theorem ml_RX1_37 : Cond.methodLink RX1 37 arraycopyName ∈ zall := zall_of (i := 894) (by decide +kernel) rfl
theorem ml_RX2_53 : Cond.methodLink RX2 53 arraycopyName ∈ zall := zall_of (i := 667) (by decide +kernel) rfl
theorem ml_RX2_59 : Cond.methodLink RX2 59 yX2_addresses ∈ zall := zall_of (i := 631) (by decide +kernel) rfl
theorem ml_RX2_63 : Cond.methodLink RX2 63 yX2_hasDeed ∈ zall := zall_of (i := 716) (by decide +kernel) rfl
theorem ml_RX2_67 : Cond.methodLink RX2 67 yX2_wholeOf ∈ zall := zall_of (i := 799) (by decide +kernel) rfl
theorem ml_RX2_71 : Cond.methodLink RX2 71 yX2_isIndexed ∈ zall := zall_of (i := 800) (by decide +kernel) rfl
theorem ml_RX2_74 : Cond.methodLink RX2 74 yJ9_floorMod_7cf53 ∈ zall := zall_of (i := 801) (by decide +kernel) rfl
theorem ml_RX2_79 : Cond.methodLink RX2 79 yX2_hasAddress ∈ zall := zall_of (i := 636) (by decide +kernel) rfl
theorem ml_RX2_83 : Cond.methodLink RX2 83 yX2_hasCore ∈ zall := zall_of (i := 657) (by decide +kernel) rfl
theorem ml_RX3_65 : (RX3, 65, yX0_clear, "TriedLines") ∈ znM := by decide +kernel
theorem ml_RX3_68 : (RX3, 68, yX1_clear, "TriedLines") ∈ znM := by decide +kernel
theorem ml_RX3_69 : Cond.methodLink RX3 69 arraycopyName ∈ zall := zall_of (i := 884) (by decide +kernel) rfl
theorem ml_RX3_75 : (RX3, 75, yX0_copyFrom, "TriedLines") ∈ znM := by decide +kernel
theorem ml_RX3_79 : (RX3, 79, yX1_copyFrom, "TriedLines") ∈ znM := by decide +kernel
theorem ml_RX3_82 : (RX3, 82, yX2_hasCore, "TriedLines") ∈ znM := by decide +kernel
theorem ml_RX3_92 : Cond.methodLink RX3 92 yX3_hasDeedsLeft ∈ zall := zall_of (i := 899) (by decide +kernel) rfl
theorem ml_RX3_95 : (RX3, 95, yX2_wholeOf, "TriedLines") ∈ znM := by decide +kernel
theorem ml_RX3_99 : (RX3, 99, yX2_sortOf, "TriedLines") ∈ znM := by decide +kernel
theorem ml_RX3_102 : Cond.methodLink RX3 102 yX3_doBegin ∈ zall := zall_of (i := 902) (by decide +kernel) rfl
theorem ml_RX3_106 : Cond.methodLink RX3 106 yX3_doEnd ∈ zall := zall_of (i := 953) (by decide +kernel) rfl
theorem ml_RX3_116 : Cond.methodLink RX3 116 yX3_doGet ∈ zall := zall_of (i := 957) (by decide +kernel) rfl
theorem ml_RX3_119 : Cond.methodLink RX3 119 yX3_doPut ∈ zall := zall_of (i := 962) (by decide +kernel) rfl
theorem ml_RX3_122 : Cond.methodLink RX3 122 yJ9_floorMod_7cf53 ∈ zall := zall_of (i := 966) (by decide +kernel) rfl
theorem ml_RX3_133 : Cond.methodLink RX3 133 yX3_reach ∈ zall := zall_of (i := 906) (by decide +kernel) rfl
theorem ml_RX3_137 : Cond.methodLink RX3 137 yX3_markLine ∈ zall := zall_of (i := 949) (by decide +kernel) rfl
theorem ml_RX3_144 : Cond.methodLink RX3 144 yX3_marking ∈ zall := zall_of (i := 914) (by decide +kernel) rfl
theorem ml_RX3_147 : Cond.methodLink RX3 147 yX3_endTries ∈ zall := zall_of (i := 918) (by decide +kernel) rfl
theorem ml_RX3_157 : (RX3, 157, yX2_addressOf, "TriedLines") ∈ znM := by decide +kernel
theorem ml_RX3_161 : (RX3, 161, yX2_lineOf, "TriedLines") ∈ znM := by decide +kernel
theorem ml_RX3_165 : (RX3, 165, yX0_find, "TriedLines") ∈ znM := by decide +kernel
theorem ml_RX3_168 : (RX3, 168, yX2_offsetOf, "TriedLines") ∈ znM := by decide +kernel
theorem ml_RX3_171 : (RX3, 171, yX0_wordIn, "TriedLines") ∈ znM := by decide +kernel
theorem ml_RX3_181 : Cond.methodLink RX3 181 yX3_writeBack ∈ zall := zall_of (i := 932) (by decide +kernel) rfl
theorem ml_RX3_185 : (RX3, 185, yX0_setWord, "TriedLines") ∈ znM := by decide +kernel
theorem ml_RX3_189 : (RX3, 189, yX0_unmark, "TriedLines") ∈ znM := by decide +kernel
theorem ml_RX3_193 : Cond.methodLink RX3 193 yX3_ask ∈ zall := zall_of (i := 910) (by decide +kernel) rfl
theorem ml_RX3_196 : (RX3, 196, yX0_findRoom, "TriedLines") ∈ znM := by decide +kernel
theorem ml_RX3_199 : (RX3, 199, yX0_dropLine, "TriedLines") ∈ znM := by decide +kernel
theorem ml_RX3_203 : Cond.methodLink RX3 203 yX3_changeOthers ∈ zall := zall_of (i := 937) (by decide +kernel) rfl
theorem ml_RX3_207 : Cond.methodLink RX3 207 yX3_bringLine ∈ zall := zall_of (i := 941) (by decide +kernel) rfl
theorem ml_RX3_223 : Cond.methodLink RX3 223 yX3_lostAfter ∈ zall := zall_of (i := 926) (by decide +kernel) rfl
theorem ml_RX3_226 : Cond.methodLink RX3 226 yX3_takeStep ∈ zall := zall_of (i := 983) (by decide +kernel) rfl
theorem ml_RX3_231 : Cond.methodLink RX3 231 yX3_isAllDone ∈ zall := zall_of (i := 996) (by decide +kernel) rfl
theorem ml_RX4_24 : Cond.methodLink RX4 24 arraycopyName ∈ zall := zall_of (i := 769) (by decide +kernel) rfl
theorem ml_RX4_43 : (RX4, 43, yX2_hasDeed, "TriedLines") ∈ znM := by decide +kernel
theorem ml_RX4_47 : Cond.methodLink RX4 47 yX4_playDeed ∈ zall := zall_of (i := 775) (by decide +kernel) rfl
theorem ml_RX4_51 : (RX4, 51, yX2_sortOf, "TriedLines") ∈ znM := by decide +kernel
theorem ml_RX4_55 : (RX4, 55, yX2_wholeOf, "TriedLines") ∈ znM := by decide +kernel
theorem ml_RX4_59 : Cond.methodLink RX4 59 yX4_widen ∈ zall := zall_of (i := 782) (by decide +kernel) rfl
theorem ml_RX4_62 : Cond.methodLink RX4 62 yX4_touch ∈ zall := zall_of (i := 791) (by decide +kernel) rfl
theorem ml_RX4_65 : Cond.methodLink RX4 65 yJ9_floorMod_7cf53 ∈ zall := zall_of (i := 805) (by decide +kernel) rfl
theorem ml_RX4_70 : (RX4, 70, yX2_addressOf, "TriedLines") ∈ znM := by decide +kernel
theorem ml_RX4_74 : (RX4, 74, yX2_lineOf, "TriedLines") ∈ znM := by decide +kernel
theorem ml_RX4_81 : (RX4, 81, yX2_setOf, "TriedLines") ∈ znM := by decide +kernel
theorem ml_RX4_84 : Cond.methodLink RX4 84 yJ9_max_7cf53 ∈ zall := zall_of (i := 790) (by decide +kernel) rfl
theorem ml_RX5_19 : (RX5, 19, yX2_clear, "TriedLines") ∈ znM := by decide +kernel
theorem ml_RX5_24 : Cond.methodLink RX5 24 yJ9_min_7cf53 ∈ zall := zall_of (i := 504) (by decide +kernel) rfl
theorem ml_RX5_30 : Cond.methodLink RX5 30 yJ9_max_7cf53 ∈ zall := zall_of (i := 507) (by decide +kernel) rfl
theorem ml_RX5_53 : Cond.methodLink RX5 53 yX5_advance ∈ zall := zall_of (i := 510) (by decide +kernel) rfl
theorem ml_RX5_56 : Cond.methodLink RX5 56 yX5_readLine ∈ zall := zall_of (i := 517) (by decide +kernel) rfl
theorem ml_RX5_63 : Cond.methodLink RX5 63 yX5_readEnd ∈ zall := zall_of (i := 659) (by decide +kernel) rfl
theorem ml_RX5_69 : Cond.methodLink RX5 69 yX5_fail ∈ zall := zall_of (i := 587) (by decide +kernel) rfl
theorem ml_RX5_76 : Cond.methodLink RX5 76 yX5_kindOf ∈ zall := zall_of (i := 514) (by decide +kernel) rfl
theorem ml_RX5_83 : Cond.methodLink RX5 83 yJ0_length_8abf5 ∈ zall := zall_of (i := 530) (by decide +kernel) rfl
theorem ml_RX5_89 : Cond.methodLink RX5 89 yJ0_charAt_5068e ∈ zall := zall_of (i := 540) (by decide +kernel) rfl
theorem ml_RX5_93 : Cond.methodLink RX5 93 yX5_isName ∈ zall := zall_of (i := 526) (by decide +kernel) rfl
theorem ml_RX5_97 : Cond.methodLink RX5 97 yX5_takeName ∈ zall := zall_of (i := 600) (by decide +kernel) rfl
theorem ml_RX5_100 : Cond.methodLink RX5 100 yX5_takeWhole ∈ zall := zall_of (i := 604) (by decide +kernel) rfl
theorem ml_RX5_122 : Cond.methodLink RX5 122 yX5_sortHere ∈ zall := zall_of (i := 521) (by decide +kernel) rfl
theorem ml_RX5_125 : Cond.methodLink RX5 125 yX5_readMachine ∈ zall := zall_of (i := 591) (by decide +kernel) rfl
theorem ml_RX5_128 : Cond.methodLink RX5 128 yX5_readWord ∈ zall := zall_of (i := 619) (by decide +kernel) rfl
theorem ml_RX5_131 : Cond.methodLink RX5 131 yX5_readCore ∈ zall := zall_of (i := 637) (by decide +kernel) rfl
theorem ml_RX5_134 : Cond.methodLink RX5 134 yX5_readDeed ∈ zall := zall_of (i := 641) (by decide +kernel) rfl
theorem ml_RX5_140 : Cond.methodLink RX5 140 yX5_takeSetting ∈ zall := zall_of (i := 596) (by decide +kernel) rfl
theorem ml_RX5_157 : Cond.methodLink RX5 157 yX5_readRule ∈ zall := zall_of (i := 611) (by decide +kernel) rfl
theorem ml_RX5_175 : (RX5, 175, yX2_addresses, "TriedLines") ∈ znM := by decide +kernel
theorem ml_RX5_178 : (RX5, 178, yX2_hasAddress, "TriedLines") ∈ znM := by decide +kernel
theorem ml_RX5_185 : (RX5, 185, yX2_addWord, "TriedLines") ∈ znM := by decide +kernel
theorem ml_RX5_189 : (RX5, 189, yX2_hasCore, "TriedLines") ∈ znM := by decide +kernel
theorem ml_RX5_195 : Cond.methodLink RX5 195 yX5_readRest ∈ zall := zall_of (i := 649) (by decide +kernel) rfl
theorem ml_RX5_198 : (RX5, 198, yX2_addDeed, "TriedLines") ∈ znM := by decide +kernel
theorem ml_RX7_74 : Cond.methodLink RX7 74 yX7_lays ∈ zall := zall_of (i := 1260) (by decide +kernel) rfl
theorem ml_RX7_84 : Cond.methodLink RX7 84 yX7_see ∈ zall := zall_of (i := 1287) (by decide +kernel) rfl
theorem ml_RX7_94 : Cond.methodLink RX7 94 yX7_in ∈ zall := zall_of (i := 1272) (by decide +kernel) rfl
theorem ml_RX7_101 : Cond.methodLink RX7 101 yJ0_length_8abf5 ∈ zall := zall_of (i := 1300) (by decide +kernel) rfl
theorem ml_RX7_107 : Cond.methodLink RX7 107 yJ0_charAt_5068e ∈ zall := zall_of (i := 1301) (by decide +kernel) rfl
theorem ml_RX7_117 : Cond.methodLink RX7 117 yX7_errs ∈ zall := zall_of (i := 1306) (by decide +kernel) rfl
theorem ml_RX7_120 : Cond.methodLink RX7 120 yX7_wholeHere ∈ zall := zall_of (i := 1315) (by decide +kernel) rfl
theorem ml_RX7_124 : Cond.methodLink RX7 124 yX7_nextToken ∈ zall := zall_of (i := 1283) (by decide +kernel) rfl
theorem ml_RX7_127 : Cond.methodLink RX7 127 yX7_isWord ∈ zall := zall_of (i := 1296) (by decide +kernel) rfl
theorem ml_RX7_131 : Cond.methodLink RX7 131 yX7_passes ∈ zall := zall_of (i := 1319) (by decide +kernel) rfl
theorem ml_RX7_140 : Cond.methodLink RX7 140 yX7_power ∈ zall := zall_of (i := 1311) (by decide +kernel) rfl
theorem ml_RX7_146 : Cond.methodLink RX7 146 yX7_after ∈ zall := zall_of (i := 1324) (by decide +kernel) rfl
theorem ml_RX7_165 : Cond.methodLink RX7 165 yX7_addresses ∈ zall := zall_of (i := 1339) (by decide +kernel) rfl
theorem ml_RX7_189 : Cond.methodLink RX7 189 yX7_readMachine ∈ zall := zall_of (i := 1302) (by decide +kernel) rfl
theorem ml_RX7_194 : Cond.methodLink RX7 194 yX7_readToldWord ∈ zall := zall_of (i := 1335) (by decide +kernel) rfl
theorem ml_RX7_199 : Cond.methodLink RX7 199 yX7_readCore ∈ zall := zall_of (i := 1344) (by decide +kernel) rfl
theorem ml_RX7_202 : Cond.methodLink RX7 202 yX7_sortHere ∈ zall := zall_of (i := 1348) (by decide +kernel) rfl
theorem ml_RX7_205 : Cond.methodLink RX7 205 yX7_readDeed ∈ zall := zall_of (i := 1359) (by decide +kernel) rfl
theorem ml_RX7_208 : Cond.methodLink RX7 208 yX7_readLine ∈ zall := zall_of (i := 1291) (by decide +kernel) rfl
theorem ml_RX7_211 : Cond.methodLink RX7 211 yX7_anew ∈ zall := zall_of (i := 1268) (by decide +kernel) rfl
theorem ml_RX7_214 : Cond.methodLink RX7 214 yX7_no ∈ zall := zall_of (i := 1275) (by decide +kernel) rfl
theorem ml_RX7_220 : Cond.methodLink RX7 220 yX7_readText ∈ zall := zall_of (i := 1279) (by decide +kernel) rfl
theorem ml_RX7_232 : Cond.methodLink RX7 232 yX7_asTold ∈ zall := zall_of (i := 1364) (by decide +kernel) rfl
theorem ml_RX7_235 : Cond.methodLink RX7 235 yX7_begins ∈ zall := zall_of (i := 1368) (by decide +kernel) rfl
theorem ml_RX7_244 : Cond.methodLink RX7 244 yX7_coreAt ∈ zall := zall_of (i := 1372) (by decide +kernel) rfl
theorem ml_RX7_247 : Cond.methodLink RX7 247 yX7_placeAt ∈ zall := zall_of (i := 1411) (by decide +kernel) rfl
theorem ml_RX7_251 : Cond.methodLink RX7 251 yX7_empties ∈ zall := zall_of (i := 1537) (by decide +kernel) rfl
theorem ml_RX7_257 : Cond.methodLink RX7 257 yX7_find ∈ zall := zall_of (i := 1407) (by decide +kernel) rfl
theorem ml_RX7_260 : Cond.methodLink RX7 260 yX7_isRival ∈ zall := zall_of (i := 1525) (by decide +kernel) rfl
theorem ml_RX7_264 : Cond.methodLink RX7 264 yX7_isSomeElder ∈ zall := zall_of (i := 1529) (by decide +kernel) rfl
theorem ml_RX7_268 : Cond.methodLink RX7 268 yX7_ends ∈ zall := zall_of (i := 1533) (by decide +kernel) rfl
theorem ml_RX7_272 : Cond.methodLink RX7 272 yX7_writesBack ∈ zall := zall_of (i := 1549) (by decide +kernel) rfl
theorem ml_RX7_275 : Cond.methodLink RX7 275 yX7_room ∈ zall := zall_of (i := 1545) (by decide +kernel) rfl
theorem ml_RX7_278 : Cond.methodLink RX7 278 yX7_othersHave ∈ zall := zall_of (i := 1553) (by decide +kernel) rfl
theorem ml_RX7_281 : Cond.methodLink RX7 281 yX7_waits ∈ zall := zall_of (i := 1517) (by decide +kernel) rfl
theorem ml_RX7_284 : Cond.methodLink RX7 284 yX7_decides ∈ zall := zall_of (i := 1521) (by decide +kernel) rfl
theorem ml_RX7_288 : Cond.methodLink RX7 288 yX7_brings ∈ zall := zall_of (i := 1541) (by decide +kernel) rfl
theorem ml_RX7_291 : Cond.methodLink RX7 291 yX7_begin ∈ zall := zall_of (i := 1513) (by decide +kernel) rfl
theorem ml_RX7_293 : Cond.methodLink RX7 293 yX7_touches ∈ zall := zall_of (i := 1557) (by decide +kernel) rfl
theorem ml_RX7_296 : Cond.methodLink RX7 296 yX7_commits ∈ zall := zall_of (i := 1561) (by decide +kernel) rfl
theorem ml_RX7_299 : Cond.methodLink RX7 299 yX7_plus ∈ zall := zall_of (i := 1434) (by decide +kernel) rfl
theorem ml_RX7_301 : Cond.methodLink RX7 301 yX7_hasLeft ∈ zall := zall_of (i := 1481) (by decide +kernel) rfl
theorem ml_RX7_305 : Cond.methodLink RX7 305 yX7_does ∈ zall := zall_of (i := 1509) (by decide +kernel) rfl
theorem ml_RX7_308 : Cond.methodLink RX7 308 yX7_isCore ∈ zall := zall_of (i := 1391) (by decide +kernel) rfl
theorem ml_RX7_311 : Cond.methodLink RX7 311 yX7_isAddress ∈ zall := zall_of (i := 1399) (by decide +kernel) rfl
theorem ml_RX7_314 : Cond.methodLink RX7 314 yX7_wordNow ∈ zall := zall_of (i := 1403) (by decide +kernel) rfl
theorem ml_RX7_323 : Cond.methodLink RX7 323 yX7_plainBegins ∈ zall := zall_of (i := 1426) (by decide +kernel) rfl
theorem ml_RX7_326 : Cond.methodLink RX7 326 yX7_plainly ∈ zall := zall_of (i := 1430) (by decide +kernel) rfl
theorem ml_RX7_329 : Cond.methodLink RX7 329 yX7_serially ∈ zall := zall_of (i := 1422) (by decide +kernel) rfl
theorem ml_RX7_332 : Cond.methodLink RX7 332 yX7_marked ∈ zall := zall_of (i := 1465) (by decide +kernel) rfl
theorem ml_RX7_335 : Cond.methodLink RX7 335 yX7_laysAside ∈ zall := zall_of (i := 1501) (by decide +kernel) rfl
theorem ml_RX7_338 : Cond.methodLink RX7 338 yX7_steps ∈ zall := zall_of (i := 1505) (by decide +kernel) rfl
theorem ml_RX7_341 : Cond.methodLink RX7 341 yX7_takesBack ∈ zall := zall_of (i := 1565) (by decide +kernel) rfl
theorem ml_RX7_349 : Cond.methodLink RX7 349 yX7_isSeed ∈ zall := zall_of (i := 1585) (by decide +kernel) rfl
theorem ml_RX7_352 : Cond.methodLink RX7 352 yX7_drawn ∈ zall := zall_of (i := 1589) (by decide +kernel) rfl
theorem ml_RX7_355 : Cond.methodLink RX7 355 yX7_isAnyLeft ∈ zall := zall_of (i := 1614) (by decide +kernel) rfl
theorem ml_RX7_359 : Cond.methodLink RX7 359 yX7_countAll ∈ zall := zall_of (i := 1622) (by decide +kernel) rfl
theorem ml_RX7_362 : Cond.methodLink RX7 362 yX7_tries ∈ zall := zall_of (i := 1610) (by decide +kernel) rfl
theorem ml_RX7_365 : Cond.methodLink RX7 365 yX7_triedOf ∈ zall := zall_of (i := 1618) (by decide +kernel) rfl
theorem ml_RX7_368 : Cond.methodLink RX7 368 yX7_triedWhy ∈ zall := zall_of (i := 1602) (by decide +kernel) rfl
theorem ml_RX7_372 : Cond.methodLink RX7 372 yX7_triedAll ∈ zall := zall_of (i := 1606) (by decide +kernel) rfl
theorem ml_RX7_376 : Cond.methodLink RX7 376 yX7_isEnough ∈ zall := zall_of (i := 1638) (by decide +kernel) rfl
theorem mw_J9_floorMod_7cf53 : zMW yJ9_floorMod_7cf53 cJ9_floorMod_7cf53 3 (some .int) 2 := ⟨zall_of (i := 803) (by decide +kernel) rfl, zall_of (i := 139) (by decide +kernel) rfl, by decide, by decide, by decide +kernel⟩
theorem ms_J9_floorMod_7cf53 : Cond.static yJ9_floorMod_7cf53 ∈ zall := zall_of (i := 802) (by decide +kernel) rfl
theorem mw_J9_max_7cf53 : zMW yJ9_max_7cf53 cJ9_max_7cf53 2 (some .int) 2 := ⟨zall_of (i := 509) (by decide +kernel) rfl, zall_of (i := 139) (by decide +kernel) rfl, by decide, by decide, by decide +kernel⟩
theorem ms_J9_max_7cf53 : Cond.static yJ9_max_7cf53 ∈ zall := zall_of (i := 508) (by decide +kernel) rfl
theorem mw_J9_min_7cf53 : zMW yJ9_min_7cf53 cJ9_min_7cf53 2 (some .int) 2 := ⟨zall_of (i := 506) (by decide +kernel) rfl, zall_of (i := 139) (by decide +kernel) rfl, by decide, by decide, by decide +kernel⟩
theorem ms_J9_min_7cf53 : Cond.static yJ9_min_7cf53 ∈ zall := zall_of (i := 505) (by decide +kernel) rfl
theorem mw_X0_clear : zMW yX0_clear cX0_clear 2 none 0 := ⟨zall_of (i := 677) (by decide +kernel) rfl, zall_of (i := 135) (by decide +kernel) rfl, by decide, by decide, by decide +kernel⟩
theorem mi_X0_clear : zMI yX0_clear := ⟨zall_of (i := 676) (by decide +kernel) rfl, zall_of (i := 26) (by decide +kernel) rfl⟩
theorem mw_X0_copyFrom : zMW yX0_copyFrom cX0_copyFrom 3 none 1 := ⟨zall_of (i := 888) (by decide +kernel) rfl, zall_of (i := 135) (by decide +kernel) rfl, by decide, by decide, by decide +kernel⟩
theorem mi_X0_copyFrom : zMI yX0_copyFrom := ⟨zall_of (i := 887) (by decide +kernel) rfl, zall_of (i := 51) (by decide +kernel) rfl⟩
theorem mw_X0_dropLine : zMW yX0_dropLine cX0_dropLine 2 none 1 := ⟨zall_of (i := 681) (by decide +kernel) rfl, zall_of (i := 135) (by decide +kernel) rfl, by decide, by decide, by decide +kernel⟩
theorem mi_X0_dropLine : zMI yX0_dropLine := ⟨zall_of (i := 680) (by decide +kernel) rfl, zall_of (i := 27) (by decide +kernel) rfl⟩
theorem mw_X0_find : zMW yX0_find cX0_find 3 (some .int) 1 := ⟨zall_of (i := 744) (by decide +kernel) rfl, zall_of (i := 135) (by decide +kernel) rfl, by decide, by decide, by decide +kernel⟩
theorem mi_X0_find : zMI yX0_find := ⟨zall_of (i := 743) (by decide +kernel) rfl, zall_of (i := 36) (by decide +kernel) rfl⟩
theorem mw_X0_findRoom : zMW yX0_findRoom cX0_findRoom 5 (some .int) 1 := ⟨zall_of (i := 930) (by decide +kernel) rfl, zall_of (i := 135) (by decide +kernel) rfl, by decide, by decide, by decide +kernel⟩
theorem mi_X0_findRoom : zMI yX0_findRoom := ⟨zall_of (i := 929) (by decide +kernel) rfl, zall_of (i := 60) (by decide +kernel) rfl⟩
theorem mw_X0_markedLines : zMW yX0_markedLines cX0_markedLines 4 (some .int) 1 := ⟨zall_of (i := 842) (by decide +kernel) rfl, zall_of (i := 135) (by decide +kernel) rfl, by decide, by decide, by decide +kernel⟩
theorem mi_X0_markedLines : zMI yX0_markedLines := ⟨zall_of (i := 841) (by decide +kernel) rfl, zall_of (i := 47) (by decide +kernel) rfl⟩
theorem mw_X0_setWord : zMW yX0_setWord cX0_setWord 5 none 3 := ⟨zall_of (i := 948) (by decide +kernel) rfl, zall_of (i := 135) (by decide +kernel) rfl, by decide, by decide, by decide +kernel⟩
theorem mi_X0_setWord : zMI yX0_setWord := ⟨zall_of (i := 947) (by decide +kernel) rfl, zall_of (i := 64) (by decide +kernel) rfl⟩
theorem mw_X0_unmark : zMW yX0_unmark cX0_unmark 3 none 1 := ⟨zall_of (i := 925) (by decide +kernel) rfl, zall_of (i := 135) (by decide +kernel) rfl, by decide, by decide, by decide +kernel⟩
theorem mi_X0_unmark : zMI yX0_unmark := ⟨zall_of (i := 924) (by decide +kernel) rfl, zall_of (i := 59) (by decide +kernel) rfl⟩
theorem mw_X0_wordIn : zMW yX0_wordIn cX0_wordIn 4 (some .int) 2 := ⟨zall_of (i := 752) (by decide +kernel) rfl, zall_of (i := 135) (by decide +kernel) rfl, by decide, by decide, by decide +kernel⟩
theorem mi_X0_wordIn : zMI yX0_wordIn := ⟨zall_of (i := 751) (by decide +kernel) rfl, zall_of (i := 38) (by decide +kernel) rfl⟩
theorem mw_X1_clear : zMW yX1_clear cX1_clear 2 none 0 := ⟨zall_of (i := 685) (by decide +kernel) rfl, zall_of (i := 136) (by decide +kernel) rfl, by decide, by decide, by decide +kernel⟩
theorem mi_X1_clear : zMI yX1_clear := ⟨zall_of (i := 684) (by decide +kernel) rfl, zall_of (i := 28) (by decide +kernel) rfl⟩
theorem mw_X1_copyFrom : zMW yX1_copyFrom cX1_copyFrom 2 none 1 := ⟨zall_of (i := 893) (by decide +kernel) rfl, zall_of (i := 136) (by decide +kernel) rfl, by decide, by decide, by decide +kernel⟩
theorem mi_X1_copyFrom : zMI yX1_copyFrom := ⟨zall_of (i := 892) (by decide +kernel) rfl, zall_of (i := 52) (by decide +kernel) rfl⟩
theorem mw_X2_addDeed : zMW yX2_addDeed cX2_addDeed 6 none 3 := ⟨zall_of (i := 656) (by decide +kernel) rfl, zall_of (i := 132) (by decide +kernel) rfl, by decide, by decide, by decide +kernel⟩
theorem mi_X2_addDeed : zMI yX2_addDeed := ⟨zall_of (i := 655) (by decide +kernel) rfl, zall_of (i := 22) (by decide +kernel) rfl⟩
theorem mw_X2_addWord : zMW yX2_addWord cX2_addWord 3 none 2 := ⟨zall_of (i := 635) (by decide +kernel) rfl, zall_of (i := 132) (by decide +kernel) rfl, by decide, by decide, by decide +kernel⟩
theorem mi_X2_addWord : zMI yX2_addWord := ⟨zall_of (i := 634) (by decide +kernel) rfl, zall_of (i := 17) (by decide +kernel) rfl⟩
theorem mw_X2_addressOf : zMW yX2_addressOf cX2_addressOf 6 (some .int) 3 := ⟨zall_of (i := 798) (by decide +kernel) rfl, zall_of (i := 132) (by decide +kernel) rfl, by decide, by decide, by decide +kernel⟩
theorem mi_X2_addressOf : zMI yX2_addressOf := ⟨zall_of (i := 797) (by decide +kernel) rfl, zall_of (i := 46) (by decide +kernel) rfl⟩
theorem mw_X2_addresses : zMW yX2_addresses cX2_addresses 1 (some .int) 0 := ⟨zall_of (i := 626) (by decide +kernel) rfl, zall_of (i := 132) (by decide +kernel) rfl, by decide, by decide, by decide +kernel⟩
theorem mi_X2_addresses : zMI yX2_addresses := ⟨zall_of (i := 625) (by decide +kernel) rfl, zall_of (i := 15) (by decide +kernel) rfl⟩
theorem mw_X2_clear : zMW yX2_clear cX2_clear 2 none 0 := ⟨zall_of (i := 503) (by decide +kernel) rfl, zall_of (i := 132) (by decide +kernel) rfl, by decide, by decide, by decide +kernel⟩
theorem mi_X2_clear : zMI yX2_clear := ⟨zall_of (i := 502) (by decide +kernel) rfl, zall_of (i := 3) (by decide +kernel) rfl⟩
theorem mw_X2_copyFrom : zMW yX2_copyFrom cX2_copyFrom 3 none 1 := ⟨zall_of (i := 666) (by decide +kernel) rfl, zall_of (i := 132) (by decide +kernel) rfl, by decide, by decide, by decide +kernel⟩
theorem mi_X2_copyFrom : zMI yX2_copyFrom := ⟨zall_of (i := 665) (by decide +kernel) rfl, zall_of (i := 24) (by decide +kernel) rfl⟩
theorem mw_X2_deedsInAll : zMW yX2_deedsInAll cX2_deedsInAll 3 (some .int) 0 := ⟨zall_of (i := 1045) (by decide +kernel) rfl, zall_of (i := 132) (by decide +kernel) rfl, by decide, by decide, by decide +kernel⟩
theorem mi_X2_deedsInAll : zMI yX2_deedsInAll := ⟨zall_of (i := 1044) (by decide +kernel) rfl, zall_of (i := 73) (by decide +kernel) rfl⟩
theorem mw_X2_hasAddress : zMW yX2_hasAddress cX2_hasAddress 2 (some .boolean) 1 := ⟨zall_of (i := 630) (by decide +kernel) rfl, zall_of (i := 132) (by decide +kernel) rfl, by decide, by decide, by decide +kernel⟩
theorem mi_X2_hasAddress : zMI yX2_hasAddress := ⟨zall_of (i := 629) (by decide +kernel) rfl, zall_of (i := 16) (by decide +kernel) rfl⟩
theorem mw_X2_hasCore : zMW yX2_hasCore cX2_hasCore 2 (some .boolean) 1 := ⟨zall_of (i := 648) (by decide +kernel) rfl, zall_of (i := 132) (by decide +kernel) rfl, by decide, by decide, by decide +kernel⟩
theorem mi_X2_hasCore : zMI yX2_hasCore := ⟨zall_of (i := 647) (by decide +kernel) rfl, zall_of (i := 20) (by decide +kernel) rfl⟩
theorem mw_X2_hasDeed : zMW yX2_hasDeed cX2_hasDeed 3 (some .boolean) 2 := ⟨zall_of (i := 711) (by decide +kernel) rfl, zall_of (i := 132) (by decide +kernel) rfl, by decide, by decide, by decide +kernel⟩
theorem mi_X2_hasDeed : zMI yX2_hasDeed := ⟨zall_of (i := 710) (by decide +kernel) rfl, zall_of (i := 30) (by decide +kernel) rfl⟩
theorem mw_X2_isIndexed : zMW yX2_isIndexed cX2_isIndexed 3 (some .boolean) 2 := ⟨zall_of (i := 724) (by decide +kernel) rfl, zall_of (i := 132) (by decide +kernel) rfl, by decide, by decide, by decide +kernel⟩
theorem mi_X2_isIndexed : zMI yX2_isIndexed := ⟨zall_of (i := 723) (by decide +kernel) rfl, zall_of (i := 33) (by decide +kernel) rfl⟩
theorem mw_X2_lineOf : zMW yX2_lineOf cX2_lineOf 2 (some .int) 1 := ⟨zall_of (i := 740) (by decide +kernel) rfl, zall_of (i := 132) (by decide +kernel) rfl, by decide, by decide, by decide +kernel⟩
theorem mi_X2_lineOf : zMI yX2_lineOf := ⟨zall_of (i := 739) (by decide +kernel) rfl, zall_of (i := 35) (by decide +kernel) rfl⟩
theorem mw_X2_offsetOf : zMW yX2_offsetOf cX2_offsetOf 2 (some .int) 1 := ⟨zall_of (i := 748) (by decide +kernel) rfl, zall_of (i := 132) (by decide +kernel) rfl, by decide, by decide, by decide +kernel⟩
theorem mi_X2_offsetOf : zMI yX2_offsetOf := ⟨zall_of (i := 747) (by decide +kernel) rfl, zall_of (i := 37) (by decide +kernel) rfl⟩
theorem mw_X2_setOf : zMW yX2_setOf cX2_setOf 2 (some .int) 1 := ⟨zall_of (i := 789) (by decide +kernel) rfl, zall_of (i := 132) (by decide +kernel) rfl, by decide, by decide, by decide +kernel⟩
theorem mi_X2_setOf : zMI yX2_setOf := ⟨zall_of (i := 788) (by decide +kernel) rfl, zall_of (i := 44) (by decide +kernel) rfl⟩
theorem mw_X2_sortOf : zMW yX2_sortOf cX2_sortOf 3 (some .int) 2 := ⟨zall_of (i := 715) (by decide +kernel) rfl, zall_of (i := 132) (by decide +kernel) rfl, by decide, by decide, by decide +kernel⟩
theorem mi_X2_sortOf : zMI yX2_sortOf := ⟨zall_of (i := 714) (by decide +kernel) rfl, zall_of (i := 31) (by decide +kernel) rfl⟩
theorem mw_X2_wholeOf : zMW yX2_wholeOf cX2_wholeOf 3 (some .int) 2 := ⟨zall_of (i := 720) (by decide +kernel) rfl, zall_of (i := 132) (by decide +kernel) rfl, by decide, by decide, by decide +kernel⟩
theorem mi_X2_wholeOf : zMI yX2_wholeOf := ⟨zall_of (i := 719) (by decide +kernel) rfl, zall_of (i := 32) (by decide +kernel) rfl⟩
theorem mw_X3_ask : zMW yX3_ask cX3_ask 6 (some .int) 3 := ⟨zall_of (i := 913) (by decide +kernel) rfl, zall_of (i := 134) (by decide +kernel) rfl, by decide, by decide, by decide +kernel⟩
theorem mi_X3_ask : zMI yX3_ask := ⟨zall_of (i := 912) (by decide +kernel) rfl, zall_of (i := 56) (by decide +kernel) rfl⟩
theorem mw_X3_bringLine : zMW yX3_bringLine cX3_bringLine 6 none 3 := ⟨zall_of (i := 944) (by decide +kernel) rfl, zall_of (i := 134) (by decide +kernel) rfl, by decide, by decide, by decide +kernel⟩
theorem mi_X3_bringLine : zMI yX3_bringLine := ⟨zall_of (i := 943) (by decide +kernel) rfl, zall_of (i := 63) (by decide +kernel) rfl⟩
theorem mw_X3_changeOthers : zMW yX3_changeOthers cX3_changeOthers 7 (some .boolean) 3 := ⟨zall_of (i := 940) (by decide +kernel) rfl, zall_of (i := 134) (by decide +kernel) rfl, by decide, by decide, by decide +kernel⟩
theorem mi_X3_changeOthers : zMI yX3_changeOthers := ⟨zall_of (i := 939) (by decide +kernel) rfl, zall_of (i := 62) (by decide +kernel) rfl⟩
theorem mw_X3_copyFrom : zMW yX3_copyFrom cX3_copyFrom 3 none 1 := ⟨zall_of (i := 883) (by decide +kernel) rfl, zall_of (i := 134) (by decide +kernel) rfl, by decide, by decide, by decide +kernel⟩
theorem mi_X3_copyFrom : zMI yX3_copyFrom := ⟨zall_of (i := 882) (by decide +kernel) rfl, zall_of (i := 50) (by decide +kernel) rfl⟩
theorem mw_X3_countInAll : zMW yX3_countInAll cX3_countInAll 4 (some .int) 1 := ⟨zall_of (i := 1017) (by decide +kernel) rfl, zall_of (i := 134) (by decide +kernel) rfl, by decide, by decide, by decide +kernel⟩
theorem mi_X3_countInAll : zMI yX3_countInAll := ⟨zall_of (i := 1016) (by decide +kernel) rfl, zall_of (i := 72) (by decide +kernel) rfl⟩
theorem mw_X3_doBegin : zMW yX3_doBegin cX3_doBegin 4 (some .int) 2 := ⟨zall_of (i := 905) (by decide +kernel) rfl, zall_of (i := 134) (by decide +kernel) rfl, by decide, by decide, by decide +kernel⟩
theorem mi_X3_doBegin : zMI yX3_doBegin := ⟨zall_of (i := 904) (by decide +kernel) rfl, zall_of (i := 54) (by decide +kernel) rfl⟩
theorem mw_X3_doEnd : zMW yX3_doEnd cX3_doEnd 5 none 2 := ⟨zall_of (i := 956) (by decide +kernel) rfl, zall_of (i := 134) (by decide +kernel) rfl, by decide, by decide, by decide +kernel⟩
theorem mi_X3_doEnd : zMI yX3_doEnd := ⟨zall_of (i := 955) (by decide +kernel) rfl, zall_of (i := 66) (by decide +kernel) rfl⟩
theorem mw_X3_doGet : zMW yX3_doGet cX3_doGet 6 (some .int) 2 := ⟨zall_of (i := 960) (by decide +kernel) rfl, zall_of (i := 134) (by decide +kernel) rfl, by decide, by decide, by decide +kernel⟩
theorem mi_X3_doGet : zMI yX3_doGet := ⟨zall_of (i := 959) (by decide +kernel) rfl, zall_of (i := 67) (by decide +kernel) rfl⟩
theorem mw_X3_doPut : zMW yX3_doPut cX3_doPut 10 (some .int) 2 := ⟨zall_of (i := 965) (by decide +kernel) rfl, zall_of (i := 134) (by decide +kernel) rfl, by decide, by decide, by decide +kernel⟩
theorem mi_X3_doPut : zMI yX3_doPut := ⟨zall_of (i := 964) (by decide +kernel) rfl, zall_of (i := 68) (by decide +kernel) rfl⟩
theorem mw_X3_endTries : zMW yX3_endTries cX3_endTries 5 none 2 := ⟨zall_of (i := 921) (by decide +kernel) rfl, zall_of (i := 134) (by decide +kernel) rfl, by decide, by decide, by decide +kernel⟩
theorem mi_X3_endTries : zMI yX3_endTries := ⟨zall_of (i := 920) (by decide +kernel) rfl, zall_of (i := 58) (by decide +kernel) rfl⟩
theorem mw_X3_hasDeedsLeft : zMW yX3_hasDeedsLeft cX3_hasDeedsLeft 2 (some .boolean) 1 := ⟨zall_of (i := 858) (by decide +kernel) rfl, zall_of (i := 134) (by decide +kernel) rfl, by decide, by decide, by decide +kernel⟩
theorem mi_X3_hasDeedsLeft : zMI yX3_hasDeedsLeft := ⟨zall_of (i := 857) (by decide +kernel) rfl, zall_of (i := 48) (by decide +kernel) rfl⟩
theorem mw_X3_isAllDone : zMW yX3_isAllDone cX3_isAllDone 2 (some .boolean) 0 := ⟨zall_of (i := 999) (by decide +kernel) rfl, zall_of (i := 134) (by decide +kernel) rfl, by decide, by decide, by decide +kernel⟩
theorem mi_X3_isAllDone : zMI yX3_isAllDone := ⟨zall_of (i := 998) (by decide +kernel) rfl, zall_of (i := 71) (by decide +kernel) rfl⟩
theorem mw_X3_lostAfter : zMW yX3_lostAfter cX3_lostAfter 3 (some .int) 2 := ⟨zall_of (i := 871) (by decide +kernel) rfl, zall_of (i := 134) (by decide +kernel) rfl, by decide, by decide, by decide +kernel⟩
theorem mi_X3_lostAfter : zMI yX3_lostAfter := ⟨zall_of (i := 870) (by decide +kernel) rfl, zall_of (i := 49) (by decide +kernel) rfl⟩
theorem mw_X3_markLine : zMW yX3_markLine cX3_markLine 5 none 3 := ⟨zall_of (i := 952) (by decide +kernel) rfl, zall_of (i := 134) (by decide +kernel) rfl, by decide, by decide, by decide +kernel⟩
theorem mi_X3_markLine : zMI yX3_markLine := ⟨zall_of (i := 951) (by decide +kernel) rfl, zall_of (i := 65) (by decide +kernel) rfl⟩
theorem mw_X3_marking : zMW yX3_marking cX3_marking 7 (some .int) 3 := ⟨zall_of (i := 917) (by decide +kernel) rfl, zall_of (i := 134) (by decide +kernel) rfl, by decide, by decide, by decide +kernel⟩
theorem mi_X3_marking : zMI yX3_marking := ⟨zall_of (i := 916) (by decide +kernel) rfl, zall_of (i := 57) (by decide +kernel) rfl⟩
theorem mw_X3_reach : zMW yX3_reach cX3_reach 9 (some .int) 3 := ⟨zall_of (i := 909) (by decide +kernel) rfl, zall_of (i := 134) (by decide +kernel) rfl, by decide, by decide, by decide +kernel⟩
theorem mi_X3_reach : zMI yX3_reach := ⟨zall_of (i := 908) (by decide +kernel) rfl, zall_of (i := 55) (by decide +kernel) rfl⟩
theorem mw_X3_startOver : zMW yX3_startOver cX3_startOver 4 none 2 := ⟨zall_of (i := 673) (by decide +kernel) rfl, zall_of (i := 134) (by decide +kernel) rfl, by decide, by decide, by decide +kernel⟩
theorem mi_X3_startOver : zMI yX3_startOver := ⟨zall_of (i := 672) (by decide +kernel) rfl, zall_of (i := 25) (by decide +kernel) rfl⟩
theorem mw_X3_takeDraws : zMW yX3_takeDraws cX3_takeDraws 6 (some .int) 2 := ⟨zall_of (i := 995) (by decide +kernel) rfl, zall_of (i := 134) (by decide +kernel) rfl, by decide, by decide, by decide +kernel⟩
theorem mi_X3_takeDraws : zMI yX3_takeDraws := ⟨zall_of (i := 994) (by decide +kernel) rfl, zall_of (i := 70) (by decide +kernel) rfl⟩
theorem mw_X3_takeRounds : zMW yX3_takeRounds cX3_takeRounds 5 (some .int) 1 := ⟨zall_of (i := 982) (by decide +kernel) rfl, zall_of (i := 134) (by decide +kernel) rfl, by decide, by decide, by decide +kernel⟩
theorem mi_X3_takeRounds : zMI yX3_takeRounds := ⟨zall_of (i := 981) (by decide +kernel) rfl, zall_of (i := 69) (by decide +kernel) rfl⟩
theorem mw_X3_takeStep : zMW yX3_takeStep cX3_takeStep 5 (some .int) 1 := ⟨zall_of (i := 898) (by decide +kernel) rfl, zall_of (i := 134) (by decide +kernel) rfl, by decide, by decide, by decide +kernel⟩
theorem mi_X3_takeStep : zMI yX3_takeStep := ⟨zall_of (i := 897) (by decide +kernel) rfl, zall_of (i := 53) (by decide +kernel) rfl⟩
theorem mw_X3_wordAt : zMW yX3_wordAt cX3_wordAt 5 (some .int) 1 := ⟨zall_of (i := 736) (by decide +kernel) rfl, zall_of (i := 134) (by decide +kernel) rfl, by decide, by decide, by decide +kernel⟩
theorem mi_X3_wordAt : zMI yX3_wordAt := ⟨zall_of (i := 735) (by decide +kernel) rfl, zall_of (i := 34) (by decide +kernel) rfl⟩
theorem mw_X3_writeBack : zMW yX3_writeBack cX3_writeBack 5 none 2 := ⟨zall_of (i := 935) (by decide +kernel) rfl, zall_of (i := 134) (by decide +kernel) rfl, by decide, by decide, by decide +kernel⟩
theorem mi_X3_writeBack : zMI yX3_writeBack := ⟨zall_of (i := 934) (by decide +kernel) rfl, zall_of (i := 61) (by decide +kernel) rfl⟩
theorem mw_X4_play : zMW yX4_play cX4_play 5 none 3 := ⟨zall_of (i := 773) (by decide +kernel) rfl, zall_of (i := 137) (by decide +kernel) rfl, by decide, by decide, by decide +kernel⟩
theorem mi_X4_play : zMI yX4_play := ⟨zall_of (i := 772) (by decide +kernel) rfl, zall_of (i := 41) (by decide +kernel) rfl⟩
theorem mw_X4_playDeed : zMW yX4_playDeed cX4_playDeed 4 none 2 := ⟨zall_of (i := 778) (by decide +kernel) rfl, zall_of (i := 137) (by decide +kernel) rfl, by decide, by decide, by decide +kernel⟩
theorem mi_X4_playDeed : zMI yX4_playDeed := ⟨zall_of (i := 777) (by decide +kernel) rfl, zall_of (i := 42) (by decide +kernel) rfl⟩
theorem mw_X4_startOver : zMW yX4_startOver cX4_startOver 1 none 0 := ⟨zall_of (i := 768) (by decide +kernel) rfl, zall_of (i := 137) (by decide +kernel) rfl, by decide, by decide, by decide +kernel⟩
theorem mi_X4_startOver : zMI yX4_startOver := ⟨zall_of (i := 767) (by decide +kernel) rfl, zall_of (i := 40) (by decide +kernel) rfl⟩
theorem mw_X4_touch : zMW yX4_touch cX4_touch 4 (some .int) 2 := ⟨zall_of (i := 794) (by decide +kernel) rfl, zall_of (i := 137) (by decide +kernel) rfl, by decide, by decide, by decide +kernel⟩
theorem mi_X4_touch : zMI yX4_touch := ⟨zall_of (i := 793) (by decide +kernel) rfl, zall_of (i := 45) (by decide +kernel) rfl⟩
theorem mw_X4_widen : zMW yX4_widen cX4_widen 4 none 0 := ⟨zall_of (i := 785) (by decide +kernel) rfl, zall_of (i := 137) (by decide +kernel) rfl, by decide, by decide, by decide +kernel⟩
theorem mi_X4_widen : zMI yX4_widen := ⟨zall_of (i := 784) (by decide +kernel) rfl, zall_of (i := 43) (by decide +kernel) rfl⟩
theorem mw_X5_advance : zMW yX5_advance cX5_advance 2 none 0 := ⟨zall_of (i := 513) (by decide +kernel) rfl, zall_of (i := 133) (by decide +kernel) rfl, by decide, by decide, by decide +kernel⟩
theorem mi_X5_advance : zMI yX5_advance := ⟨zall_of (i := 512) (by decide +kernel) rfl, zall_of (i := 4) (by decide +kernel) rfl⟩
theorem mw_X5_fail : zMW yX5_fail cX5_fail 3 (some .boolean) 2 := ⟨zall_of (i := 590) (by decide +kernel) rfl, zall_of (i := 133) (by decide +kernel) rfl, by decide, by decide, by decide +kernel⟩
theorem mi_X5_fail : zMI yX5_fail := ⟨zall_of (i := 589) (by decide +kernel) rfl, zall_of (i := 8) (by decide +kernel) rfl⟩
theorem mw_X5_isName : zMW yX5_isName cX5_isName 3 (some .boolean) 1 := ⟨zall_of (i := 529) (by decide +kernel) rfl, zall_of (i := 133) (by decide +kernel) rfl, by decide, by decide, by decide +kernel⟩
theorem mi_X5_isName : zMI yX5_isName := ⟨zall_of (i := 528) (by decide +kernel) rfl, zall_of (i := 7) (by decide +kernel) rfl⟩
theorem mw_X5_kindOf : zMW yX5_kindOf cX5_kindOf 1 (some .int) 1 := ⟨zall_of (i := 516) (by decide +kernel) rfl, zall_of (i := 133) (by decide +kernel) rfl, by decide, by decide, by decide +kernel⟩
theorem ms_X5_kindOf : Cond.static yX5_kindOf ∈ zall := zall_of (i := 515) (by decide +kernel) rfl
theorem mw_X5_readCore : zMW yX5_readCore cX5_readCore 1 (some .boolean) 0 := ⟨zall_of (i := 640) (by decide +kernel) rfl, zall_of (i := 133) (by decide +kernel) rfl, by decide, by decide, by decide +kernel⟩
theorem mi_X5_readCore : zMI yX5_readCore := ⟨zall_of (i := 639) (by decide +kernel) rfl, zall_of (i := 18) (by decide +kernel) rfl⟩
theorem mw_X5_readDeed : zMW yX5_readDeed cX5_readDeed 4 (some .boolean) 1 := ⟨zall_of (i := 644) (by decide +kernel) rfl, zall_of (i := 133) (by decide +kernel) rfl, by decide, by decide, by decide +kernel⟩
theorem mi_X5_readDeed : zMI yX5_readDeed := ⟨zall_of (i := 643) (by decide +kernel) rfl, zall_of (i := 19) (by decide +kernel) rfl⟩
theorem mw_X5_readEnd : zMW yX5_readEnd cX5_readEnd 1 (some .boolean) 0 := ⟨zall_of (i := 662) (by decide +kernel) rfl, zall_of (i := 133) (by decide +kernel) rfl, by decide, by decide, by decide +kernel⟩
theorem mi_X5_readEnd : zMI yX5_readEnd := ⟨zall_of (i := 661) (by decide +kernel) rfl, zall_of (i := 23) (by decide +kernel) rfl⟩
theorem mw_X5_readLine : zMW yX5_readLine cX5_readLine 2 (some .boolean) 0 := ⟨zall_of (i := 520) (by decide +kernel) rfl, zall_of (i := 133) (by decide +kernel) rfl, by decide, by decide, by decide +kernel⟩
theorem mi_X5_readLine : zMI yX5_readLine := ⟨zall_of (i := 519) (by decide +kernel) rfl, zall_of (i := 5) (by decide +kernel) rfl⟩
theorem mw_X5_readMachine : zMW yX5_readMachine cX5_readMachine 1 (some .boolean) 0 := ⟨zall_of (i := 594) (by decide +kernel) rfl, zall_of (i := 133) (by decide +kernel) rfl, by decide, by decide, by decide +kernel⟩
theorem mi_X5_readMachine : zMI yX5_readMachine := ⟨zall_of (i := 593) (by decide +kernel) rfl, zall_of (i := 9) (by decide +kernel) rfl⟩
theorem mw_X5_readRest : zMW yX5_readRest cX5_readRest 5 (some .boolean) 1 := ⟨zall_of (i := 652) (by decide +kernel) rfl, zall_of (i := 133) (by decide +kernel) rfl, by decide, by decide, by decide +kernel⟩
theorem mi_X5_readRest : zMI yX5_readRest := ⟨zall_of (i := 651) (by decide +kernel) rfl, zall_of (i := 21) (by decide +kernel) rfl⟩
theorem mw_X5_readRule : zMW yX5_readRule cX5_readRule 1 (some .boolean) 0 := ⟨zall_of (i := 614) (by decide +kernel) rfl, zall_of (i := 133) (by decide +kernel) rfl, by decide, by decide, by decide +kernel⟩
theorem mi_X5_readRule : zMI yX5_readRule := ⟨zall_of (i := 613) (by decide +kernel) rfl, zall_of (i := 13) (by decide +kernel) rfl⟩
theorem mw_X5_readText : zMW yX5_readText cX5_readText 3 (some .boolean) 1 := ⟨zall_of (i := 499) (by decide +kernel) rfl, zall_of (i := 133) (by decide +kernel) rfl, by decide, by decide, by decide +kernel⟩
theorem mi_X5_readText : zMI yX5_readText := ⟨zall_of (i := 498) (by decide +kernel) rfl, zall_of (i := 2) (by decide +kernel) rfl⟩
theorem mw_X5_readWord : zMW yX5_readWord cX5_readWord 4 (some .boolean) 0 := ⟨zall_of (i := 622) (by decide +kernel) rfl, zall_of (i := 133) (by decide +kernel) rfl, by decide, by decide, by decide +kernel⟩
theorem mi_X5_readWord : zMI yX5_readWord := ⟨zall_of (i := 621) (by decide +kernel) rfl, zall_of (i := 14) (by decide +kernel) rfl⟩
theorem mw_X5_sortHere : zMW yX5_sortHere cX5_sortHere 1 (some .int) 0 := ⟨zall_of (i := 524) (by decide +kernel) rfl, zall_of (i := 133) (by decide +kernel) rfl, by decide, by decide, by decide +kernel⟩
theorem mi_X5_sortHere : zMI yX5_sortHere := ⟨zall_of (i := 523) (by decide +kernel) rfl, zall_of (i := 6) (by decide +kernel) rfl⟩
theorem mw_X5_takeName : zMW yX5_takeName cX5_takeName 2 (some .boolean) 1 := ⟨zall_of (i := 603) (by decide +kernel) rfl, zall_of (i := 133) (by decide +kernel) rfl, by decide, by decide, by decide +kernel⟩
theorem mi_X5_takeName : zMI yX5_takeName := ⟨zall_of (i := 602) (by decide +kernel) rfl, zall_of (i := 11) (by decide +kernel) rfl⟩
theorem mw_X5_takeSetting : zMW yX5_takeSetting cX5_takeSetting 5 (some .int) 3 := ⟨zall_of (i := 599) (by decide +kernel) rfl, zall_of (i := 133) (by decide +kernel) rfl, by decide, by decide, by decide +kernel⟩
theorem mi_X5_takeSetting : zMI yX5_takeSetting := ⟨zall_of (i := 598) (by decide +kernel) rfl, zall_of (i := 10) (by decide +kernel) rfl⟩
theorem mw_X5_takeWhole : zMW yX5_takeWhole cX5_takeWhole 3 (some .boolean) 2 := ⟨zall_of (i := 607) (by decide +kernel) rfl, zall_of (i := 133) (by decide +kernel) rfl, by decide, by decide, by decide +kernel⟩
theorem mi_X5_takeWhole : zMI yX5_takeWhole := ⟨zall_of (i := 606) (by decide +kernel) rfl, zall_of (i := 12) (by decide +kernel) rfl⟩
theorem mw_X6_about : zMW yX6_about cX6_about 2 (some .int) 1 := ⟨zall_of (i := 702) (by decide +kernel) rfl, zall_of (i := 131) (by decide +kernel) rfl, by decide, by decide, by decide +kernel⟩
theorem mi_X6_about : zMI yX6_about := ⟨zall_of (i := 700) (by decide +kernel) rfl, zall_of (i := 701) (by decide +kernel) rfl⟩
theorem mw_X6_advice : zMW yX6_advice cX6_advice 3 (some .int) 2 := ⟨zall_of (i := 867) (by decide +kernel) rfl, zall_of (i := 131) (by decide +kernel) rfl, by decide, by decide, by decide +kernel⟩
theorem mi_X6_advice : zMI yX6_advice := ⟨zall_of (i := 865) (by decide +kernel) rfl, zall_of (i := 866) (by decide +kernel) rfl⟩
theorem mw_X6_agrees : zMW yX6_agrees cX6_agrees 2 (some .int) 0 := ⟨zall_of (i := 809) (by decide +kernel) rfl, zall_of (i := 131) (by decide +kernel) rfl, by decide, by decide, by decide +kernel⟩
theorem mi_X6_agrees : zMI yX6_agrees := ⟨zall_of (i := 807) (by decide +kernel) rfl, zall_of (i := 808) (by decide +kernel) rfl⟩
theorem mw_X6_alone : zMW yX6_alone cX6_alone 5 (some .int) 2 := ⟨zall_of (i := 817) (by decide +kernel) rfl, zall_of (i := 131) (by decide +kernel) rfl, by decide, by decide, by decide +kernel⟩
theorem mi_X6_alone : zMI yX6_alone := ⟨zall_of (i := 815) (by decide +kernel) rfl, zall_of (i := 816) (by decide +kernel) rfl⟩
theorem mw_X6_answer : zMW yX6_answer cX6_answer 2 (some .int) 1 := ⟨zall_of (i := 689) (by decide +kernel) rfl, zall_of (i := 131) (by decide +kernel) rfl, by decide, by decide, by decide +kernel⟩
theorem mi_X6_answer : zMI yX6_answer := ⟨zall_of (i := 688) (by decide +kernel) rfl, zall_of (i := 29) (by decide +kernel) rfl⟩
theorem mw_X6_asBit : zMW yX6_asBit cX6_asBit 1 (some .int) 1 := ⟨zall_of (i := 727) (by decide +kernel) rfl, zall_of (i := 131) (by decide +kernel) rfl, by decide, by decide, by decide +kernel⟩
theorem ms_X6_asBit : Cond.static yX6_asBit ∈ zall := zall_of (i := 726) (by decide +kernel) rfl
theorem mw_X6_back : zMW yX6_back cX6_back 1 (some .boolean) 0 := ⟨zall_of (i := 1037) (by decide +kernel) rfl, zall_of (i := 131) (by decide +kernel) rfl, by decide, by decide, by decide +kernel⟩
theorem mi_X6_back : zMI yX6_back := ⟨zall_of (i := 1035) (by decide +kernel) rfl, zall_of (i := 1036) (by decide +kernel) rfl⟩
theorem mw_X6_best : zMW yX6_best cX6_best 5 (some .int) 1 := ⟨zall_of (i := 1025) (by decide +kernel) rfl, zall_of (i := 131) (by decide +kernel) rfl, by decide, by decide, by decide +kernel⟩
theorem mi_X6_best : zMI yX6_best := ⟨zall_of (i := 1023) (by decide +kernel) rfl, zall_of (i := 1024) (by decide +kernel) rfl⟩
theorem mw_X6_cached : zMW yX6_cached cX6_cached 4 (some .int) 2 := ⟨zall_of (i := 826) (by decide +kernel) rfl, zall_of (i := 131) (by decide +kernel) rfl, by decide, by decide, by decide +kernel⟩
theorem mi_X6_cached : zMI yX6_cached := ⟨zall_of (i := 824) (by decide +kernel) rfl, zall_of (i := 825) (by decide +kernel) rfl⟩
theorem mw_X6_commit : zMW yX6_commit cX6_commit 4 (some .int) 2 := ⟨zall_of (i := 875) (by decide +kernel) rfl, zall_of (i := 131) (by decide +kernel) rfl, by decide, by decide, by decide +kernel⟩
theorem mi_X6_commit : zMI yX6_commit := ⟨zall_of (i := 873) (by decide +kernel) rfl, zall_of (i := 874) (by decide +kernel) rfl⟩
theorem mw_X6_core : zMW yX6_core cX6_core 4 (some .int) 2 := ⟨zall_of (i := 854) (by decide +kernel) rfl, zall_of (i := 131) (by decide +kernel) rfl, by decide, by decide, by decide +kernel⟩
theorem mi_X6_core : zMI yX6_core := ⟨zall_of (i := 852) (by decide +kernel) rfl, zall_of (i := 853) (by decide +kernel) rfl⟩
theorem mw_X6_count : zMW yX6_count cX6_count 3 (some .int) 2 := ⟨zall_of (i := 863) (by decide +kernel) rfl, zall_of (i := 131) (by decide +kernel) rfl, by decide, by decide, by decide +kernel⟩
theorem mi_X6_count : zMI yX6_count := ⟨zall_of (i := 861) (by decide +kernel) rfl, zall_of (i := 862) (by decide +kernel) rfl⟩
theorem mw_X6_deed : zMW yX6_deed cX6_deed 4 (some .int) 3 := ⟨zall_of (i := 707) (by decide +kernel) rfl, zall_of (i := 131) (by decide +kernel) rfl, by decide, by decide, by decide +kernel⟩
theorem mi_X6_deed : zMI yX6_deed := ⟨zall_of (i := 705) (by decide +kernel) rfl, zall_of (i := 706) (by decide +kernel) rfl⟩
theorem mw_X6_done : zMW yX6_done cX6_done 4 (some .int) 1 := ⟨zall_of (i := 1057) (by decide +kernel) rfl, zall_of (i := 131) (by decide +kernel) rfl, by decide, by decide, by decide +kernel⟩
theorem mi_X6_done : zMI yX6_done := ⟨zall_of (i := 1055) (by decide +kernel) rfl, zall_of (i := 1056) (by decide +kernel) rfl⟩
theorem mw_X6_draws : zMW yX6_draws cX6_draws 3 (some .int) 2 := ⟨zall_of (i := 987) (by decide +kernel) rfl, zall_of (i := 131) (by decide +kernel) rfl, by decide, by decide, by decide +kernel⟩
theorem mi_X6_draws : zMI yX6_draws := ⟨zall_of (i := 985) (by decide +kernel) rfl, zall_of (i := 986) (by decide +kernel) rfl⟩
theorem mw_X6_fault : zMW yX6_fault cX6_fault 1 (some .int) 0 := ⟨zall_of (i := 694) (by decide +kernel) rfl, zall_of (i := 131) (by decide +kernel) rfl, by decide, by decide, by decide +kernel⟩
theorem mi_X6_fault : zMI yX6_fault := ⟨zall_of (i := 692) (by decide +kernel) rfl, zall_of (i := 693) (by decide +kernel) rfl⟩
theorem mw_X6_feed : zMW yX6_feed cX6_feed 6 (some .int) 5 := ⟨zall_of (i := 480) (by decide +kernel) rfl, zall_of (i := 131) (by decide +kernel) rfl, by decide, by decide, by decide +kernel⟩
theorem mi_X6_feed : zMI yX6_feed := ⟨zall_of (i := 478) (by decide +kernel) rfl, zall_of (i := 479) (by decide +kernel) rfl⟩
theorem mw_X6_interrupt : zMW yX6_interrupt cX6_interrupt 2 (some .int) 1 := ⟨zall_of (i := 1004) (by decide +kernel) rfl, zall_of (i := 131) (by decide +kernel) rfl, by decide, by decide, by decide +kernel⟩
theorem mi_X6_interrupt : zMI yX6_interrupt := ⟨zall_of (i := 1002) (by decide +kernel) rfl, zall_of (i := 1003) (by decide +kernel) rfl⟩
theorem mw_X6_isSeed : zMW yX6_isSeed cX6_isSeed 1 (some .boolean) 1 := ⟨zall_of (i := 990) (by decide +kernel) rfl, zall_of (i := 131) (by decide +kernel) rfl, by decide, by decide, by decide +kernel⟩
theorem ms_X6_isSeed : Cond.static yX6_isSeed ∈ zall := zall_of (i := 989) (by decide +kernel) rfl
theorem mw_X6_isTrial : zMW yX6_isTrial cX6_isTrial 3 (some .boolean) 3 := ⟨zall_of (i := 1012) (by decide +kernel) rfl, zall_of (i := 131) (by decide +kernel) rfl, by decide, by decide, by decide +kernel⟩
theorem ms_X6_isTrial : Cond.static yX6_isTrial ∈ zall := zall_of (i := 1011) (by decide +kernel) rfl
theorem mw_X6_isWithin : zMW yX6_isWithin cX6_isWithin 3 (some .boolean) 3 := ⟨zall_of (i := 491) (by decide +kernel) rfl, zall_of (i := 131) (by decide +kernel) rfl, by decide, by decide, by decide +kernel⟩
theorem ms_X6_isWithin : Cond.static yX6_isWithin ∈ zall := zall_of (i := 490) (by decide +kernel) rfl
theorem mw_X6_keep : zMW yX6_keep cX6_keep 1 (some .boolean) 0 := ⟨zall_of (i := 1033) (by decide +kernel) rfl, zall_of (i := 131) (by decide +kernel) rfl, by decide, by decide, by decide +kernel⟩
theorem mi_X6_keep : zMI yX6_keep := ⟨zall_of (i := 1031) (by decide +kernel) rfl, zall_of (i := 1032) (by decide +kernel) rfl⟩
theorem mw_X6_lock : zMW yX6_lock cX6_lock 1 (some .int) 0 := ⟨zall_of (i := 813) (by decide +kernel) rfl, zall_of (i := 131) (by decide +kernel) rfl, by decide, by decide, by decide +kernel⟩
theorem mi_X6_lock : zMI yX6_lock := ⟨zall_of (i := 811) (by decide +kernel) rfl, zall_of (i := 812) (by decide +kernel) rfl⟩
theorem mw_X6_machine : zMW yX6_machine cX6_machine 2 (some .int) 1 := ⟨zall_of (i := 488) (by decide +kernel) rfl, zall_of (i := 131) (by decide +kernel) rfl, by decide, by decide, by decide +kernel⟩
theorem mi_X6_machine : zMI yX6_machine := ⟨zall_of (i := 486) (by decide +kernel) rfl, zall_of (i := 487) (by decide +kernel) rfl⟩
theorem mw_X6_memory : zMW yX6_memory cX6_memory 2 (some .int) 1 := ⟨zall_of (i := 756) (by decide +kernel) rfl, zall_of (i := 131) (by decide +kernel) rfl, by decide, by decide, by decide +kernel⟩
theorem mi_X6_memory : zMI yX6_memory := ⟨zall_of (i := 754) (by decide +kernel) rfl, zall_of (i := 755) (by decide +kernel) rfl⟩
theorem mw_X6_place : zMW yX6_place cX6_place 8 (some .int) 4 := ⟨zall_of (i := 822) (by decide +kernel) rfl, zall_of (i := 131) (by decide +kernel) rfl, by decide, by decide, by decide +kernel⟩
theorem mi_X6_place : zMI yX6_place := ⟨zall_of (i := 820) (by decide +kernel) rfl, zall_of (i := 821) (by decide +kernel) rfl⟩
theorem mw_X6_playCommits : zMW yX6_playCommits cX6_playCommits 2 none 0 := ⟨zall_of (i := 764) (by decide +kernel) rfl, zall_of (i := 131) (by decide +kernel) rfl, by decide, by decide, by decide +kernel⟩
theorem mi_X6_playCommits : zMI yX6_playCommits := ⟨zall_of (i := 763) (by decide +kernel) rfl, zall_of (i := 39) (by decide +kernel) rfl⟩
theorem mw_X6_putBytes : zMW yX6_putBytes cX6_putBytes 3 none 1 := ⟨zall_of (i := 484) (by decide +kernel) rfl, zall_of (i := 131) (by decide +kernel) rfl, by decide, by decide, by decide +kernel⟩
theorem mi_X6_putBytes : zMI yX6_putBytes := ⟨zall_of (i := 483) (by decide +kernel) rfl, zall_of (i := 0) (by decide +kernel) rfl⟩
theorem mw_X6_reads : zMW yX6_reads cX6_reads 2 (some .int) 1 := ⟨zall_of (i := 838) (by decide +kernel) rfl, zall_of (i := 131) (by decide +kernel) rfl, by decide, by decide, by decide +kernel⟩
theorem mi_X6_reads : zMI yX6_reads := ⟨zall_of (i := 836) (by decide +kernel) rfl, zall_of (i := 837) (by decide +kernel) rfl⟩
theorem mw_X6_refuse : zMW yX6_refuse cX6_refuse 2 (some .int) 1 := ⟨zall_of (i := 495) (by decide +kernel) rfl, zall_of (i := 131) (by decide +kernel) rfl, by decide, by decide, by decide +kernel⟩
theorem mi_X6_refuse : zMI yX6_refuse := ⟨zall_of (i := 494) (by decide +kernel) rfl, zall_of (i := 1) (by decide +kernel) rfl⟩
theorem mw_X6_rounds : zMW yX6_rounds cX6_rounds 2 (some .int) 1 := ⟨zall_of (i := 978) (by decide +kernel) rfl, zall_of (i := 131) (by decide +kernel) rfl, by decide, by decide, by decide +kernel⟩
theorem mi_X6_rounds : zMI yX6_rounds := ⟨zall_of (i := 976) (by decide +kernel) rfl, zall_of (i := 977) (by decide +kernel) rfl⟩
theorem mw_X6_serial : zMW yX6_serial cX6_serial 2 (some .int) 1 := ⟨zall_of (i := 760) (by decide +kernel) rfl, zall_of (i := 131) (by decide +kernel) rfl, by decide, by decide, by decide +kernel⟩
theorem mi_X6_serial : zMI yX6_serial := ⟨zall_of (i := 758) (by decide +kernel) rfl, zall_of (i := 759) (by decide +kernel) rfl⟩
theorem mw_X6_sharers : zMW yX6_sharers cX6_sharers 4 (some .int) 1 := ⟨zall_of (i := 834) (by decide +kernel) rfl, zall_of (i := 131) (by decide +kernel) rfl, by decide, by decide, by decide +kernel⟩
theorem mi_X6_sharers : zMI yX6_sharers := ⟨zall_of (i := 832) (by decide +kernel) rfl, zall_of (i := 833) (by decide +kernel) rfl⟩
theorem mw_X6_size : zMW yX6_size cX6_size 2 (some .int) 1 := ⟨zall_of (i := 1041) (by decide +kernel) rfl, zall_of (i := 131) (by decide +kernel) rfl, by decide, by decide, by decide +kernel⟩
theorem mi_X6_size : zMI yX6_size := ⟨zall_of (i := 1039) (by decide +kernel) rfl, zall_of (i := 1040) (by decide +kernel) rfl⟩
theorem mw_X6_step : zMW yX6_step cX6_step 2 (some .int) 1 := ⟨zall_of (i := 974) (by decide +kernel) rfl, zall_of (i := 131) (by decide +kernel) rfl, by decide, by decide, by decide +kernel⟩
theorem mi_X6_step : zMI yX6_step := ⟨zall_of (i := 972) (by decide +kernel) rfl, zall_of (i := 973) (by decide +kernel) rfl⟩
theorem mw_X6_traffic : zMW yX6_traffic cX6_traffic 2 (some .int) 1 := ⟨zall_of (i := 850) (by decide +kernel) rfl, zall_of (i := 131) (by decide +kernel) rfl, by decide, by decide, by decide +kernel⟩
theorem mi_X6_traffic : zMI yX6_traffic := ⟨zall_of (i := 848) (by decide +kernel) rfl, zall_of (i := 849) (by decide +kernel) rfl⟩
theorem mw_X6_tried : zMW yX6_tried cX6_tried 5 (some .int) 4 := ⟨zall_of (i := 1009) (by decide +kernel) rfl, zall_of (i := 131) (by decide +kernel) rfl, by decide, by decide, by decide +kernel⟩
theorem mi_X6_tried : zMI yX6_tried := ⟨zall_of (i := 1007) (by decide +kernel) rfl, zall_of (i := 1008) (by decide +kernel) rfl⟩
theorem mw_X6_triedWord : zMW yX6_triedWord cX6_triedWord 5 (some .int) 4 := ⟨zall_of (i := 1021) (by decide +kernel) rfl, zall_of (i := 131) (by decide +kernel) rfl, by decide, by decide, by decide +kernel⟩
theorem mi_X6_triedWord : zMI yX6_triedWord := ⟨zall_of (i := 1019) (by decide +kernel) rfl, zall_of (i := 1020) (by decide +kernel) rfl⟩
theorem mw_X6_trouble : zMW yX6_trouble cX6_trouble 1 (some .int) 0 := ⟨zall_of (i := 1049) (by decide +kernel) rfl, zall_of (i := 131) (by decide +kernel) rfl, by decide, by decide, by decide +kernel⟩
theorem mi_X6_trouble : zMI yX6_trouble := ⟨zall_of (i := 1047) (by decide +kernel) rfl, zall_of (i := 1048) (by decide +kernel) rfl⟩
theorem mw_X6_waysFor : zMW yX6_waysFor cX6_waysFor 2 (some .int) 1 := ⟨zall_of (i := 1029) (by decide +kernel) rfl, zall_of (i := 131) (by decide +kernel) rfl, by decide, by decide, by decide +kernel⟩
theorem mi_X6_waysFor : zMI yX6_waysFor := ⟨zall_of (i := 1027) (by decide +kernel) rfl, zall_of (i := 1028) (by decide +kernel) rfl⟩
theorem mw_X6_where : zMW yX6_where cX6_where 1 (some .int) 0 := ⟨zall_of (i := 698) (by decide +kernel) rfl, zall_of (i := 131) (by decide +kernel) rfl, by decide, by decide, by decide +kernel⟩
theorem mi_X6_where : zMI yX6_where := ⟨zall_of (i := 696) (by decide +kernel) rfl, zall_of (i := 697) (by decide +kernel) rfl⟩
theorem mw_X6_word : zMW yX6_word cX6_word 2 (some .int) 1 := ⟨zall_of (i := 731) (by decide +kernel) rfl, zall_of (i := 131) (by decide +kernel) rfl, by decide, by decide, by decide +kernel⟩
theorem mi_X6_word : zMI yX6_word := ⟨zall_of (i := 729) (by decide +kernel) rfl, zall_of (i := 730) (by decide +kernel) rfl⟩
theorem mw_X6_would : zMW yX6_would cX6_would 2 (some .int) 1 := ⟨zall_of (i := 879) (by decide +kernel) rfl, zall_of (i := 131) (by decide +kernel) rfl, by decide, by decide, by decide +kernel⟩
theorem mi_X6_would : zMI yX6_would := ⟨zall_of (i := 877) (by decide +kernel) rfl, zall_of (i := 878) (by decide +kernel) rfl⟩
theorem mw_X6_wouldEnd : zMW yX6_wouldEnd cX6_wouldEnd 2 (some .int) 1 := ⟨zall_of (i := 970) (by decide +kernel) rfl, zall_of (i := 131) (by decide +kernel) rfl, by decide, by decide, by decide +kernel⟩
theorem mi_X6_wouldEnd : zMI yX6_wouldEnd := ⟨zall_of (i := 968) (by decide +kernel) rfl, zall_of (i := 969) (by decide +kernel) rfl⟩
theorem mw_X6_writes : zMW yX6_writes cX6_writes 2 (some .int) 1 := ⟨zall_of (i := 846) (by decide +kernel) rfl, zall_of (i := 131) (by decide +kernel) rfl, by decide, by decide, by decide +kernel⟩
theorem mi_X6_writes : zMI yX6_writes := ⟨zall_of (i := 844) (by decide +kernel) rfl, zall_of (i := 845) (by decide +kernel) rfl⟩
theorem mw_X7_about : zMW yX7_about cX7_about 2 (some .int) 1 := ⟨zall_of (i := 1386) (by decide +kernel) rfl, zall_of (i := 138) (by decide +kernel) rfl, by decide, by decide, by decide +kernel⟩
theorem mi_X7_about : zMI yX7_about := ⟨zall_of (i := 1384) (by decide +kernel) rfl, zall_of (i := 1385) (by decide +kernel) rfl⟩
theorem mw_X7_addresses : zMW yX7_addresses cX7_addresses 2 (some .int) 1 := ⟨zall_of (i := 1342) (by decide +kernel) rfl, zall_of (i := 138) (by decide +kernel) rfl, by decide, by decide, by decide +kernel⟩
theorem mi_X7_addresses : zMI yX7_addresses := ⟨zall_of (i := 1341) (by decide +kernel) rfl, zall_of (i := 90) (by decide +kernel) rfl⟩
theorem mw_X7_advice : zMW yX7_advice cX7_advice 4 (some .int) 2 := ⟨zall_of (i := 1492) (by decide +kernel) rfl, zall_of (i := 138) (by decide +kernel) rfl, by decide, by decide, by decide +kernel⟩
theorem mi_X7_advice : zMI yX7_advice := ⟨zall_of (i := 1490) (by decide +kernel) rfl, zall_of (i := 1491) (by decide +kernel) rfl⟩
theorem mw_X7_after : zMW yX7_after cX7_after 4 (some .int) 3 := ⟨zall_of (i := 1327) (by decide +kernel) rfl, zall_of (i := 138) (by decide +kernel) rfl, by decide, by decide, by decide +kernel⟩
theorem mi_X7_after : zMI yX7_after := ⟨zall_of (i := 1326) (by decide +kernel) rfl, zall_of (i := 88) (by decide +kernel) rfl⟩
theorem mw_X7_agrees : zMW yX7_agrees cX7_agrees 2 (some .int) 0 := ⟨zall_of (i := 1440) (by decide +kernel) rfl, zall_of (i := 138) (by decide +kernel) rfl, by decide, by decide, by decide +kernel⟩
theorem mi_X7_agrees : zMI yX7_agrees := ⟨zall_of (i := 1438) (by decide +kernel) rfl, zall_of (i := 1439) (by decide +kernel) rfl⟩
theorem mw_X7_alone : zMW yX7_alone cX7_alone 6 (some .int) 2 := ⟨zall_of (i := 1448) (by decide +kernel) rfl, zall_of (i := 138) (by decide +kernel) rfl, by decide, by decide, by decide +kernel⟩
theorem mi_X7_alone : zMI yX7_alone := ⟨zall_of (i := 1446) (by decide +kernel) rfl, zall_of (i := 1447) (by decide +kernel) rfl⟩
theorem mw_X7_anew : zMW yX7_anew cX7_anew 1 none 0 := ⟨zall_of (i := 1271) (by decide +kernel) rfl, zall_of (i := 138) (by decide +kernel) rfl, by decide, by decide, by decide +kernel⟩
theorem mi_X7_anew : zMI yX7_anew := ⟨zall_of (i := 1270) (by decide +kernel) rfl, zall_of (i := 76) (by decide +kernel) rfl⟩
theorem mw_X7_asTold : zMW yX7_asTold cX7_asTold 1 none 0 := ⟨zall_of (i := 1367) (by decide +kernel) rfl, zall_of (i := 138) (by decide +kernel) rfl, by decide, by decide, by decide +kernel⟩
theorem mi_X7_asTold : zMI yX7_asTold := ⟨zall_of (i := 1366) (by decide +kernel) rfl, zall_of (i := 94) (by decide +kernel) rfl⟩
theorem mw_X7_back : zMW yX7_back cX7_back 2 (some .boolean) 0 := ⟨zall_of (i := 1649) (by decide +kernel) rfl, zall_of (i := 138) (by decide +kernel) rfl, by decide, by decide, by decide +kernel⟩
theorem mi_X7_back : zMI yX7_back := ⟨zall_of (i := 1647) (by decide +kernel) rfl, zall_of (i := 1648) (by decide +kernel) rfl⟩
theorem mw_X7_begin : zMW yX7_begin cX7_begin 3 (some .int) 1 := ⟨zall_of (i := 1516) (by decide +kernel) rfl, zall_of (i := 138) (by decide +kernel) rfl, by decide, by decide, by decide +kernel⟩
theorem mi_X7_begin : zMI yX7_begin := ⟨zall_of (i := 1515) (by decide +kernel) rfl, zall_of (i := 108) (by decide +kernel) rfl⟩
theorem mw_X7_begins : zMW yX7_begins cX7_begins 2 none 0 := ⟨zall_of (i := 1371) (by decide +kernel) rfl, zall_of (i := 138) (by decide +kernel) rfl, by decide, by decide, by decide +kernel⟩
theorem mi_X7_begins : zMI yX7_begins := ⟨zall_of (i := 1370) (by decide +kernel) rfl, zall_of (i := 95) (by decide +kernel) rfl⟩
theorem mw_X7_best : zMW yX7_best cX7_best 6 (some .int) 1 := ⟨zall_of (i := 1633) (by decide +kernel) rfl, zall_of (i := 138) (by decide +kernel) rfl, by decide, by decide, by decide +kernel⟩
theorem mi_X7_best : zMI yX7_best := ⟨zall_of (i := 1631) (by decide +kernel) rfl, zall_of (i := 1632) (by decide +kernel) rfl⟩
theorem mw_X7_brings : zMW yX7_brings cX7_brings 8 (some .int) 3 := ⟨zall_of (i := 1544) (by decide +kernel) rfl, zall_of (i := 138) (by decide +kernel) rfl, by decide, by decide, by decide +kernel⟩
theorem mi_X7_brings : zMI yX7_brings := ⟨zall_of (i := 1543) (by decide +kernel) rfl, zall_of (i := 115) (by decide +kernel) rfl⟩
theorem mw_X7_cached : zMW yX7_cached cX7_cached 4 (some .int) 2 := ⟨zall_of (i := 1456) (by decide +kernel) rfl, zall_of (i := 138) (by decide +kernel) rfl, by decide, by decide, by decide +kernel⟩
theorem mi_X7_cached : zMI yX7_cached := ⟨zall_of (i := 1454) (by decide +kernel) rfl, zall_of (i := 1455) (by decide +kernel) rfl⟩
theorem mw_X7_commit : zMW yX7_commit cX7_commit 3 (some .int) 2 := ⟨zall_of (i := 1496) (by decide +kernel) rfl, zall_of (i := 138) (by decide +kernel) rfl, by decide, by decide, by decide +kernel⟩
theorem mi_X7_commit : zMI yX7_commit := ⟨zall_of (i := 1494) (by decide +kernel) rfl, zall_of (i := 1495) (by decide +kernel) rfl⟩
theorem mw_X7_commits : zMW yX7_commits cX7_commits 4 none 1 := ⟨zall_of (i := 1564) (by decide +kernel) rfl, zall_of (i := 138) (by decide +kernel) rfl, by decide, by decide, by decide +kernel⟩
theorem mi_X7_commits : zMI yX7_commits := ⟨zall_of (i := 1563) (by decide +kernel) rfl, zall_of (i := 120) (by decide +kernel) rfl⟩
theorem mw_X7_core : zMW yX7_core cX7_core 3 (some .int) 2 := ⟨zall_of (i := 1480) (by decide +kernel) rfl, zall_of (i := 138) (by decide +kernel) rfl, by decide, by decide, by decide +kernel⟩
theorem mi_X7_core : zMI yX7_core := ⟨zall_of (i := 1478) (by decide +kernel) rfl, zall_of (i := 1479) (by decide +kernel) rfl⟩
theorem mw_X7_coreAt : zMW yX7_coreAt cX7_coreAt 2 (some .int) 2 := ⟨zall_of (i := 1374) (by decide +kernel) rfl, zall_of (i := 138) (by decide +kernel) rfl, by decide, by decide, by decide +kernel⟩
theorem ms_X7_coreAt : Cond.static yX7_coreAt ∈ zall := zall_of (i := 1373) (by decide +kernel) rfl
theorem mw_X7_count : zMW yX7_count cX7_count 3 (some .int) 2 := ⟨zall_of (i := 1488) (by decide +kernel) rfl, zall_of (i := 138) (by decide +kernel) rfl, by decide, by decide, by decide +kernel⟩
theorem mi_X7_count : zMI yX7_count := ⟨zall_of (i := 1486) (by decide +kernel) rfl, zall_of (i := 1487) (by decide +kernel) rfl⟩
theorem mw_X7_countAll : zMW yX7_countAll cX7_countAll 4 (some .int) 1 := ⟨zall_of (i := 1625) (by decide +kernel) rfl, zall_of (i := 138) (by decide +kernel) rfl, by decide, by decide, by decide +kernel⟩
theorem mi_X7_countAll : zMI yX7_countAll := ⟨zall_of (i := 1624) (by decide +kernel) rfl, zall_of (i := 128) (by decide +kernel) rfl⟩
theorem mw_X7_decides : zMW yX7_decides cX7_decides 6 (some .int) 3 := ⟨zall_of (i := 1524) (by decide +kernel) rfl, zall_of (i := 138) (by decide +kernel) rfl, by decide, by decide, by decide +kernel⟩
theorem mi_X7_decides : zMI yX7_decides := ⟨zall_of (i := 1523) (by decide +kernel) rfl, zall_of (i := 110) (by decide +kernel) rfl⟩
theorem mw_X7_deed : zMW yX7_deed cX7_deed 5 (some .int) 3 := ⟨zall_of (i := 1390) (by decide +kernel) rfl, zall_of (i := 138) (by decide +kernel) rfl, by decide, by decide, by decide +kernel⟩
theorem mi_X7_deed : zMI yX7_deed := ⟨zall_of (i := 1388) (by decide +kernel) rfl, zall_of (i := 1389) (by decide +kernel) rfl⟩
theorem mw_X7_does : zMW yX7_does cX7_does 3 (some .int) 2 := ⟨zall_of (i := 1512) (by decide +kernel) rfl, zall_of (i := 138) (by decide +kernel) rfl, by decide, by decide, by decide +kernel⟩
theorem mi_X7_does : zMI yX7_does := ⟨zall_of (i := 1511) (by decide +kernel) rfl, zall_of (i := 107) (by decide +kernel) rfl⟩
theorem mw_X7_done : zMW yX7_done cX7_done 4 (some .int) 1 := ⟨zall_of (i := 1653) (by decide +kernel) rfl, zall_of (i := 138) (by decide +kernel) rfl, by decide, by decide, by decide +kernel⟩
theorem mi_X7_done : zMI yX7_done := ⟨zall_of (i := 1651) (by decide +kernel) rfl, zall_of (i := 1652) (by decide +kernel) rfl⟩
theorem mw_X7_drawn : zMW yX7_drawn cX7_drawn 1 (some .int) 0 := ⟨zall_of (i := 1592) (by decide +kernel) rfl, zall_of (i := 138) (by decide +kernel) rfl, by decide, by decide, by decide +kernel⟩
theorem mi_X7_drawn : zMI yX7_drawn := ⟨zall_of (i := 1591) (by decide +kernel) rfl, zall_of (i := 122) (by decide +kernel) rfl⟩
theorem mw_X7_draws : zMW yX7_draws cX7_draws 5 (some .int) 2 := ⟨zall_of (i := 1584) (by decide +kernel) rfl, zall_of (i := 138) (by decide +kernel) rfl, by decide, by decide, by decide +kernel⟩
theorem mi_X7_draws : zMI yX7_draws := ⟨zall_of (i := 1582) (by decide +kernel) rfl, zall_of (i := 1583) (by decide +kernel) rfl⟩
theorem mw_X7_empties : zMW yX7_empties cX7_empties 2 none 1 := ⟨zall_of (i := 1540) (by decide +kernel) rfl, zall_of (i := 138) (by decide +kernel) rfl, by decide, by decide, by decide +kernel⟩
theorem mi_X7_empties : zMI yX7_empties := ⟨zall_of (i := 1539) (by decide +kernel) rfl, zall_of (i := 114) (by decide +kernel) rfl⟩
theorem mw_X7_ends : zMW yX7_ends cX7_ends 6 none 2 := ⟨zall_of (i := 1536) (by decide +kernel) rfl, zall_of (i := 138) (by decide +kernel) rfl, by decide, by decide, by decide +kernel⟩
theorem mi_X7_ends : zMI yX7_ends := ⟨zall_of (i := 1535) (by decide +kernel) rfl, zall_of (i := 113) (by decide +kernel) rfl⟩
theorem mw_X7_errs : zMW yX7_errs cX7_errs 2 (some .int) 1 := ⟨zall_of (i := 1309) (by decide +kernel) rfl, zall_of (i := 138) (by decide +kernel) rfl, by decide, by decide, by decide +kernel⟩
theorem mi_X7_errs : zMI yX7_errs := ⟨zall_of (i := 1308) (by decide +kernel) rfl, zall_of (i := 84) (by decide +kernel) rfl⟩
theorem mw_X7_fault : zMW yX7_fault cX7_fault 1 (some .int) 0 := ⟨zall_of (i := 1378) (by decide +kernel) rfl, zall_of (i := 138) (by decide +kernel) rfl, by decide, by decide, by decide +kernel⟩
theorem mi_X7_fault : zMI yX7_fault := ⟨zall_of (i := 1376) (by decide +kernel) rfl, zall_of (i := 1377) (by decide +kernel) rfl⟩
theorem mw_X7_feed : zMW yX7_feed cX7_feed 6 (some .int) 5 := ⟨zall_of (i := 1259) (by decide +kernel) rfl, zall_of (i := 138) (by decide +kernel) rfl, by decide, by decide, by decide +kernel⟩
theorem mi_X7_feed : zMI yX7_feed := ⟨zall_of (i := 1257) (by decide +kernel) rfl, zall_of (i := 1258) (by decide +kernel) rfl⟩
theorem mw_X7_find : zMW yX7_find cX7_find 5 (some .int) 2 := ⟨zall_of (i := 1410) (by decide +kernel) rfl, zall_of (i := 138) (by decide +kernel) rfl, by decide, by decide, by decide +kernel⟩
theorem mi_X7_find : zMI yX7_find := ⟨zall_of (i := 1409) (by decide +kernel) rfl, zall_of (i := 99) (by decide +kernel) rfl⟩
theorem mw_X7_hasLeft : zMW yX7_hasLeft cX7_hasLeft 2 (some .boolean) 1 := ⟨zall_of (i := 1484) (by decide +kernel) rfl, zall_of (i := 138) (by decide +kernel) rfl, by decide, by decide, by decide +kernel⟩
theorem mi_X7_hasLeft : zMI yX7_hasLeft := ⟨zall_of (i := 1483) (by decide +kernel) rfl, zall_of (i := 104) (by decide +kernel) rfl⟩
theorem mw_X7_in : zMW yX7_in cX7_in 3 (some .boolean) 3 := ⟨zall_of (i := 1274) (by decide +kernel) rfl, zall_of (i := 138) (by decide +kernel) rfl, by decide, by decide, by decide +kernel⟩
theorem ms_X7_in : Cond.static yX7_in ∈ zall := zall_of (i := 1273) (by decide +kernel) rfl
theorem mw_X7_interrupt : zMW yX7_interrupt cX7_interrupt 2 (some .int) 1 := ⟨zall_of (i := 1597) (by decide +kernel) rfl, zall_of (i := 138) (by decide +kernel) rfl, by decide, by decide, by decide +kernel⟩
theorem mi_X7_interrupt : zMI yX7_interrupt := ⟨zall_of (i := 1595) (by decide +kernel) rfl, zall_of (i := 1596) (by decide +kernel) rfl⟩
theorem mw_X7_isAddress : zMW yX7_isAddress cX7_isAddress 2 (some .boolean) 1 := ⟨zall_of (i := 1402) (by decide +kernel) rfl, zall_of (i := 138) (by decide +kernel) rfl, by decide, by decide, by decide +kernel⟩
theorem mi_X7_isAddress : zMI yX7_isAddress := ⟨zall_of (i := 1401) (by decide +kernel) rfl, zall_of (i := 97) (by decide +kernel) rfl⟩
theorem mw_X7_isAnyLeft : zMW yX7_isAnyLeft cX7_isAnyLeft 2 (some .boolean) 0 := ⟨zall_of (i := 1617) (by decide +kernel) rfl, zall_of (i := 138) (by decide +kernel) rfl, by decide, by decide, by decide +kernel⟩
theorem mi_X7_isAnyLeft : zMI yX7_isAnyLeft := ⟨zall_of (i := 1616) (by decide +kernel) rfl, zall_of (i := 126) (by decide +kernel) rfl⟩
theorem mw_X7_isCore : zMW yX7_isCore cX7_isCore 2 (some .boolean) 1 := ⟨zall_of (i := 1394) (by decide +kernel) rfl, zall_of (i := 138) (by decide +kernel) rfl, by decide, by decide, by decide +kernel⟩
theorem mi_X7_isCore : zMI yX7_isCore := ⟨zall_of (i := 1393) (by decide +kernel) rfl, zall_of (i := 96) (by decide +kernel) rfl⟩
theorem mw_X7_isEnough : zMW yX7_isEnough cX7_isEnough 3 (some .boolean) 2 := ⟨zall_of (i := 1641) (by decide +kernel) rfl, zall_of (i := 138) (by decide +kernel) rfl, by decide, by decide, by decide +kernel⟩
theorem mi_X7_isEnough : zMI yX7_isEnough := ⟨zall_of (i := 1640) (by decide +kernel) rfl, zall_of (i := 129) (by decide +kernel) rfl⟩
theorem mw_X7_isRival : zMW yX7_isRival cX7_isRival 6 (some .boolean) 4 := ⟨zall_of (i := 1528) (by decide +kernel) rfl, zall_of (i := 138) (by decide +kernel) rfl, by decide, by decide, by decide +kernel⟩
theorem mi_X7_isRival : zMI yX7_isRival := ⟨zall_of (i := 1527) (by decide +kernel) rfl, zall_of (i := 111) (by decide +kernel) rfl⟩
theorem mw_X7_isSeed : zMW yX7_isSeed cX7_isSeed 1 (some .boolean) 1 := ⟨zall_of (i := 1587) (by decide +kernel) rfl, zall_of (i := 138) (by decide +kernel) rfl, by decide, by decide, by decide +kernel⟩
theorem ms_X7_isSeed : Cond.static yX7_isSeed ∈ zall := zall_of (i := 1586) (by decide +kernel) rfl
theorem mw_X7_isSomeElder : zMW yX7_isSomeElder cX7_isSomeElder 5 (some .boolean) 3 := ⟨zall_of (i := 1532) (by decide +kernel) rfl, zall_of (i := 138) (by decide +kernel) rfl, by decide, by decide, by decide +kernel⟩
theorem mi_X7_isSomeElder : zMI yX7_isSomeElder := ⟨zall_of (i := 1531) (by decide +kernel) rfl, zall_of (i := 112) (by decide +kernel) rfl⟩
theorem mw_X7_isWord : zMW yX7_isWord cX7_isWord 3 (some .boolean) 1 := ⟨zall_of (i := 1299) (by decide +kernel) rfl, zall_of (i := 138) (by decide +kernel) rfl, by decide, by decide, by decide +kernel⟩
theorem mi_X7_isWord : zMI yX7_isWord := ⟨zall_of (i := 1298) (by decide +kernel) rfl, zall_of (i := 82) (by decide +kernel) rfl⟩
theorem mw_X7_keep : zMW yX7_keep cX7_keep 2 (some .boolean) 0 := ⟨zall_of (i := 1645) (by decide +kernel) rfl, zall_of (i := 138) (by decide +kernel) rfl, by decide, by decide, by decide +kernel⟩
theorem mi_X7_keep : zMI yX7_keep := ⟨zall_of (i := 1643) (by decide +kernel) rfl, zall_of (i := 1644) (by decide +kernel) rfl⟩
theorem mw_X7_lays : zMW yX7_lays cX7_lays 3 none 1 := ⟨zall_of (i := 1263) (by decide +kernel) rfl, zall_of (i := 138) (by decide +kernel) rfl, by decide, by decide, by decide +kernel⟩
theorem mi_X7_lays : zMI yX7_lays := ⟨zall_of (i := 1262) (by decide +kernel) rfl, zall_of (i := 75) (by decide +kernel) rfl⟩
theorem mw_X7_laysAside : zMW yX7_laysAside cX7_laysAside 2 none 0 := ⟨zall_of (i := 1504) (by decide +kernel) rfl, zall_of (i := 138) (by decide +kernel) rfl, by decide, by decide, by decide +kernel⟩
theorem mi_X7_laysAside : zMI yX7_laysAside := ⟨zall_of (i := 1503) (by decide +kernel) rfl, zall_of (i := 105) (by decide +kernel) rfl⟩
theorem mw_X7_lock : zMW yX7_lock cX7_lock 1 (some .int) 0 := ⟨zall_of (i := 1444) (by decide +kernel) rfl, zall_of (i := 138) (by decide +kernel) rfl, by decide, by decide, by decide +kernel⟩
theorem mi_X7_lock : zMI yX7_lock := ⟨zall_of (i := 1442) (by decide +kernel) rfl, zall_of (i := 1443) (by decide +kernel) rfl⟩
theorem mw_X7_machine : zMW yX7_machine cX7_machine 3 (some .int) 1 := ⟨zall_of (i := 1267) (by decide +kernel) rfl, zall_of (i := 138) (by decide +kernel) rfl, by decide, by decide, by decide +kernel⟩
theorem mi_X7_machine : zMI yX7_machine := ⟨zall_of (i := 1265) (by decide +kernel) rfl, zall_of (i := 1266) (by decide +kernel) rfl⟩
theorem mw_X7_marked : zMW yX7_marked cX7_marked 6 (some .int) 2 := ⟨zall_of (i := 1468) (by decide +kernel) rfl, zall_of (i := 138) (by decide +kernel) rfl, by decide, by decide, by decide +kernel⟩
theorem mi_X7_marked : zMI yX7_marked := ⟨zall_of (i := 1467) (by decide +kernel) rfl, zall_of (i := 103) (by decide +kernel) rfl⟩
theorem mw_X7_memory : zMW yX7_memory cX7_memory 2 (some .int) 1 := ⟨zall_of (i := 1417) (by decide +kernel) rfl, zall_of (i := 138) (by decide +kernel) rfl, by decide, by decide, by decide +kernel⟩
theorem mi_X7_memory : zMI yX7_memory := ⟨zall_of (i := 1415) (by decide +kernel) rfl, zall_of (i := 1416) (by decide +kernel) rfl⟩
theorem mw_X7_nextToken : zMW yX7_nextToken cX7_nextToken 2 none 0 := ⟨zall_of (i := 1286) (by decide +kernel) rfl, zall_of (i := 138) (by decide +kernel) rfl, by decide, by decide, by decide +kernel⟩
theorem mi_X7_nextToken : zMI yX7_nextToken := ⟨zall_of (i := 1285) (by decide +kernel) rfl, zall_of (i := 79) (by decide +kernel) rfl⟩
theorem mw_X7_no : zMW yX7_no cX7_no 2 (some .int) 1 := ⟨zall_of (i := 1278) (by decide +kernel) rfl, zall_of (i := 138) (by decide +kernel) rfl, by decide, by decide, by decide +kernel⟩
theorem mi_X7_no : zMI yX7_no := ⟨zall_of (i := 1277) (by decide +kernel) rfl, zall_of (i := 77) (by decide +kernel) rfl⟩
theorem mw_X7_othersHave : zMW yX7_othersHave cX7_othersHave 7 (some .boolean) 3 := ⟨zall_of (i := 1556) (by decide +kernel) rfl, zall_of (i := 138) (by decide +kernel) rfl, by decide, by decide, by decide +kernel⟩
theorem mi_X7_othersHave : zMI yX7_othersHave := ⟨zall_of (i := 1555) (by decide +kernel) rfl, zall_of (i := 118) (by decide +kernel) rfl⟩
theorem mw_X7_passes : zMW yX7_passes cX7_passes 4 (some .int) 2 := ⟨zall_of (i := 1322) (by decide +kernel) rfl, zall_of (i := 138) (by decide +kernel) rfl, by decide, by decide, by decide +kernel⟩
theorem mi_X7_passes : zMI yX7_passes := ⟨zall_of (i := 1321) (by decide +kernel) rfl, zall_of (i := 87) (by decide +kernel) rfl⟩
theorem mw_X7_place : zMW yX7_place cX7_place 6 (some .int) 4 := ⟨zall_of (i := 1452) (by decide +kernel) rfl, zall_of (i := 138) (by decide +kernel) rfl, by decide, by decide, by decide +kernel⟩
theorem mi_X7_place : zMI yX7_place := ⟨zall_of (i := 1450) (by decide +kernel) rfl, zall_of (i := 1451) (by decide +kernel) rfl⟩
theorem mw_X7_placeAt : zMW yX7_placeAt cX7_placeAt 3 (some .int) 3 := ⟨zall_of (i := 1413) (by decide +kernel) rfl, zall_of (i := 138) (by decide +kernel) rfl, by decide, by decide, by decide +kernel⟩
theorem ms_X7_placeAt : Cond.static yX7_placeAt ∈ zall := zall_of (i := 1412) (by decide +kernel) rfl
theorem mw_X7_plainBegins : zMW yX7_plainBegins cX7_plainBegins 2 none 0 := ⟨zall_of (i := 1429) (by decide +kernel) rfl, zall_of (i := 138) (by decide +kernel) rfl, by decide, by decide, by decide +kernel⟩
theorem mi_X7_plainBegins : zMI yX7_plainBegins := ⟨zall_of (i := 1428) (by decide +kernel) rfl, zall_of (i := 101) (by decide +kernel) rfl⟩
theorem mw_X7_plainly : zMW yX7_plainly cX7_plainly 3 none 1 := ⟨zall_of (i := 1433) (by decide +kernel) rfl, zall_of (i := 138) (by decide +kernel) rfl, by decide, by decide, by decide +kernel⟩
theorem mi_X7_plainly : zMI yX7_plainly := ⟨zall_of (i := 1432) (by decide +kernel) rfl, zall_of (i := 102) (by decide +kernel) rfl⟩
theorem mw_X7_plus : zMW yX7_plus cX7_plus 2 (some .int) 2 := ⟨zall_of (i := 1436) (by decide +kernel) rfl, zall_of (i := 138) (by decide +kernel) rfl, by decide, by decide, by decide +kernel⟩
theorem ms_X7_plus : Cond.static yX7_plus ∈ zall := zall_of (i := 1435) (by decide +kernel) rfl
theorem mw_X7_power : zMW yX7_power cX7_power 2 (some .int) 1 := ⟨zall_of (i := 1314) (by decide +kernel) rfl, zall_of (i := 138) (by decide +kernel) rfl, by decide, by decide, by decide +kernel⟩
theorem mi_X7_power : zMI yX7_power := ⟨zall_of (i := 1313) (by decide +kernel) rfl, zall_of (i := 85) (by decide +kernel) rfl⟩
theorem mw_X7_readCore : zMW yX7_readCore cX7_readCore 1 (some .int) 0 := ⟨zall_of (i := 1347) (by decide +kernel) rfl, zall_of (i := 138) (by decide +kernel) rfl, by decide, by decide, by decide +kernel⟩
theorem mi_X7_readCore : zMI yX7_readCore := ⟨zall_of (i := 1346) (by decide +kernel) rfl, zall_of (i := 91) (by decide +kernel) rfl⟩
theorem mw_X7_readDeed : zMW yX7_readDeed cX7_readDeed 4 (some .int) 1 := ⟨zall_of (i := 1362) (by decide +kernel) rfl, zall_of (i := 138) (by decide +kernel) rfl, by decide, by decide, by decide +kernel⟩
theorem mi_X7_readDeed : zMI yX7_readDeed := ⟨zall_of (i := 1361) (by decide +kernel) rfl, zall_of (i := 93) (by decide +kernel) rfl⟩
theorem mw_X7_readLine : zMW yX7_readLine cX7_readLine 2 (some .int) 0 := ⟨zall_of (i := 1294) (by decide +kernel) rfl, zall_of (i := 138) (by decide +kernel) rfl, by decide, by decide, by decide +kernel⟩
theorem mi_X7_readLine : zMI yX7_readLine := ⟨zall_of (i := 1293) (by decide +kernel) rfl, zall_of (i := 81) (by decide +kernel) rfl⟩
theorem mw_X7_readMachine : zMW yX7_readMachine cX7_readMachine 1 (some .int) 0 := ⟨zall_of (i := 1305) (by decide +kernel) rfl, zall_of (i := 138) (by decide +kernel) rfl, by decide, by decide, by decide +kernel⟩
theorem mi_X7_readMachine : zMI yX7_readMachine := ⟨zall_of (i := 1304) (by decide +kernel) rfl, zall_of (i := 83) (by decide +kernel) rfl⟩
theorem mw_X7_readText : zMW yX7_readText cX7_readText 3 (some .int) 1 := ⟨zall_of (i := 1282) (by decide +kernel) rfl, zall_of (i := 138) (by decide +kernel) rfl, by decide, by decide, by decide +kernel⟩
theorem mi_X7_readText : zMI yX7_readText := ⟨zall_of (i := 1281) (by decide +kernel) rfl, zall_of (i := 78) (by decide +kernel) rfl⟩
theorem mw_X7_readToldWord : zMW yX7_readToldWord cX7_readToldWord 3 (some .int) 0 := ⟨zall_of (i := 1338) (by decide +kernel) rfl, zall_of (i := 138) (by decide +kernel) rfl, by decide, by decide, by decide +kernel⟩
theorem mi_X7_readToldWord : zMI yX7_readToldWord := ⟨zall_of (i := 1337) (by decide +kernel) rfl, zall_of (i := 89) (by decide +kernel) rfl⟩
theorem mw_X7_reads : zMW yX7_reads cX7_reads 2 (some .int) 1 := ⟨zall_of (i := 1464) (by decide +kernel) rfl, zall_of (i := 138) (by decide +kernel) rfl, by decide, by decide, by decide +kernel⟩
theorem mi_X7_reads : zMI yX7_reads := ⟨zall_of (i := 1462) (by decide +kernel) rfl, zall_of (i := 1463) (by decide +kernel) rfl⟩
theorem mw_X7_room : zMW yX7_room cX7_room 6 (some .int) 2 := ⟨zall_of (i := 1548) (by decide +kernel) rfl, zall_of (i := 138) (by decide +kernel) rfl, by decide, by decide, by decide +kernel⟩
theorem mi_X7_room : zMI yX7_room := ⟨zall_of (i := 1547) (by decide +kernel) rfl, zall_of (i := 116) (by decide +kernel) rfl⟩
theorem mw_X7_rounds : zMW yX7_rounds cX7_rounds 5 (some .int) 1 := ⟨zall_of (i := 1580) (by decide +kernel) rfl, zall_of (i := 138) (by decide +kernel) rfl, by decide, by decide, by decide +kernel⟩
theorem mi_X7_rounds : zMI yX7_rounds := ⟨zall_of (i := 1578) (by decide +kernel) rfl, zall_of (i := 1579) (by decide +kernel) rfl⟩
theorem mw_X7_see : zMW yX7_see cX7_see 2 (some .int) 1 := ⟨zall_of (i := 1290) (by decide +kernel) rfl, zall_of (i := 138) (by decide +kernel) rfl, by decide, by decide, by decide +kernel⟩
theorem mi_X7_see : zMI yX7_see := ⟨zall_of (i := 1289) (by decide +kernel) rfl, zall_of (i := 80) (by decide +kernel) rfl⟩
theorem mw_X7_serial : zMW yX7_serial cX7_serial 2 (some .int) 1 := ⟨zall_of (i := 1421) (by decide +kernel) rfl, zall_of (i := 138) (by decide +kernel) rfl, by decide, by decide, by decide +kernel⟩
theorem mi_X7_serial : zMI yX7_serial := ⟨zall_of (i := 1419) (by decide +kernel) rfl, zall_of (i := 1420) (by decide +kernel) rfl⟩
theorem mw_X7_serially : zMW yX7_serially cX7_serially 3 none 0 := ⟨zall_of (i := 1425) (by decide +kernel) rfl, zall_of (i := 138) (by decide +kernel) rfl, by decide, by decide, by decide +kernel⟩
theorem mi_X7_serially : zMI yX7_serially := ⟨zall_of (i := 1424) (by decide +kernel) rfl, zall_of (i := 100) (by decide +kernel) rfl⟩
theorem mw_X7_sharers : zMW yX7_sharers cX7_sharers 4 (some .int) 1 := ⟨zall_of (i := 1460) (by decide +kernel) rfl, zall_of (i := 138) (by decide +kernel) rfl, by decide, by decide, by decide +kernel⟩
theorem mi_X7_sharers : zMI yX7_sharers := ⟨zall_of (i := 1458) (by decide +kernel) rfl, zall_of (i := 1459) (by decide +kernel) rfl⟩
theorem mw_X7_size : zMW yX7_size cX7_size 4 (some .int) 1 := ⟨zall_of (i := 1657) (by decide +kernel) rfl, zall_of (i := 138) (by decide +kernel) rfl, by decide, by decide, by decide +kernel⟩
theorem mi_X7_size : zMI yX7_size := ⟨zall_of (i := 1655) (by decide +kernel) rfl, zall_of (i := 1656) (by decide +kernel) rfl⟩
theorem mw_X7_sortHere : zMW yX7_sortHere cX7_sortHere 1 (some .int) 0 := ⟨zall_of (i := 1351) (by decide +kernel) rfl, zall_of (i := 138) (by decide +kernel) rfl, by decide, by decide, by decide +kernel⟩
theorem mi_X7_sortHere : zMI yX7_sortHere := ⟨zall_of (i := 1350) (by decide +kernel) rfl, zall_of (i := 92) (by decide +kernel) rfl⟩
theorem mw_X7_step : zMW yX7_step cX7_step 2 (some .int) 1 := ⟨zall_of (i := 1576) (by decide +kernel) rfl, zall_of (i := 138) (by decide +kernel) rfl, by decide, by decide, by decide +kernel⟩
theorem mi_X7_step : zMI yX7_step := ⟨zall_of (i := 1574) (by decide +kernel) rfl, zall_of (i := 1575) (by decide +kernel) rfl⟩
theorem mw_X7_steps : zMW yX7_steps cX7_steps 3 (some .int) 1 := ⟨zall_of (i := 1508) (by decide +kernel) rfl, zall_of (i := 138) (by decide +kernel) rfl, by decide, by decide, by decide +kernel⟩
theorem mi_X7_steps : zMI yX7_steps := ⟨zall_of (i := 1507) (by decide +kernel) rfl, zall_of (i := 106) (by decide +kernel) rfl⟩
theorem mw_X7_takesBack : zMW yX7_takesBack cX7_takesBack 2 none 0 := ⟨zall_of (i := 1568) (by decide +kernel) rfl, zall_of (i := 138) (by decide +kernel) rfl, by decide, by decide, by decide +kernel⟩
theorem mi_X7_takesBack : zMI yX7_takesBack := ⟨zall_of (i := 1567) (by decide +kernel) rfl, zall_of (i := 121) (by decide +kernel) rfl⟩
theorem mw_X7_thrown : zMW yX7_thrown cX7_thrown 1 (some .int) 0 := ⟨zall_of (i := 1255) (by decide +kernel) rfl, zall_of (i := 138) (by decide +kernel) rfl, by decide, by decide, by decide +kernel⟩
theorem mi_X7_thrown : zMI yX7_thrown := ⟨zall_of (i := 1253) (by decide +kernel) rfl, zall_of (i := 1254) (by decide +kernel) rfl⟩
theorem mw_X7_touches : zMW yX7_touches cX7_touches 13 (some .int) 2 := ⟨zall_of (i := 1560) (by decide +kernel) rfl, zall_of (i := 138) (by decide +kernel) rfl, by decide, by decide, by decide +kernel⟩
theorem mi_X7_touches : zMI yX7_touches := ⟨zall_of (i := 1559) (by decide +kernel) rfl, zall_of (i := 119) (by decide +kernel) rfl⟩
theorem mw_X7_traffic : zMW yX7_traffic cX7_traffic 2 (some .int) 1 := ⟨zall_of (i := 1476) (by decide +kernel) rfl, zall_of (i := 138) (by decide +kernel) rfl, by decide, by decide, by decide +kernel⟩
theorem mi_X7_traffic : zMI yX7_traffic := ⟨zall_of (i := 1474) (by decide +kernel) rfl, zall_of (i := 1475) (by decide +kernel) rfl⟩
theorem mw_X7_tried : zMW yX7_tried cX7_tried 6 (some .int) 4 := ⟨zall_of (i := 1601) (by decide +kernel) rfl, zall_of (i := 138) (by decide +kernel) rfl, by decide, by decide, by decide +kernel⟩
theorem mi_X7_tried : zMI yX7_tried := ⟨zall_of (i := 1599) (by decide +kernel) rfl, zall_of (i := 1600) (by decide +kernel) rfl⟩
theorem mw_X7_triedAll : zMW yX7_triedAll cX7_triedAll 6 (some .int) 4 := ⟨zall_of (i := 1609) (by decide +kernel) rfl, zall_of (i := 138) (by decide +kernel) rfl, by decide, by decide, by decide +kernel⟩
theorem mi_X7_triedAll : zMI yX7_triedAll := ⟨zall_of (i := 1608) (by decide +kernel) rfl, zall_of (i := 124) (by decide +kernel) rfl⟩
theorem mw_X7_triedOf : zMW yX7_triedOf cX7_triedOf 2 (some .int) 1 := ⟨zall_of (i := 1621) (by decide +kernel) rfl, zall_of (i := 138) (by decide +kernel) rfl, by decide, by decide, by decide +kernel⟩
theorem mi_X7_triedOf : zMI yX7_triedOf := ⟨zall_of (i := 1620) (by decide +kernel) rfl, zall_of (i := 127) (by decide +kernel) rfl⟩
theorem mw_X7_triedWhy : zMW yX7_triedWhy cX7_triedWhy 5 (some .int) 4 := ⟨zall_of (i := 1605) (by decide +kernel) rfl, zall_of (i := 138) (by decide +kernel) rfl, by decide, by decide, by decide +kernel⟩
theorem mi_X7_triedWhy : zMI yX7_triedWhy := ⟨zall_of (i := 1604) (by decide +kernel) rfl, zall_of (i := 123) (by decide +kernel) rfl⟩
theorem mw_X7_triedWord : zMW yX7_triedWord cX7_triedWord 7 (some .int) 4 := ⟨zall_of (i := 1629) (by decide +kernel) rfl, zall_of (i := 138) (by decide +kernel) rfl, by decide, by decide, by decide +kernel⟩
theorem mi_X7_triedWord : zMI yX7_triedWord := ⟨zall_of (i := 1627) (by decide +kernel) rfl, zall_of (i := 1628) (by decide +kernel) rfl⟩
theorem mw_X7_tries : zMW yX7_tries cX7_tries 5 none 3 := ⟨zall_of (i := 1613) (by decide +kernel) rfl, zall_of (i := 138) (by decide +kernel) rfl, by decide, by decide, by decide +kernel⟩
theorem mi_X7_tries : zMI yX7_tries := ⟨zall_of (i := 1612) (by decide +kernel) rfl, zall_of (i := 125) (by decide +kernel) rfl⟩
theorem mw_X7_trouble : zMW yX7_trouble cX7_trouble 1 (some .int) 0 := ⟨zall_of (i := 1661) (by decide +kernel) rfl, zall_of (i := 138) (by decide +kernel) rfl, by decide, by decide, by decide +kernel⟩
theorem mi_X7_trouble : zMI yX7_trouble := ⟨zall_of (i := 1659) (by decide +kernel) rfl, zall_of (i := 1660) (by decide +kernel) rfl⟩
theorem mw_X7_waits : zMW yX7_waits cX7_waits 2 (some .int) 1 := ⟨zall_of (i := 1520) (by decide +kernel) rfl, zall_of (i := 138) (by decide +kernel) rfl, by decide, by decide, by decide +kernel⟩
theorem mi_X7_waits : zMI yX7_waits := ⟨zall_of (i := 1519) (by decide +kernel) rfl, zall_of (i := 109) (by decide +kernel) rfl⟩
theorem mw_X7_waysFor : zMW yX7_waysFor cX7_waysFor 3 (some .int) 1 := ⟨zall_of (i := 1637) (by decide +kernel) rfl, zall_of (i := 138) (by decide +kernel) rfl, by decide, by decide, by decide +kernel⟩
theorem mi_X7_waysFor : zMI yX7_waysFor := ⟨zall_of (i := 1635) (by decide +kernel) rfl, zall_of (i := 1636) (by decide +kernel) rfl⟩
theorem mw_X7_where : zMW yX7_where cX7_where 1 (some .int) 0 := ⟨zall_of (i := 1382) (by decide +kernel) rfl, zall_of (i := 138) (by decide +kernel) rfl, by decide, by decide, by decide +kernel⟩
theorem mi_X7_where : zMI yX7_where := ⟨zall_of (i := 1380) (by decide +kernel) rfl, zall_of (i := 1381) (by decide +kernel) rfl⟩
theorem mw_X7_wholeHere : zMW yX7_wholeHere cX7_wholeHere 3 (some .int) 2 := ⟨zall_of (i := 1318) (by decide +kernel) rfl, zall_of (i := 138) (by decide +kernel) rfl, by decide, by decide, by decide +kernel⟩
theorem mi_X7_wholeHere : zMI yX7_wholeHere := ⟨zall_of (i := 1317) (by decide +kernel) rfl, zall_of (i := 86) (by decide +kernel) rfl⟩
theorem mw_X7_word : zMW yX7_word cX7_word 2 (some .int) 1 := ⟨zall_of (i := 1398) (by decide +kernel) rfl, zall_of (i := 138) (by decide +kernel) rfl, by decide, by decide, by decide +kernel⟩
theorem mi_X7_word : zMI yX7_word := ⟨zall_of (i := 1396) (by decide +kernel) rfl, zall_of (i := 1397) (by decide +kernel) rfl⟩
theorem mw_X7_wordNow : zMW yX7_wordNow cX7_wordNow 4 (some .int) 1 := ⟨zall_of (i := 1406) (by decide +kernel) rfl, zall_of (i := 138) (by decide +kernel) rfl, by decide, by decide, by decide +kernel⟩
theorem mi_X7_wordNow : zMI yX7_wordNow := ⟨zall_of (i := 1405) (by decide +kernel) rfl, zall_of (i := 98) (by decide +kernel) rfl⟩
theorem mw_X7_would : zMW yX7_would cX7_would 3 (some .int) 1 := ⟨zall_of (i := 1500) (by decide +kernel) rfl, zall_of (i := 138) (by decide +kernel) rfl, by decide, by decide, by decide +kernel⟩
theorem mi_X7_would : zMI yX7_would := ⟨zall_of (i := 1498) (by decide +kernel) rfl, zall_of (i := 1499) (by decide +kernel) rfl⟩
theorem mw_X7_wouldEnd : zMW yX7_wouldEnd cX7_wouldEnd 2 (some .int) 1 := ⟨zall_of (i := 1572) (by decide +kernel) rfl, zall_of (i := 138) (by decide +kernel) rfl, by decide, by decide, by decide +kernel⟩
theorem mi_X7_wouldEnd : zMI yX7_wouldEnd := ⟨zall_of (i := 1570) (by decide +kernel) rfl, zall_of (i := 1571) (by decide +kernel) rfl⟩
theorem mw_X7_writes : zMW yX7_writes cX7_writes 2 (some .int) 1 := ⟨zall_of (i := 1472) (by decide +kernel) rfl, zall_of (i := 138) (by decide +kernel) rfl, by decide, by decide, by decide +kernel⟩
theorem mi_X7_writes : zMI yX7_writes := ⟨zall_of (i := 1470) (by decide +kernel) rfl, zall_of (i := 1471) (by decide +kernel) rfl⟩
theorem mw_X7_writesBack : zMW yX7_writesBack cX7_writesBack 3 none 1 := ⟨zall_of (i := 1552) (by decide +kernel) rfl, zall_of (i := 138) (by decide +kernel) rfl, by decide, by decide, by decide +kernel⟩
theorem mi_X7_writesBack : zMI yX7_writesBack := ⟨zall_of (i := 1551) (by decide +kernel) rfl, zall_of (i := 117) (by decide +kernel) rfl⟩
end
section
def zcds : List (Nat × Nat) := [(0, 0), (10, 0), (1, 0), (11, 0), (12, 0), (13, 0), (14, 0), (15, 0), (16, 0), (1, 1), (11, 1), (12, 1), (13, 1), (14, 1), (15, 1), (16, 1), (2, 0), (3, 0), (17, 0), (18, 0), (19, 0), (20, 0), (21, 0), (4, 0), (22, 0), (23, 0), (24, 0), (25, 0), (26, 0), (27, 0), (5, 0), (28, 0), (4, 1), (22, 1), (23, 1), (24, 1), (25, 1), (26, 1), (27, 1), (5, 1), (28, 1), (4, 2), (22, 2), (23, 2), (24, 2), (25, 2), (26, 2), (27, 2), (5, 2), (28, 2), (4, 3), (22, 3), (23, 3), (24, 3), (25, 3), (26, 3), (27, 3), (5, 3), (28, 3), (3, 1), (17, 1), (18, 1), (19, 1), (20, 1), (21, 1), (4, 4), (22, 4), (23, 4), (24, 4), (25, 4), (26, 4), (27, 4), (5, 4), (28, 4), (4, 5), (22, 5), (23, 5), (24, 5), (25, 5), (26, 5), (27, 5), (5, 5), (28, 5), (4, 6), (22, 6), (23, 6), (24, 6), (25, 6), (26, 6), (27, 6), (5, 6), (28, 6), (4, 7), (22, 7), (23, 7), (24, 7), (25, 7), (26, 7), (27, 7), (5, 7), (28, 7), (3, 2), (17, 2), (18, 2), (19, 2), (20, 2), (21, 2), (4, 8), (22, 8), (23, 8), (24, 8), (25, 8), (26, 8), (27, 8), (5, 8), (28, 8), (4, 9), (22, 9), (23, 9), (24, 9), (25, 9), (26, 9), (27, 9), (5, 9), (28, 9), (4, 10), (22, 10), (23, 10), (24, 10), (25, 10), (26, 10), (27, 10), (5, 10), (28, 10), (4, 11), (22, 11), (23, 11), (24, 11), (25, 11), (26, 11), (27, 11), (5, 11), (28, 11), (6, 0), (29, 0), (7, 0), (30, 0), (31, 0), (32, 0), (33, 0), (34, 0), (35, 0), (36, 0), (37, 0), (38, 0), (39, 0), (40, 0), (41, 0), (42, 0), (43, 0), (44, 0), (45, 0), (46, 0), (47, 0)]
/-! ===== THE WORLD of the claim: its objects by (tag, index); what changes in it are ints alone, by (field, index, place) ===== -/
/-- field, index of the owner, place in the array (0 of a field that is no array) -/
abbrev zG : Type := Nat → Nat → Nat → Int32
/-- a value of a walk: an int, an object (tag, index), a long -/
abbrev zV : Type := Int32 ⊕ ((Nat × Nat) ⊕ Int64)
/-- where the world lies: the classes' numbers, the array classes', the first address, the addresses of the String constants and of their bytes; whose half is walked (true: the reference's), and what the other half holds -/
abbrev zX : Type := va_G × (Nat → ClassId) × Nat × (Nat → Nat) × (Nat → Nat) × Bool × zG
def zU (g : zG) (f i j : Nat) (v : Int32) : zG := fun a b c => if a = f ∧ b = i ∧ c = j then v else g a b c
/-- a whole array anew -/
def zUA (g : zG) (f i : Nat) (F : Nat → Int32) : zG := fun a b c => if a = f ∧ b = i then F c else g a b c
def zA (X : zX) (q : Nat × Nat) : Nat := if q.1 = 60 then X.2.2.2.1 q.2 else if q.1 = 61 then X.2.2.2.2.1 q.2 else X.2.2.1 + zcds.idxOf q
/-- what a tag's objects are: a class and its fields (none: an int; else to which object), an array of ints (type, length), an array of objects -/
def zK : Nat → (Nat × List (Option (Nat → Nat × Nat))) ⊕ ((Nat × Nat) ⊕ (Nat × Nat × (Nat → Nat → Nat × Nat)))
  | 0 => .inl (6, [some (fun _ => (10, 0)), none, some (fun _ => (1, 0)), some (fun _ => (1, 1)), some (fun _ => (2, 0)), some (fun _ => (3, 0)), some (fun _ => (3, 1)), some (fun _ => (3, 2)), some (fun _ => (6, 0)), none, none, none, none])
  | 1 => .inl (2, [none, none, none, none, none, none, none, some (fun x => (11, x)), some (fun x => (12, x)), some (fun x => (13, x)), some (fun x => (14, x)), some (fun x => (15, x)), some (fun x => (16, x))])
  | 2 => .inl (5, [some (fun _ => (1, 1)), some (fun _ => (10, 0)), none, none, none, none, none, none, none, none, none])
  | 3 => .inl (3, [some (fun _ => (1, 0)), some (fun x => (17, x)), some (fun x => (18, x)), some (fun x => (19, x)), some (fun x => (20, x)), some (fun x => (21, x)), none, none, none, none, none, none])
  | 4 => .inl (0, [some (fun _ => (1, 0)), some (fun x => (22, x)), some (fun x => (23, x)), some (fun x => (24, x)), some (fun x => (25, x)), some (fun x => (26, x)), some (fun x => (27, x))])
  | 5 => .inl (1, [none, none, none, none, none, none, none, some (fun x => (28, x))])
  | 6 => .inl (4, [some (fun _ => (1, 0)), some (fun x => (29, x)), none, none, none, none])
  | 7 => .inl (7, [none, none, none, none, some (fun x => (30, x)), none, some (fun x => (31, x)), some (fun x => (32, x)), none, none, some (fun x => (33, x)), some (fun x => (34, x)), some (fun x => (35, x)), some (fun x => (36, x)), some (fun x => (37, x)), some (fun x => (38, x)), some (fun x => (39, x)), some (fun x => (40, x)), some (fun x => (41, x)), some (fun x => (42, x)), none, none, none, none, none, none, none, none, none, none, some (fun x => (43, x)), some (fun x => (44, x)), some (fun x => (45, x)), none, none, none, none, none, some (fun x => (46, x)), none, none, none])
  | 10 => .inr (.inl (0, 900))
  | 11 => .inr (.inl (0, 4))
  | 12 => .inr (.inl (0, 96))
  | 13 => .inr (.inl (0, 96))
  | 14 => .inr (.inl (1, 96))
  | 15 => .inr (.inl (0, 64))
  | 16 => .inr (.inl (1, 64))
  | 17 => .inr (.inl (0, 68))
  | 18 => .inr (.inr (2, 4, fun r k => (4, 4 * r + k)))
  | 19 => .inr (.inr (3, 4, fun r k => (5, 4 * r + k)))
  | 20 => .inr (.inl (0, 3))
  | 21 => .inr (.inl (0, 192))
  | 22 => .inr (.inl (0, 16))
  | 23 => .inr (.inl (0, 16))
  | 24 => .inr (.inl (1, 16))
  | 25 => .inr (.inl (1, 16))
  | 26 => .inr (.inl (0, 16))
  | 27 => .inr (.inl (0, 64))
  | 28 => .inr (.inl (0, 7))
  | 29 => .inr (.inl (0, 64))
  | 30 => .inr (.inl (0, 900))
  | 31 => .inr (.inl (0, 6))
  | 32 => .inr (.inl (0, 6))
  | 33 => .inr (.inl (0, 64))
  | 34 => .inr (.inl (0, 64))
  | 35 => .inr (.inl (0, 4))
  | 36 => .inr (.inl (0, 4))
  | 37 => .inr (.inl (0, 96))
  | 38 => .inr (.inl (0, 96))
  | 39 => .inr (.inl (0, 96))
  | 40 => .inr (.inl (0, 96))
  | 41 => .inr (.inl (0, 96))
  | 42 => .inr (.inl (0, 96))
  | 43 => .inr (.inl (0, 2766))
  | 44 => .inr (.inl (0, 2766))
  | 45 => .inr (.inl (0, 2766))
  | 46 => .inr (.inl (0, 64))
  | _ => .inr (.inl (4, 1))
/-- a field's value -/
def zfv (X : zX) (g : zG) (t i k : Nat) (f : Option (Nat → Nat × Nat)) : Value := match f with
  | none => .int (g (1000 * (k + 1) + t) i 0)
  | some tg => .ref (zA X (tg i))
/-- is a tag the reference's half? -/
def zmod (t : Nat) : Bool := t == 7 || (Nat.ble 30 t && Nat.ble t 46)
def zfl (X : zX) : Bool := X.2.2.2.2.2.1
def zpk (X : zX) (g : zG) (t : Nat) : zG := if zmod t = zfl X then g else X.2.2.2.2.2.2
def zC0 (X : zX) (g : zG) (t i : Nat) : va_E := match zK t with
  | .inl (ci, fs) => .inr (ci, fs.mapIdx (fun k f => zfv X g t i k f))
  | .inr (.inl (j, n)) => if j = 4 then .inl (X.2.1 4, n, .inr (.inl (fun k => (g t i k).toInt64))) else .inl (X.2.1 j, n, .inl (g t i))
  | .inr (.inr (j, n, r)) => .inl (X.2.1 j, n, .inr (.inr (.inr (.inr (fun k => some (zA X (r i k)))))))
def zC (X : zX) (g : zG) (t i : Nat) : va_E := zC0 X (zpk X g t) t i
def zW (X : zX) (g : zG) : va_W := zcds.map (fun q => (zA X q, zC X g q.1 q.2))
def zF (X : zX) : Nat → Prop := fun q => X.2.2.1 ≤ q ∧ q < X.2.2.1 + zcds.length
abbrev zcl : List vw_C := [(RX0, TX0, 7), (RX1, TX1, 8), (RX2, TX2, 13), (RX3, TX3, 12), (RX4, TX4, 6), (RX5, TX5, 11), (RX6, TX6, 13), (RX7, TX7, 42)]
def zT (X : zX) : List (ClassId × FieldType) := [(X.2.1 0, .int), (X.2.1 1, .boolean), (X.2.1 2, .object RX0), (X.2.1 3, .object RX1), (X.2.1 4, .long)]
theorem zidx : ∀ i : Nat, i < zcds.length → ∀ q, zcds[i]? = some q → zcds.idxOf q = i := by
  have h : (List.range zcds.length).all (fun i => zcds.idxOf (zcds.getD i (0, 0)) == i) = true := by decide +kernel
  intro i hi q hq
  have h1 := List.all_eq_true.mp h i (List.mem_range.mpr hi)
  rw [beq_iff_eq] at h1
  rw [List.getD_eq_getElem?_getD, hq] at h1
  exact h1
theorem ztag : ∀ q ∈ zcds, q.1 < 60 := by
  have h : zcds.all (fun q => decide (q.1 < 60)) = true := by decide +kernel
  intro q hq
  exact of_decide_eq_true (List.all_eq_true.mp h q hq)
theorem zA_of (X : zX) {q : Nat × Nat} (h : q ∈ zcds) : zA X q = X.2.2.1 + zcds.idxOf q := by
  have := ztag q h
  unfold zA
  rw [if_neg (by omega), if_neg (by omega)]
theorem zget {q : Nat × Nat} (h : q ∈ zcds) : zcds[zcds.idxOf q]? = some q := by
  obtain ⟨i, hi⟩ := List.getElem?_of_mem h
  rw [zidx i (List.getElem?_eq_some_iff.mp hi).1 q hi]
  exact hi
theorem zA_inj (X : zX) {q q' : Nat × Nat} (h : q ∈ zcds) (h' : q' ∈ zcds) (he : zA X q = zA X q') : q = q' := by
  rw [zA_of X h, zA_of X h'] at he
  have e : zcds.idxOf q = zcds.idxOf q' := by omega
  have a := zget h
  have b := zget h'
  rw [e, b] at a
  exact (Option.some.inj a).symm
theorem zW_get (X : zX) (g : zG) {t i : Nat} (h : (t, i) ∈ zcds) : (zW X g)[zcds.idxOf (t, i)]? = some (zA X (t, i), zC X g t i) := by
  unfold zW
  rw [List.getElem?_map, zget h]
  rfl
theorem zW_D (X : zX) (g : zG) : va_D (zF X) (zW X g) := by
  have key : ∀ (k : Nat) (p : Nat × va_E), (zW X g)[k]? = some p → ∃ q, zcds[k]? = some q ∧ p = (zA X q, zC X g q.1 q.2) := by
    intro k p hk
    unfold zW at hk
    rw [List.getElem?_map] at hk
    cases hq : zcds[k]? with
    | none => rw [hq] at hk; cases hk
    | some q => rw [hq] at hk; exact ⟨q, rfl, (Option.some.inj hk).symm⟩
  refine ⟨fun i j p p' hi hj he => ?_, fun k p hk => ?_⟩
  · obtain ⟨q, h1, rfl⟩ := key i p hi
    obtain ⟨q', h2, rfl⟩ := key j p' hj
    have e := zA_inj X (List.mem_of_getElem? h1) (List.mem_of_getElem? h2) he
    subst e
    have a := zidx i (List.getElem?_eq_some_iff.mp h1).1 q h1
    have b := zidx j (List.getElem?_eq_some_iff.mp h2).1 q h2
    omega
  · obtain ⟨q, h1, rfl⟩ := key k p hk
    have hm := List.mem_of_getElem? h1
    show X.2.2.1 ≤ zA X q ∧ zA X q < X.2.2.1 + zcds.length
    rw [zA_of X hm]
    have := List.idxOf_lt_length_of_mem hm
    omega
theorem zC_ext0 (X : zX) {g g' : zG} {t i : Nat} (h1 : ∀ k, g t i k = g' t i k) (h2 : ∀ k, g (1000 * (k + 1) + t) i 0 = g' (1000 * (k + 1) + t) i 0) : zC0 X g t i = zC0 X g' t i := by
  have e1 : g t i = g' t i := funext h1
  have e2 : ∀ k f, zfv X g t i k f = zfv X g' t i k f := by
    intro k f
    cases f with
    | none => simp only [zfv, h2]
    | some tg => rfl
  unfold zC0
  simp only [e1, e2]
theorem zC_ext (X : zX) {g g' : zG} {t i : Nat} (h1 : ∀ k, g t i k = g' t i k) (h2 : ∀ k, g (1000 * (k + 1) + t) i 0 = g' (1000 * (k + 1) + t) i 0) : zC X g t i = zC X g' t i := by
  unfold zC zpk
  by_cases h : zmod t = zfl X
  · rw [if_pos h, if_pos h]; exact zC_ext0 X h1 h2
  · rw [if_neg h, if_neg h]
theorem zC_in (X : zX) (g : zG) {t i : Nat} (h : zmod t = zfl X) : zC X g t i = zC0 X g t i := by
  unfold zC zpk
  rw [if_pos h]
/-- a world with one cell set -/
theorem zW_set (X : zX) {g g' : zG} {t i : Nat} {e : va_E} (h : (t, i) ∈ zcds) (he : e = zC X g' t i) (hne : ∀ q ∈ zcds, q ≠ (t, i) → zC X g q.1 q.2 = zC X g' q.1 q.2) :
    (zW X g).set (zcds.idxOf (t, i)) (zA X (t, i), e) = zW X g' := by
  subst he
  apply List.ext_getElem?
  intro j
  rw [List.getElem?_set]
  by_cases hj : zcds.idxOf (t, i) = j
  · subst hj
    rw [if_pos rfl, zW_get X g' h, if_pos (by unfold zW; rw [List.length_map]; exact List.idxOf_lt_length_of_mem h)]
  · rw [if_neg hj]
    unfold zW
    rw [List.getElem?_map, List.getElem?_map]
    cases hq : zcds[j]? with
    | none => rfl
    | some q =>
      have hm := List.mem_of_getElem? hq
      have hn : q ≠ (t, i) := by
        intro hz
        rw [← hz] at hj
        exact hj (zidx j (List.getElem?_eq_some_iff.mp hq).1 q hq)
      simp only [Option.map_some, hne q hm hn]
theorem zW_setO (X : zX) {g : zG} {t i ci k : Nat} {fs : List (Option (Nat → Nat × Nat))} (hX : zmod t = zfl X) (h : (t, i) ∈ zcds) (hk : zK t = .inl (ci, fs)) (hf : fs[k]? = some none) (v : Int32) :
    (zW X g).set (zcds.idxOf (t, i)) (zA X (t, i), .inr (ci, (fs.mapIdx (fun k f => zfv X g t i k f)).set k (.int v))) = zW X (zU g (1000 * (k + 1) + t) i 0 v) := by
  have ht := ztag _ h
  refine zW_set X h ?_ ?_
  · rw [zC_in X _ hX]
    simp only [zC0, hk]
    congr 1
    congr 1
    apply List.ext_getElem?
    intro j
    have hlt := (List.getElem?_eq_some_iff.mp hf).1
    rw [List.getElem?_set, List.getElem?_mapIdx, List.getElem?_mapIdx, List.length_mapIdx]
    by_cases hj : k = j
    · subst hj
      rw [if_pos rfl, if_pos hlt, hf]
      simp [zfv, zU]
    · rw [if_neg hj]
      cases hq : fs[j]? with
      | none => rfl
      | some f =>
        cases f with
        | none =>
          have : ¬ (1000 * (j + 1) = 1000 * (k + 1)) := by omega
          simp [zfv, zU, this]
        | some tg => rfl
  · intro q hq hn
    have h2 := ztag _ hq
    have hn' : ¬ (q.1 = t ∧ q.2 = i) := fun z => hn (Prod.ext z.1 z.2)
    refine zC_ext X (fun j => ?_) (fun j => ?_)
    · have : ¬ (q.1 = 1000 * (k + 1) + t) := by omega
      simp [zU, this]
    · have : ¬ (1000 * (j + 1) + q.1 = 1000 * (k + 1) + t ∧ q.2 = i) := by
        intro z
        apply hn'
        refine ⟨?_, z.2⟩
        have h1 : t < 60 := ht
        omega
      unfold zU
      rw [if_neg (fun z => this ⟨z.1, z.2.1⟩)]
theorem zW_setA (X : zX) {g : zG} {t i j n : Nat} {F : Nat → Int32} (hX : zmod t = zfl X) (h : (t, i) ∈ zcds) (hk : zK t = .inr (.inl (j, n))) (hj : j ≠ 4) :
    (zW X g).set (zcds.idxOf (t, i)) (zA X (t, i), .inl (X.2.1 j, n, .inl F)) = zW X (zUA g t i F) := by
  have ht := ztag _ h
  refine zW_set X h ?_ ?_
  · rw [zC_in X _ hX]
    simp only [zC0, hk, if_neg hj]
    have : zUA g t i F t i = F := by funext c; simp [zUA]
    rw [this]
  · intro q hq hn
    have h2 := ztag _ hq
    have hn' : ¬ (q.1 = t ∧ q.2 = i) := fun z => hn (Prod.ext z.1 z.2)
    refine zC_ext X (fun j => ?_) (fun j => ?_)
    · simp [zUA, hn']
    · have h1 : t < 60 := ht
      have : ¬ (1000 * (j + 1) + q.1 = t ∧ q.2 = i) := by omega
      simp [zUA, this]
theorem zUA_upd (g : zG) (t i j : Nat) (v : Int32) : zUA g t i (upd (g t i) j v) = zU g t i j v := by
  funext a b c
  unfold zUA zU upd
  by_cases h : a = t ∧ b = i
  · obtain ⟨rfl, rfl⟩ := h
    simp
  · rw [if_neg h, if_neg (fun z => h ⟨z.1, z.2.1⟩)]
end
section
/-! ===== what holds of a state beside the world, and what a method's body is walked in ===== -/
def zS (X : zX) (U : State) (H : Heap) : Prop :=
  va_K X.1 zcl (zT X) U ∧ (∀ q ∈ znF, va_Nw (.fieldLinkNest q.1 q.2.1 q.2.2.1 q.2.2.2.1 q.2.2.2.2.1 q.2.2.2.2.2) U) ∧ (∀ q ∈ znM, va_Nw (.methodLinkNest q.1 q.2.1 q.2.2.1 q.2.2.2) U) ∧
  (∀ i : Nat, i < 19 → vk_S 1 [zlen.getD i 0] [zbyt.getD i []] (fun _ => X.2.2.2.1 i) (fun _ => X.2.2.2.2.1 i) (zF X) U H) ∧ (∀ q ∈ zst, vk_R q.1 q.2.1 q.2.2.1 (X.2.2.2.1 q.2.2.2) U) ∧
  va_Z "java/lang/String" "COMPACT_STRINGS" "Z" (.int 1) (zF X) U H ∧ va_Zq "jdk/internal/util/Preconditions" "SIOOBE_FORMATTER" "Ljava/util/function/BiFunction;" (zF X) U H
theorem zS_vm {X : zX} {u U : State} {H : Heap} (h : zS X u H) (hv : U.vm = u.vm) : zS X U H := by
  have hA : u.vm.Alike U.vm := by rw [hv]; exact Vm.Alike.refl u.vm
  exact ⟨va_K.moved hA h.1, fun q hq => va_Nw.same rfl hv.symm (h.2.1 q hq), fun q hq => va_Nw.same rfl hv.symm (h.2.2.1 q hq), fun i hi => vk_S.moved hA (h.2.2.2.1 i hi), fun q hq => vk_R.same hv (h.2.2.2.2.1 q hq), va_Z.moved hA h.2.2.2.2.2.1, va_Zq.moved hA h.2.2.2.2.2.2⟩
theorem zS_warm {X : zX} {s U : State} {H H1 : Heap} (h : zS X s H) (hW : s.WarmedH U.vm) (hq : ∀ a : Nat, a < H.size → ¬ zF X a → H1[a]? = H[a]?) : zS X U H1 :=
  ⟨va_K.moved hW.alike h.1, fun q hq => va_Nw.warmF hW (h.2.1 q hq), fun q hq => va_Nw.warmM hW (h.2.2.1 q hq), fun i hi => (vk_S.moved hW.alike (h.2.2.2.1 i hi)).kept hq, fun q hq => vk_R.warm hW (h.2.2.2.2.1 q hq), (va_Z.moved hW.alike h.2.2.2.2.2.1).kept hq, (va_Zq.moved hW.alike h.2.2.2.2.2.2).kept hq⟩
/-- the start of a call: the world g, and what else holds -/
def zR (X : zX) (g : zG) (U : State) : Prop := va_P X.1 zcl (zW X g) U.heap ∧ zS X U U.heap
/-- its end: the answer, the world g' -/
def zQ (X : zX) (v : Option Value) (g' : zG) : Array Value → State → Outcome → State → Prop := fun _ st o t => o = .returned v ∧ va_P X.1 zcl (zW X g') t.heap ∧ va_F (zF X) st t
def zM (X : zX) : zV → Value
  | .inl x => .int x
  | .inr (.inl q) => .ref (zA X q)
  | .inr (.inr y) => .long y
def zrm (d : Nat) : Room := { frames := d, cells := 0, slots := 0, locals := 36 * d }
def zws (y : MethodName) (bytes : ByteArray) (maxL : Nat) (ret : Option FieldType) : List Cond := .code y bytes maxL ret :: zall
/-- a method's contract: from the world g with these arguments it returns this, the world is g' then -/
def MC (X : zX) (y : MethodName) (bytes : ByteArray) (maxL : Nat) (ret : Option FieldType) (d : Nat) (as : List zV) (rv : Option zV) (g g' : zG) : Prop :=
  ∀ l : Launch, Met l y (zws y bytes maxL ret) (zrm d) (va_Pc (as.map (zM X)) (zR X g)) (zQ X (rv.map (zM X)) g') 0 0 (zF X)
/-- the locals' list: ints and objects -/
def zE (X : zX) : Nat → List (Option zV) → List (Nat × Value)
  | _, [] => []
  | k, none :: L => zE X (k + 1) L
  | k, some (.inl x) :: L => (k, .int x) :: zE X (k + 1) L
  | k, some (.inr (.inl q)) :: L => (k, .ref (zA X q)) :: zE X (k + 1) L
  | k, some (.inr (.inr _)) :: L => zE X (k + 1) L
theorem zE_get (X : zX) {L : List (Option zV)} : ∀ (k i : Nat) {v : zV}, L[i]? = some (some v) → (∀ y, v ≠ .inr (.inr y)) → (k + i, zM X v) ∈ zE X k L := by
  induction L with
  | nil => intro k i v h; simp at h
  | cons a L ih =>
    intro k i v h hv
    cases i with
    | zero =>
      rw [List.getElem?_cons_zero] at h
      cases h
      rcases v with x | q | y
      · exact List.mem_cons_self
      · exact List.mem_cons_self
      · exact absurd rfl (hv y)
    | succ i =>
      rw [List.getElem?_cons_succ] at h
      have h1 := ih (k + 1) i h hv
      rw [show k + 1 + i = k + (i + 1) by omega] at h1
      rcases a with _ | x | q | y
      · exact h1
      · exact List.mem_cons_of_mem _ h1
      · exact List.mem_cons_of_mem _ h1
      · exact h1
theorem zE_at {X : zX} {ls : Array Slot} {nL : Nat} {L : List (Option zV)} (h : lv_has ls nL (zE X 0 L)) {i : Nat} {v : zV} (hi : L[i]? = some (some v)) (hv : ∀ y, v ≠ .inr (.inr y)) : ls[i]? = some (.val (zM X v)) := by
  have h1 := zE_get X 0 i hi hv
  rw [Nat.zero_add] at h1
  exact h.2.2 _ h1
theorem zE_mem (X : zX) {L : List (Option zV)} : ∀ (k : Nat) {q : Nat × Value}, q ∈ zE X k L → k ≤ q.1 ∧ q.2.category ≠ 2 ∧ ∃ v, L[q.1 - k]? = some (some v) ∧ (∀ y, v ≠ .inr (.inr y)) ∧ q.2 = zM X v := by
  induction L with
  | nil => intro k q h; cases h
  | cons a L ih =>
    intro k q h
    have up : q ∈ zE X (k + 1) L → k ≤ q.1 ∧ q.2.category ≠ 2 ∧ ∃ v, (a :: L)[q.1 - k]? = some (some v) ∧ (∀ y, v ≠ .inr (.inr y)) ∧ q.2 = zM X v := by
      intro h1
      obtain ⟨e1, e2, v, e3, e4⟩ := ih (k + 1) h1
      refine ⟨by omega, e2, v, ?_, e4⟩
      rw [show q.1 - k = (q.1 - (k + 1)) + 1 by omega, List.getElem?_cons_succ]
      exact e3
    rcases a with _ | x | p | y
    · exact up h
    · rcases List.mem_cons.mp h with h | h
      · subst h
        refine ⟨Nat.le_refl _, by simp [Value.category], .inl x, by simp, (fun y => by simp), rfl⟩
      · exact up h
    · rcases List.mem_cons.mp h with h | h
      · subst h
        refine ⟨Nat.le_refl _, by simp [Value.category], .inr (.inl p), by simp, (fun y => by simp), rfl⟩
      · exact up h
    · exact up h
theorem zE_set {X : zX} {ls : Array Slot} {nL : Nat} {L L' : List (Option zV)} {i : Nat} {v : zV} (h : lv_has ls nL ((i, zM X v) :: (zE X 0 L).filter (fun q => !(q.1 == i) && !(q.1 + 1 == i && q.2.category == 2)))) (hL : L.set i (some v) = L') : lv_has ls nL (zE X 0 L') := by
  subst hL
  refine ⟨h.1, h.2.1, fun q hq => h.2.2 q ?_⟩
  obtain ⟨-, e2, w, e3, e4, e5⟩ := zE_mem X 0 hq
  rw [Nat.sub_zero, List.getElem?_set] at e3
  by_cases hi : i = q.1
  · rw [if_pos hi] at e3
    split at e3
    · cases e3
      rw [show q = (i, zM X v) from Prod.ext hi.symm e5]
      exact List.mem_cons_self
    · cases e3
  · rw [if_neg hi] at e3
    refine List.mem_cons_of_mem _ (List.mem_filter.mpr ⟨?_, ?_⟩)
    · have h1 := zE_get X 0 q.1 e3 e4
      rw [Nat.zero_add, ← e5] at h1
      exact h1
    · have h1 : (q.1 == i) = false := by rw [beq_eq_false_iff_ne]; exact fun z => hi z.symm
      have h2 : (q.2.category == 2) = false := by rw [beq_eq_false_iff_ne]; exact e2
      simp [h1, h2]
/-- a bound name for a value: transparent -/
def zb {α β : Type} (x : α) (k : α → β) : β := k x
/-- behind a call -/
def zc (r : Option (Int32 × zG)) (k : Int32 → zG → Option (Int32 × zG)) : Option (Int32 × zG) := match r with
  | none => none
  | some (v, g) => k v g
section ZV
variable {X : zX} {p : Program} {l : Launch} {e : Env} {R : Room} {s : State} {m : MethodId} {args : Array Value} {below : List Frame} {meth : Method} {c : Code} {cc : ByteArray} {nL : Nat} {own : String} {cells slots : Nat} {Q : State → Prop}
/-- what a body is walked in: the machine, the code, the tables' words -/
def Cx (X : zX) (p : Program) (R : Room) (s : State) (m : MethodId) (args : Array Value) (meth : Method) (c : Code) (cc : ByteArray) (nL : Nat) (own : String) (cells slots : Nat) : Prop :=
  p.tables.exec = Jvm.exec ∧ c.code = cc ∧ c.maxLocals = nL ∧ s.vm.findClass own = some m.cls ∧ (∀ w ∈ zall, w.before args s = true) ∧ zS X s s.heap ∧ meth.locks = false ∧ cells ≤ R.cells ∧ slots ≤ R.slots
/-- the walk: from the world g, at pc, with these locals and this stack -/
def V (X : zX) (p : Program) (l : Launch) (e : Env) (R : Room) (s : State) (m : MethodId) (args : Array Value) (below : List Frame) (meth : Method) (c : Code) (nL : Nat) (cells slots : Nat) (Q : State → Prop) (g : zG) (pc : Nat) (L : List (Option zV)) (st : List zV) : Prop :=
  ∀ (H : Heap) (locs : List Loc) (ls : Array Slot), va_P X.1 zcl (zW X g) H → va_S (zF X) s.heap H locs → lv_has ls nL (zE X 0 L) → W p l e R s m args below meth c H locs cells slots Q (F0 m pc ls (st.map (zM X)))
variable {g : zG} {pc : Nat} {L L' : List (Option zV)} {st : List zV}
theorem v_iconst (C : Cx X p R s m args meth c cc nL own cells slots) {n : Int} (x : Int32) (hd : decode cc pc = .ok (.iconst n, 1)) (hv : Int32.ofInt n = x) (kk : V X p l e R s m args below meth c nL cells slots Q g (pc + 1) L (.inl x :: st)) : V X p l e R s m args below meth c nL cells slots Q g pc L st :=
  fun H locs ls hP hS hl => lv_iconst C.1 C.2.1 hd hv (kk H locs ls hP hS hl)
theorem v_bipush (C : Cx X p R s m args meth c cc nL own cells slots) {n : Int} (x : Int32) (hd : decode cc pc = .ok (.bipush n, 2)) (hv : (Int8.ofInt n).toInt32 = x) (kk : V X p l e R s m args below meth c nL cells slots Q g (pc + 2) L (.inl x :: st)) : V X p l e R s m args below meth c nL cells slots Q g pc L st :=
  fun H locs ls hP hS hl => lv_bipush C.1 C.2.1 hd hv (kk H locs ls hP hS hl)
theorem v_sipush (C : Cx X p R s m args meth c cc nL own cells slots) {n : Int} (x : Int32) (hd : decode cc pc = .ok (.sipush n, 3)) (hv : (Int16.ofInt n).toInt32 = x) (kk : V X p l e R s m args below meth c nL cells slots Q g (pc + 3) L (.inl x :: st)) : V X p l e R s m args below meth c nL cells slots Q g pc L st :=
  fun H locs ls hP hS hl => lv_sipush C.1 C.2.1 hd hv (kk H locs ls hP hS hl)
theorem v_ldc (C : Cx X p R s m args meth c cc nL own cells slots) {n : Nat} (x : Int32) (hd : decode cc pc = .ok (.ldc n, 2)) (hv : Cond.constant own n x ∈ zall) (kk : V X p l e R s m args below meth c nL cells slots Q g (pc + 2) L (.inl x :: st)) : V X p l e R s m args below meth c nL cells slots Q g pc L st :=
  fun H locs ls hP hS hl => lv_ldc C.1 C.2.1 C.2.2.2.1 (C.2.2.2.2.1 _ hv) hd (kk H locs ls hP hS hl)
theorem v_iload_n (C : Cx X p R s m args meth c cc nL own cells slots) {k : Fin 4} (i : Nat) {x : Int32} (hd : decode cc pc = .ok (.iload_n k, 1)) (hi : (k : Nat) = i) (hl : L[i]? = some (some (.inl x))) (kk : V X p l e R s m args below meth c nL cells slots Q g (pc + 1) L (.inl x :: st)) : V X p l e R s m args below meth c nL cells slots Q g pc L st :=
  fun H locs ls hP hS h => lv_iload_n C.1 C.2.1 hd hi (zE_at h hl (fun _ => by simp)) (kk H locs ls hP hS h)
theorem v_iload (C : Cx X p R s m args meth c cc nL own cells slots) (i : Nat) {x : Int32} (hd : decode cc pc = .ok (.iload i, 2)) (hl : L[i]? = some (some (.inl x))) (kk : V X p l e R s m args below meth c nL cells slots Q g (pc + 2) L (.inl x :: st)) : V X p l e R s m args below meth c nL cells slots Q g pc L st :=
  fun H locs ls hP hS h => lv_iload C.1 C.2.1 hd (zE_at h hl (fun _ => by simp)) (kk H locs ls hP hS h)
theorem v_aload_n (C : Cx X p R s m args meth c cc nL own cells slots) {k : Fin 4} (i : Nat) {x : Nat × Nat} (hd : decode cc pc = .ok (.aload_n k, 1)) (hi : (k : Nat) = i) (hl : L[i]? = some (some (.inr (.inl x)))) (kk : V X p l e R s m args below meth c nL cells slots Q g (pc + 1) L (.inr (.inl x) :: st)) : V X p l e R s m args below meth c nL cells slots Q g pc L st :=
  fun H locs ls hP hS h => lv_aload_n C.1 C.2.1 hd hi (zE_at h hl (fun _ => by simp)) (kk H locs ls hP hS h)
theorem v_aload (C : Cx X p R s m args meth c cc nL own cells slots) (i : Nat) {x : Nat × Nat} (hd : decode cc pc = .ok (.aload i, 2)) (hl : L[i]? = some (some (.inr (.inl x)))) (kk : V X p l e R s m args below meth c nL cells slots Q g (pc + 2) L (.inr (.inl x) :: st)) : V X p l e R s m args below meth c nL cells slots Q g pc L st :=
  fun H locs ls hP hS h => lv_aload C.1 C.2.1 hd (zE_at h hl (fun _ => by simp)) (kk H locs ls hP hS h)
theorem v_istore_n (C : Cx X p R s m args meth c cc nL own cells slots) {k : Fin 4} (i : Nat) {x : Int32} (hd : decode cc pc = .ok (.istore_n k, 1)) (hi : (k : Nat) = i) (hn : i < nL) (hL : L.set i (some (.inl x)) = L') (kk : V X p l e R s m args below meth c nL cells slots Q g (pc + 1) L' st) : V X p l e R s m args below meth c nL cells slots Q g pc L (.inl x :: st) :=
  fun H locs ls hP hS h => lv_istore_n C.1 C.2.1 hd hi h hn rfl (fun ls' h' => kk H locs ls' hP hS (zE_set (v := .inl x) h' hL))
theorem v_istore (C : Cx X p R s m args meth c cc nL own cells slots) (i : Nat) {x : Int32} (hd : decode cc pc = .ok (.istore i, 2)) (hn : i < nL) (hL : L.set i (some (.inl x)) = L') (kk : V X p l e R s m args below meth c nL cells slots Q g (pc + 2) L' st) : V X p l e R s m args below meth c nL cells slots Q g pc L (.inl x :: st) :=
  fun H locs ls hP hS h => lv_istore C.1 C.2.1 hd h hn rfl (fun ls' h' => kk H locs ls' hP hS (zE_set (v := .inl x) h' hL))
theorem v_astore_n (C : Cx X p R s m args meth c cc nL own cells slots) {k : Fin 4} (i : Nat) {x : Nat × Nat} (hd : decode cc pc = .ok (.astore_n k, 1)) (hi : (k : Nat) = i) (hn : i < nL) (hL : L.set i (some (.inr (.inl x))) = L') (kk : V X p l e R s m args below meth c nL cells slots Q g (pc + 1) L' st) : V X p l e R s m args below meth c nL cells slots Q g pc L (.inr (.inl x) :: st) :=
  fun H locs ls hP hS h => lv_astore_n C.1 C.2.1 hd hi h hn rfl (fun ls' h' => kk H locs ls' hP hS (zE_set (v := .inr (.inl x)) h' hL))
theorem v_astore (C : Cx X p R s m args meth c cc nL own cells slots) (i : Nat) {x : Nat × Nat} (hd : decode cc pc = .ok (.astore i, 2)) (hn : i < nL) (hL : L.set i (some (.inr (.inl x))) = L') (kk : V X p l e R s m args below meth c nL cells slots Q g (pc + 2) L' st) : V X p l e R s m args below meth c nL cells slots Q g pc L (.inr (.inl x) :: st) :=
  fun H locs ls hP hS h => lv_astore C.1 C.2.1 hd h hn rfl (fun ls' h' => kk H locs ls' hP hS (zE_set (v := .inr (.inl x)) h' hL))
theorem zE_idx {X : zX} {L : List (Option zV)} {i : Nat} {x : Int32} (hl : L[i]? = some (some (.inl x))) : ∃ k : Nat, (zE X 0 L)[k]? = some (i, .int x) := by
  have h := zE_get X 0 i hl (fun _ => by simp)
  rw [Nat.zero_add] at h
  exact List.getElem?_of_mem h
theorem v_iinc (C : Cx X p R s m args meth c cc nL own cells slots) (i : Nat) {n : Int} (k : Int32) {x : Int32} (hd : decode cc pc = .ok (.iinc i n, 3)) (hk : Int32.ofInt n = k) (hn : i < nL) (hl : L[i]? = some (some (.inl x))) (hL : L.set i (some (.inl (x + k))) = L') (kk : V X p l e R s m args below meth c nL cells slots Q g (pc + 3) L' st) : V X p l e R s m args below meth c nL cells slots Q g pc L st := by
  intro H locs ls hP hS h
  obtain ⟨q, hq⟩ := zE_idx (X := X) hl
  exact lv_iinc C.1 C.2.1 hd h hq (by rw [hk]) hn rfl (fun ls' h' => kk H locs ls' hP hS (zE_set (v := .inl (x + k)) h' hL))
theorem v_iadd (C : Cx X p R s m args meth c cc nL own cells slots) {x y : Int32} (hd : decode cc pc = .ok (.iadd, 1)) (kk : V X p l e R s m args below meth c nL cells slots Q g (pc + 1) L (.inl (x + y) :: st)) : V X p l e R s m args below meth c nL cells slots Q g pc L (.inl y :: .inl x :: st) :=
  fun H locs ls hP hS h => lv_iadd C.1 C.2.1 hd (kk H locs ls hP hS h)
theorem v_isub (C : Cx X p R s m args meth c cc nL own cells slots) {x y : Int32} (hd : decode cc pc = .ok (.isub, 1)) (kk : V X p l e R s m args below meth c nL cells slots Q g (pc + 1) L (.inl (x - y) :: st)) : V X p l e R s m args below meth c nL cells slots Q g pc L (.inl y :: .inl x :: st) :=
  fun H locs ls hP hS h => lv_isub C.1 C.2.1 hd (kk H locs ls hP hS h)
theorem v_imul (C : Cx X p R s m args meth c cc nL own cells slots) {x y : Int32} (hd : decode cc pc = .ok (.imul, 1)) (kk : V X p l e R s m args below meth c nL cells slots Q g (pc + 1) L (.inl (x * y) :: st)) : V X p l e R s m args below meth c nL cells slots Q g pc L (.inl y :: .inl x :: st) :=
  fun H locs ls hP hS h => lv_imul C.1 C.2.1 hd (kk H locs ls hP hS h)
theorem v_iand (C : Cx X p R s m args meth c cc nL own cells slots) {x y : Int32} (hd : decode cc pc = .ok (.iand, 1)) (kk : V X p l e R s m args below meth c nL cells slots Q g (pc + 1) L (.inl (x &&& y) :: st)) : V X p l e R s m args below meth c nL cells slots Q g pc L (.inl y :: .inl x :: st) :=
  fun H locs ls hP hS h => lv_iand C.1 C.2.1 hd (kk H locs ls hP hS h)
theorem v_ior (C : Cx X p R s m args meth c cc nL own cells slots) {x y : Int32} (hd : decode cc pc = .ok (.ior, 1)) (kk : V X p l e R s m args below meth c nL cells slots Q g (pc + 1) L (.inl (x ||| y) :: st)) : V X p l e R s m args below meth c nL cells slots Q g pc L (.inl y :: .inl x :: st) :=
  fun H locs ls hP hS h => lv_ior C.1 C.2.1 hd (kk H locs ls hP hS h)
theorem v_ishl (C : Cx X p R s m args meth c cc nL own cells slots) {x y : Int32} (hd : decode cc pc = .ok (.ishl, 1)) (kk : V X p l e R s m args below meth c nL cells slots Q g (pc + 1) L (.inl (x <<< (y &&& 31)) :: st)) : V X p l e R s m args below meth c nL cells slots Q g pc L (.inl y :: .inl x :: st) :=
  fun H locs ls hP hS h => lv_ishl C.1 C.2.1 hd (kk H locs ls hP hS h)
theorem v_ishr (C : Cx X p R s m args meth c cc nL own cells slots) {x y : Int32} (hd : decode cc pc = .ok (.ishr, 1)) (kk : V X p l e R s m args below meth c nL cells slots Q g (pc + 1) L (.inl (x >>> (y &&& 31)) :: st)) : V X p l e R s m args below meth c nL cells slots Q g pc L (.inl y :: .inl x :: st) :=
  fun H locs ls hP hS h => lv_ishr C.1 C.2.1 hd (kk H locs ls hP hS h)
theorem v_ineg (C : Cx X p R s m args meth c cc nL own cells slots) {x : Int32} (hd : decode cc pc = .ok (.ineg, 1)) (kk : V X p l e R s m args below meth c nL cells slots Q g (pc + 1) L (.inl (-x) :: st)) : V X p l e R s m args below meth c nL cells slots Q g pc L (.inl x :: st) :=
  fun H locs ls hP hS h => lv_ineg C.1 C.2.1 hd (kk H locs ls hP hS h)
theorem v_idiv (C : Cx X p R s m args meth c cc nL own cells slots) {x y : Int32} {A : Option (Int32 × zG)} {res : Int32 × zG} (hd : decode cc pc = .ok (.idiv, 1)) (hM : (if y = 0 then none else A) = some res) (kk : A = some res → V X p l e R s m args below meth c nL cells slots Q g (pc + 1) L (.inl (x / y) :: st)) : V X p l e R s m args below meth c nL cells slots Q g pc L (.inl y :: .inl x :: st) := by
  intro H locs ls hP hS h
  by_cases hy : y = 0
  · rw [if_pos hy] at hM; cases hM
  · rw [if_neg hy] at hM
    exact lv_idiv C.1 C.2.1 hd hy (kk hM H locs ls hP hS h)
theorem v_irem (C : Cx X p R s m args meth c cc nL own cells slots) {x y : Int32} {A : Option (Int32 × zG)} {res : Int32 × zG} (hd : decode cc pc = .ok (.irem, 1)) (hM : (if y = 0 then none else A) = some res) (kk : A = some res → V X p l e R s m args below meth c nL cells slots Q g (pc + 1) L (.inl (x - x / y * y) :: st)) : V X p l e R s m args below meth c nL cells slots Q g pc L (.inl y :: .inl x :: st) := by
  intro H locs ls hP hS h
  by_cases hy : y = 0
  · rw [if_pos hy] at hM; cases hM
  · rw [if_neg hy] at hM
    exact lv_irem C.1 C.2.1 hd hy (kk hM H locs ls hP hS h)
theorem zM_cat (X : zX) {v : zV} (hv : ∀ y, v ≠ .inr (.inr y)) : (zM X v).category = 1 := by
  rcases v with x | q | y
  · rfl
  · rfl
  · exact absurd rfl (hv y)
theorem v_dup_i (C : Cx X p R s m args meth c cc nL own cells slots) {x : Int32} (hd : decode cc pc = .ok (.dup, 1)) (kk : V X p l e R s m args below meth c nL cells slots Q g (pc + 1) L (.inl x :: .inl x :: st)) : V X p l e R s m args below meth c nL cells slots Q g pc L (.inl x :: st) :=
  fun H locs ls hP hS h => lv_dup C.1 C.2.1 hd rfl (kk H locs ls hP hS h)
theorem v_dup_a (C : Cx X p R s m args meth c cc nL own cells slots) {x : Nat × Nat} (hd : decode cc pc = .ok (.dup, 1)) (kk : V X p l e R s m args below meth c nL cells slots Q g (pc + 1) L (.inr (.inl x) :: .inr (.inl x) :: st)) : V X p l e R s m args below meth c nL cells slots Q g pc L (.inr (.inl x) :: st) :=
  fun H locs ls hP hS h => lv_dup C.1 C.2.1 hd rfl (kk H locs ls hP hS h)
theorem v_pop (C : Cx X p R s m args meth c cc nL own cells slots) {x : Int32} (hd : decode cc pc = .ok (.pop, 1)) (kk : V X p l e R s m args below meth c nL cells slots Q g (pc + 1) L st) : V X p l e R s m args below meth c nL cells slots Q g pc L (.inl x :: st) :=
  fun H locs ls hP hS h => lv_pop C.1 C.2.1 hd rfl (kk H locs ls hP hS h)
theorem v_dup2 (C : Cx X p R s m args meth c cc nL own cells slots) {x : Int32} {q : Nat × Nat} (hd : decode cc pc = .ok (.dup2, 1)) (kk : V X p l e R s m args below meth c nL cells slots Q g (pc + 1) L (.inl x :: .inr (.inl q) :: .inl x :: .inr (.inl q) :: st)) : V X p l e R s m args below meth c nL cells slots Q g pc L (.inl x :: .inr (.inl q) :: st) :=
  fun H locs ls hP hS h => lv_dup2_11 C.1 C.2.1 hd rfl rfl (kk H locs ls hP hS h)
theorem v_goto (C : Cx X p R s m args meth c cc nL own cells slots) {off : Int} (tgt : Nat) (hd : decode cc pc = .ok (.goto off, 3)) (ht : (pc : Int) + off = (tgt : Int)) (kk : V X p l e R s m args below meth c nL cells slots Q g tgt L st) : V X p l e R s m args below meth c nL cells slots Q g pc L st :=
  fun H locs ls hP hS h => lv_goto C.1 C.2.1 hd ht (kk H locs ls hP hS h)
theorem v_if_eq (C : Cx X p R s m args meth c cc nL own cells slots) {x : Int32} {A B : Option (Int32 × zG)} {res : Int32 × zG} {off : Int} (tgt : Nat) (hd : decode cc pc = .ok (.ifCond .eq off, 3)) (ht : (pc : Int) + off = (tgt : Int)) (hM : (if x = 0 then A else B) = some res) (kt : A = some res → V X p l e R s m args below meth c nL cells slots Q g tgt L st) (kf : B = some res → V X p l e R s m args below meth c nL cells slots Q g (pc + 3) L st) : V X p l e R s m args below meth c nL cells slots Q g pc L (.inl x :: st) := by
  intro H locs ls hP hS h
  exact lv_if_eq C.1 C.2.1 hd ht (fun q => kt (by rw [if_pos q] at hM; exact hM) H locs ls hP hS h) (fun q => kf (by rw [if_neg q] at hM; exact hM) H locs ls hP hS h)
theorem v_if_ne (C : Cx X p R s m args meth c cc nL own cells slots) {x : Int32} {A B : Option (Int32 × zG)} {res : Int32 × zG} {off : Int} (tgt : Nat) (hd : decode cc pc = .ok (.ifCond .ne off, 3)) (ht : (pc : Int) + off = (tgt : Int)) (hM : (if x = 0 then A else B) = some res) (kt : B = some res → V X p l e R s m args below meth c nL cells slots Q g tgt L st) (kf : A = some res → V X p l e R s m args below meth c nL cells slots Q g (pc + 3) L st) : V X p l e R s m args below meth c nL cells slots Q g pc L (.inl x :: st) := by
  intro H locs ls hP hS h
  exact lv_if_ne C.1 C.2.1 hd ht (fun q => kt (by rw [if_neg q] at hM; exact hM) H locs ls hP hS h) (fun q => kf (by rw [if_pos q] at hM; exact hM) H locs ls hP hS h)
theorem v_if_lt (C : Cx X p R s m args meth c cc nL own cells slots) {x : Int32} {A B : Option (Int32 × zG)} {res : Int32 × zG} {off : Int} (tgt : Nat) (hd : decode cc pc = .ok (.ifCond .lt off, 3)) (ht : (pc : Int) + off = (tgt : Int)) (hM : (if x < 0 then A else B) = some res) (kt : A = some res → V X p l e R s m args below meth c nL cells slots Q g tgt L st) (kf : B = some res → V X p l e R s m args below meth c nL cells slots Q g (pc + 3) L st) : V X p l e R s m args below meth c nL cells slots Q g pc L (.inl x :: st) := by
  intro H locs ls hP hS h
  exact lv_if_lt C.1 C.2.1 hd ht (fun q => kt (by rw [if_pos q] at hM; exact hM) H locs ls hP hS h) (fun q => kf (by rw [if_neg q] at hM; exact hM) H locs ls hP hS h)
theorem v_if_ge (C : Cx X p R s m args meth c cc nL own cells slots) {x : Int32} {A B : Option (Int32 × zG)} {res : Int32 × zG} {off : Int} (tgt : Nat) (hd : decode cc pc = .ok (.ifCond .ge off, 3)) (ht : (pc : Int) + off = (tgt : Int)) (hM : (if x < 0 then A else B) = some res) (kt : B = some res → V X p l e R s m args below meth c nL cells slots Q g tgt L st) (kf : A = some res → V X p l e R s m args below meth c nL cells slots Q g (pc + 3) L st) : V X p l e R s m args below meth c nL cells slots Q g pc L (.inl x :: st) := by
  intro H locs ls hP hS h
  exact lv_if_ge C.1 C.2.1 hd ht (fun q => kt (by rw [if_neg (Int32.not_lt.mpr q)] at hM; exact hM) H locs ls hP hS h) (fun q => kf (by rw [if_pos (Int32.not_le.mp q)] at hM; exact hM) H locs ls hP hS h)
theorem v_if_gt (C : Cx X p R s m args meth c cc nL own cells slots) {x : Int32} {A B : Option (Int32 × zG)} {res : Int32 × zG} {off : Int} (tgt : Nat) (hd : decode cc pc = .ok (.ifCond .gt off, 3)) (ht : (pc : Int) + off = (tgt : Int)) (hM : (if 0 < x then A else B) = some res) (kt : A = some res → V X p l e R s m args below meth c nL cells slots Q g tgt L st) (kf : B = some res → V X p l e R s m args below meth c nL cells slots Q g (pc + 3) L st) : V X p l e R s m args below meth c nL cells slots Q g pc L (.inl x :: st) := by
  intro H locs ls hP hS h
  exact lv_if_gt C.1 C.2.1 hd ht (fun q => kt (by rw [if_pos q] at hM; exact hM) H locs ls hP hS h) (fun q => kf (by rw [if_neg q] at hM; exact hM) H locs ls hP hS h)
theorem v_if_le (C : Cx X p R s m args meth c cc nL own cells slots) {x : Int32} {A B : Option (Int32 × zG)} {res : Int32 × zG} {off : Int} (tgt : Nat) (hd : decode cc pc = .ok (.ifCond .le off, 3)) (ht : (pc : Int) + off = (tgt : Int)) (hM : (if 0 < x then A else B) = some res) (kt : B = some res → V X p l e R s m args below meth c nL cells slots Q g tgt L st) (kf : A = some res → V X p l e R s m args below meth c nL cells slots Q g (pc + 3) L st) : V X p l e R s m args below meth c nL cells slots Q g pc L (.inl x :: st) := by
  intro H locs ls hP hS h
  exact lv_if_le C.1 C.2.1 hd ht (fun q => kt (by rw [if_neg (Int32.not_lt.mpr q)] at hM; exact hM) H locs ls hP hS h) (fun q => kf (by rw [if_pos (Int32.not_le.mp q)] at hM; exact hM) H locs ls hP hS h)
theorem v_icmp_eq (C : Cx X p R s m args meth c cc nL own cells slots) {x y : Int32} {A B : Option (Int32 × zG)} {res : Int32 × zG} {off : Int} (tgt : Nat) (hd : decode cc pc = .ok (.if_icmp .eq off, 3)) (ht : (pc : Int) + off = (tgt : Int)) (hM : (if x = y then A else B) = some res) (kt : A = some res → V X p l e R s m args below meth c nL cells slots Q g tgt L st) (kf : B = some res → V X p l e R s m args below meth c nL cells slots Q g (pc + 3) L st) : V X p l e R s m args below meth c nL cells slots Q g pc L (.inl y :: .inl x :: st) := by
  intro H locs ls hP hS h
  exact lv_icmp_eq C.1 C.2.1 hd ht (fun q => kt (by rw [if_pos q] at hM; exact hM) H locs ls hP hS h) (fun q => kf (by rw [if_neg q] at hM; exact hM) H locs ls hP hS h)
theorem v_icmp_ne (C : Cx X p R s m args meth c cc nL own cells slots) {x y : Int32} {A B : Option (Int32 × zG)} {res : Int32 × zG} {off : Int} (tgt : Nat) (hd : decode cc pc = .ok (.if_icmp .ne off, 3)) (ht : (pc : Int) + off = (tgt : Int)) (hM : (if x = y then A else B) = some res) (kt : B = some res → V X p l e R s m args below meth c nL cells slots Q g tgt L st) (kf : A = some res → V X p l e R s m args below meth c nL cells slots Q g (pc + 3) L st) : V X p l e R s m args below meth c nL cells slots Q g pc L (.inl y :: .inl x :: st) := by
  intro H locs ls hP hS h
  exact lv_icmp_ne C.1 C.2.1 hd ht (fun q => kt (by rw [if_neg q] at hM; exact hM) H locs ls hP hS h) (fun q => kf (by rw [if_pos q] at hM; exact hM) H locs ls hP hS h)
theorem v_icmp_lt (C : Cx X p R s m args meth c cc nL own cells slots) {x y : Int32} {A B : Option (Int32 × zG)} {res : Int32 × zG} {off : Int} (tgt : Nat) (hd : decode cc pc = .ok (.if_icmp .lt off, 3)) (ht : (pc : Int) + off = (tgt : Int)) (hM : (if x < y then A else B) = some res) (kt : A = some res → V X p l e R s m args below meth c nL cells slots Q g tgt L st) (kf : B = some res → V X p l e R s m args below meth c nL cells slots Q g (pc + 3) L st) : V X p l e R s m args below meth c nL cells slots Q g pc L (.inl y :: .inl x :: st) := by
  intro H locs ls hP hS h
  exact lv_icmp_lt C.1 C.2.1 hd ht (fun q => kt (by rw [if_pos q] at hM; exact hM) H locs ls hP hS h) (fun q => kf (by rw [if_neg q] at hM; exact hM) H locs ls hP hS h)
theorem v_icmp_ge (C : Cx X p R s m args meth c cc nL own cells slots) {x y : Int32} {A B : Option (Int32 × zG)} {res : Int32 × zG} {off : Int} (tgt : Nat) (hd : decode cc pc = .ok (.if_icmp .ge off, 3)) (ht : (pc : Int) + off = (tgt : Int)) (hM : (if x < y then A else B) = some res) (kt : B = some res → V X p l e R s m args below meth c nL cells slots Q g tgt L st) (kf : A = some res → V X p l e R s m args below meth c nL cells slots Q g (pc + 3) L st) : V X p l e R s m args below meth c nL cells slots Q g pc L (.inl y :: .inl x :: st) := by
  intro H locs ls hP hS h
  exact lv_icmp_ge C.1 C.2.1 hd ht (fun q => kt (by rw [if_neg (Int32.not_lt.mpr q)] at hM; exact hM) H locs ls hP hS h) (fun q => kf (by rw [if_pos (Int32.not_le.mp q)] at hM; exact hM) H locs ls hP hS h)
theorem v_icmp_gt (C : Cx X p R s m args meth c cc nL own cells slots) {x y : Int32} {A B : Option (Int32 × zG)} {res : Int32 × zG} {off : Int} (tgt : Nat) (hd : decode cc pc = .ok (.if_icmp .gt off, 3)) (ht : (pc : Int) + off = (tgt : Int)) (hM : (if y < x then A else B) = some res) (kt : A = some res → V X p l e R s m args below meth c nL cells slots Q g tgt L st) (kf : B = some res → V X p l e R s m args below meth c nL cells slots Q g (pc + 3) L st) : V X p l e R s m args below meth c nL cells slots Q g pc L (.inl y :: .inl x :: st) := by
  intro H locs ls hP hS h
  exact lv_icmp_gt C.1 C.2.1 hd ht (fun q => kt (by rw [if_pos q] at hM; exact hM) H locs ls hP hS h) (fun q => kf (by rw [if_neg q] at hM; exact hM) H locs ls hP hS h)
theorem v_icmp_le (C : Cx X p R s m args meth c cc nL own cells slots) {x y : Int32} {A B : Option (Int32 × zG)} {res : Int32 × zG} {off : Int} (tgt : Nat) (hd : decode cc pc = .ok (.if_icmp .le off, 3)) (ht : (pc : Int) + off = (tgt : Int)) (hM : (if y < x then A else B) = some res) (kt : B = some res → V X p l e R s m args below meth c nL cells slots Q g tgt L st) (kf : A = some res → V X p l e R s m args below meth c nL cells slots Q g (pc + 3) L st) : V X p l e R s m args below meth c nL cells slots Q g pc L (.inl y :: .inl x :: st) := by
  intro H locs ls hP hS h
  exact lv_icmp_le C.1 C.2.1 hd ht (fun q => kt (by rw [if_neg (Int32.not_lt.mpr q)] at hM; exact hM) H locs ls hP hS h) (fun q => kf (by rw [if_pos (Int32.not_le.mp q)] at hM; exact hM) H locs ls hP hS h)

/-- a table of jumps: the case's number is read by 'if' one after the other -/
theorem v_tblIn (C : Cx X p R s m args meth c cc nL own cells slots) {dflt lo hi : Int} {offs : Array Int} {len : Nat} {x : Int32} {off : Int} (tgt : Nat) (k : Int) (hd : decode cc pc = .ok (.tableswitch dflt lo hi offs, len)) (hk : x.toInt = k) (h1 : ¬ k < lo) (h2 : ¬ hi < k) (ho : offs[(k - lo).toNat]? = some off) (ht : (pc : Int) + off = (tgt : Int)) (kk : V X p l e R s m args below meth c nL cells slots Q g tgt L st) : V X p l e R s m args below meth c nL cells slots Q g pc L (.inl x :: st) := by
  subst hk
  exact fun H locs ls hP hS h => lv_tableIn C.1 C.2.1 hd h1 h2 ho ht (kk H locs ls hP hS h)
theorem v_tblOut (C : Cx X p R s m args meth c cc nL own cells slots) {dflt lo hi : Int} {offs : Array Int} {len : Nat} {x : Int32} (tgt : Nat) (hd : decode cc pc = .ok (.tableswitch dflt lo hi offs, len)) (h : x.toInt < lo ∨ hi < x.toInt) (ht : (pc : Int) + dflt = (tgt : Int)) (kk : V X p l e R s m args below meth c nL cells slots Q g tgt L st) : V X p l e R s m args below meth c nL cells slots Q g pc L (.inl x :: st) :=
  fun H locs ls hP hS hl => lv_tableOut C.1 C.2.1 hd h ht (kk H locs ls hP hS hl)
/-! the world's cells -/
def zin (j : Int32) (n : Nat) : Bool := decide (¬ j < 0) && decide (j.toNatClampNeg < n)
def zi (j : Int32) (n : Nat) (A : Option (Int32 × zG)) : Option (Int32 × zG) := if zin j n = true then A else none
theorem zin_vp {j : Int32} {n : Nat} (h : zin j n = true) : vp_in j n := by
  simp only [zin, Bool.and_eq_true, decide_eq_true_eq] at h
  rintro (q | q)
  · exact h.1 q
  · omega
theorem zi_elim {j : Int32} {n : Nat} {A : Option (Int32 × zG)} {res : Int32 × zG} (h : zi j n A = some res) : zin j n = true ∧ A = some res := by
  unfold zi at h
  by_cases q : zin j n = true
  · rw [if_pos q] at h; exact ⟨q, h⟩
  · rw [if_neg q] at h; cases h
theorem zin_lt {j : Int32} {n : Nat} (h : zin j n = true) : j.toNatClampNeg < n := by
  simp only [zin, Bool.and_eq_true, decide_eq_true_eq] at h
  exact h.2
theorem v_get (C : Cx X p R s m args meth c cc nL own cells slots) {t i ci N k index : Nat} {fs : List (Option (Nat → Nat × Nat))} {f : Option (Nat → Nat × Nat)} {Cn : String} {T : u_T} (hX : zmod t = zfl X) (hq : (t, i) ∈ zcds) (hk : zK t = .inl (ci, fs)) (hc : zcl[ci]? = some (Cn, T, N)) (hin : ∀ w ∈ u_ws Cn T N, w ∈ zall) (hkN : k < N) (hf : fs[k]? = some f) (hlink : Cond.fieldLink own index (T k).1 (T k).2.1 (T k).2.2.1 ∈ zall) (hd : decode cc pc = .ok (.getfield index, 3)) {v : zV} (hv : zfv X g t i k f = zM X v)
    (kk : V X p l e R s m args below meth c nL cells slots Q g (pc + 3) L (v :: st)) : V X p l e R s m args below meth c nL cells slots Q g pc L (.inr (.inl (t, i)) :: st) := by
  intro H locs ls hP hS h
  have he := zW_get X g hq
  rw [zC_in X g hX] at he
  simp only [zC0, hk] at he
  refine va_get (tys := zT X) (index := index) (v := zM X v) C.1 C.2.1 (fun w hw => C.2.2.2.2.1 w hw) hin C.2.2.2.1 C.2.2.2.2.2.1.1 hP (zcds.idxOf (t, i)) he hc k hkN (C.2.2.2.2.1 _ hlink) (fun _ h9 => h9) ?_ hd (kk H locs ls hP hS h)
  rw [List.getElem?_mapIdx, hf, Option.map_some, hv]
theorem v_getN (C : Cx X p R s m args meth c cc nL own cells slots) {t i ci N k index : Nat} {host : String} {fs : List (Option (Nat → Nat × Nat))} {f : Option (Nat → Nat × Nat)} {Cn : String} {T : u_T} (hX : zmod t = zfl X) (hq : (t, i) ∈ zcds) (hk : zK t = .inl (ci, fs)) (hc : zcl[ci]? = some (Cn, T, N)) (hin : ∀ w ∈ u_ws Cn T N, w ∈ zall) (hkN : k < N) (hf : fs[k]? = some f) (hlink : (own, index, (T k).1, (T k).2.1, (T k).2.2.1, host) ∈ znF) (hd : decode cc pc = .ok (.getfield index, 3)) {v : zV} (hv : zfv X g t i k f = zM X v)
    (kk : V X p l e R s m args below meth c nL cells slots Q g (pc + 3) L (v :: st)) : V X p l e R s m args below meth c nL cells slots Q g pc L (.inr (.inl (t, i)) :: st) := by
  intro H locs ls hP hS h
  have he := zW_get X g hq
  rw [zC_in X g hX] at he
  simp only [zC0, hk] at he
  refine va_getN (tys := zT X) (index := index) (host := host) (v := zM X v) C.1 C.2.1 (fun w hw => C.2.2.2.2.1 w hw) hin C.2.2.2.1 C.2.2.2.2.2.1.1 hP (zcds.idxOf (t, i)) he hc k hkN (va_Nw.use rfl (C.2.2.2.2.2.1.2.1 _ hlink)) (fun _ h9 => h9) ?_ hd (kk H locs ls hP hS h)
  rw [List.getElem?_mapIdx, hf, Option.map_some, hv]
theorem v_put (C : Cx X p R s m args meth c cc nL own cells slots) {t i ci N k index : Nat} {fs : List (Option (Nat → Nat × Nat))} {Cn : String} {T : u_T} {ty : FieldType} (ty0 : Nat → FieldType) (hty : ∀ k, k < N → parseFieldDescriptor (T k).2.2.1 = some (ty0 k)) (hnm : ∀ a, a < N → ∀ b, b < N → a ≠ b → (T a).2.1 ≠ (T b).2.1) (hX : zmod t = zfl X) (hq : (t, i) ∈ zcds) (hk : zK t = .inl (ci, fs)) (hc : zcl[ci]? = some (Cn, T, N)) (hin : ∀ w ∈ u_ws Cn T N, w ∈ zall) (hkN : k < N) (hf : fs[k]? = some none) (hlink : Cond.fieldLink own index (T k).1 (T k).2.1 (T k).2.2.1 ∈ zall) (hfin : (T k).2.2.2 = false) (hty1 : ty0 k = ty) {x : Int32} (hn : narrow ty (.int x) = .int x) (hfit : fits ty (.int x) = true) (hd : decode cc pc = .ok (.putfield index, 3))
    (kk : V X p l e R s m args below meth c nL cells slots Q (zU g (1000 * (k + 1) + t) i 0 x) (pc + 3) L st) : V X p l e R s m args below meth c nL cells slots Q g pc L (.inl x :: .inr (.inl (t, i)) :: st) := by
  intro H locs ls hP hS h
  have he := zW_get X g hq
  rw [zC_in X g hX] at he
  simp only [zC0, hk] at he
  subst hty1
  refine va_put (tys := zT X) (index := index) (v := .int x) C.1 C.2.1 (fun w hw => C.2.2.2.2.1 w hw) hin ty0 hty hnm C.2.2.2.1 C.2.2.2.2.2.1.1 hP (zW_D X g) hS (zcds.idxOf (t, i)) he hc k hkN (C.2.2.2.2.1 _ hlink) (fun _ h9 => h9) hfin (hty k hkN) hn hfit ?_ hd (fun H1 locs1 hP1 _ hS1 => kk H1 locs1 ls ?_ hS1 h)
  · rw [List.length_mapIdx]; exact (List.getElem?_eq_some_iff.mp hf).1
  · rw [← zW_setO X hX hq hk hf x]; exact hP1
theorem v_putN (C : Cx X p R s m args meth c cc nL own cells slots) {t i ci N k index : Nat} {host : String} {fs : List (Option (Nat → Nat × Nat))} {Cn : String} {T : u_T} {ty : FieldType} (ty0 : Nat → FieldType) (hty : ∀ k, k < N → parseFieldDescriptor (T k).2.2.1 = some (ty0 k)) (hnm : ∀ a, a < N → ∀ b, b < N → a ≠ b → (T a).2.1 ≠ (T b).2.1) (hX : zmod t = zfl X) (hq : (t, i) ∈ zcds) (hk : zK t = .inl (ci, fs)) (hc : zcl[ci]? = some (Cn, T, N)) (hin : ∀ w ∈ u_ws Cn T N, w ∈ zall) (hkN : k < N) (hf : fs[k]? = some none) (hlink : (own, index, (T k).1, (T k).2.1, (T k).2.2.1, host) ∈ znF) (hfin : (T k).2.2.2 = false) (hty1 : ty0 k = ty) {x : Int32} (hn : narrow ty (.int x) = .int x) (hfit : fits ty (.int x) = true) (hd : decode cc pc = .ok (.putfield index, 3))
    (kk : V X p l e R s m args below meth c nL cells slots Q (zU g (1000 * (k + 1) + t) i 0 x) (pc + 3) L st) : V X p l e R s m args below meth c nL cells slots Q g pc L (.inl x :: .inr (.inl (t, i)) :: st) := by
  intro H locs ls hP hS h
  have he := zW_get X g hq
  rw [zC_in X g hX] at he
  simp only [zC0, hk] at he
  subst hty1
  refine va_putN (tys := zT X) (index := index) (host := host) (v := .int x) C.1 C.2.1 (fun w hw => C.2.2.2.2.1 w hw) hin ty0 hty hnm C.2.2.2.1 C.2.2.2.2.2.1.1 hP (zW_D X g) hS (zcds.idxOf (t, i)) he hc k hkN (va_Nw.use rfl (C.2.2.2.2.2.1.2.1 _ hlink)) (fun _ h9 => h9) hfin (hty k hkN) hn hfit ?_ hd (fun H1 locs1 hP1 _ hS1 => kk H1 locs1 ls ?_ hS1 h)
  · rw [List.length_mapIdx]; exact (List.getElem?_eq_some_iff.mp hf).1
  · rw [← zW_setO X hX hq hk hf x]; exact hP1
theorem v_iald (C : Cx X p R s m args meth c cc nL own cells slots) {t i n : Nat} {j : Int32} (hX : zmod t = zfl X) (hq : (t, i) ∈ zcds) (hk : zK t = .inr (.inl (0, n))) (hj : zin j n = true) (hd : decode cc pc = .ok (.iaload, 1)) (kk : V X p l e R s m args below meth c nL cells slots Q g (pc + 1) L (.inl (g t i j.toNatClampNeg) :: st)) : V X p l e R s m args below meth c nL cells slots Q g pc L (.inl j :: .inr (.inl (t, i)) :: st) := by
  intro H locs ls hP hS h
  have he := zW_get X g hq
  rw [zC_in X g hX] at he
  simp only [zC0, hk] at he
  rw [if_neg (by decide)] at he
  exact va_iald (tys := zT X) C.1 C.2.1 C.2.2.2.2.2.1.1 hP (zcds.idxOf (t, i)) 0 he rfl (zin_vp hj) hd (kk H locs ls hP hS h)
theorem v_zald (C : Cx X p R s m args meth c cc nL own cells slots) {t i n : Nat} {j : Int32} (hX : zmod t = zfl X) (hq : (t, i) ∈ zcds) (hk : zK t = .inr (.inl (1, n))) (hj : zin j n = true) (hd : decode cc pc = .ok (.baload, 1)) (kk : V X p l e R s m args below meth c nL cells slots Q g (pc + 1) L (.inl (g t i j.toNatClampNeg) :: st)) : V X p l e R s m args below meth c nL cells slots Q g pc L (.inl j :: .inr (.inl (t, i)) :: st) := by
  intro H locs ls hP hS h
  have he := zW_get X g hq
  rw [zC_in X g hX] at he
  simp only [zC0, hk] at he
  rw [if_neg (by decide)] at he
  exact va_zald (tys := zT X) C.1 C.2.1 C.2.2.2.2.2.1.1 hP (zcds.idxOf (t, i)) 1 he rfl (zin_vp hj) hd (kk H locs ls hP hS h)
theorem v_aald (C : Cx X p R s m args meth c cc nL own cells slots) {t i n : Nat} {nm : String} {r : Nat → Nat → Nat × Nat} (k : Nat) {j : Int32} (hX : zmod t = zfl X) (hq : (t, i) ∈ zcds) (hk : zK t = .inr (.inr (k, n, r))) (ht : (zT X)[k]? = some (X.2.1 k, .object nm)) (hj : zin j n = true) (hd : decode cc pc = .ok (.aaload, 1)) (kk : V X p l e R s m args below meth c nL cells slots Q g (pc + 1) L (.inr (.inl (r i j.toNatClampNeg)) :: st)) : V X p l e R s m args below meth c nL cells slots Q g pc L (.inl j :: .inr (.inl (t, i)) :: st) := by
  intro H locs ls hP hS h
  have he := zW_get X g hq
  rw [zC_in X g hX] at he
  simp only [zC0, hk] at he
  exact va_aldq (tys := zT X) C.1 C.2.1 C.2.2.2.2.2.1.1 hP (zcds.idxOf (t, i)) k he ht (zin_vp hj) hd (kk H locs ls hP hS h)
theorem v_iast (C : Cx X p R s m args meth c cc nL own cells slots) {t i n : Nat} {j x : Int32} (hX : zmod t = zfl X) (hq : (t, i) ∈ zcds) (hk : zK t = .inr (.inl (0, n))) (hj : zin j n = true) (hd : decode cc pc = .ok (.iastore, 1)) (kk : V X p l e R s m args below meth c nL cells slots Q (zU g t i j.toNatClampNeg x) (pc + 1) L st) : V X p l e R s m args below meth c nL cells slots Q g pc L (.inl x :: .inl j :: .inr (.inl (t, i)) :: st) := by
  intro H locs ls hP hS h
  have he := zW_get X g hq
  rw [zC_in X g hX] at he
  simp only [zC0, hk] at he
  rw [if_neg (by decide)] at he
  refine va_iast (tys := zT X) C.1 C.2.1 C.2.2.2.2.2.1.1 hP (zW_D X g) hS (zcds.idxOf (t, i)) 0 he rfl (zin_vp hj) hd (fun H1 locs1 hP1 _ hS1 => kk H1 locs1 ls ?_ hS1 h)
  rw [← zUA_upd, ← zW_setA X hX hq hk (by decide)]
  exact hP1
theorem v_zast (C : Cx X p R s m args meth c cc nL own cells slots) {t i n : Nat} {j x y : Int32} (hX : zmod t = zfl X) (hq : (t, i) ∈ zcds) (hk : zK t = .inr (.inl (1, n))) (hj : zin j n = true) (hy : vp_nar .boolean x = y) (hd : decode cc pc = .ok (.bastore, 1)) (kk : V X p l e R s m args below meth c nL cells slots Q (zU g t i j.toNatClampNeg y) (pc + 1) L st) : V X p l e R s m args below meth c nL cells slots Q g pc L (.inl x :: .inl j :: .inr (.inl (t, i)) :: st) := by
  intro H locs ls hP hS h
  have he := zW_get X g hq
  rw [zC_in X g hX] at he
  simp only [zC0, hk] at he
  rw [if_neg (by decide)] at he
  refine va_zast (tys := zT X) C.1 C.2.1 C.2.2.2.2.2.1.1 hP (zW_D X g) hS (zcds.idxOf (t, i)) 1 he rfl (zin_vp hj) hd (fun H1 locs1 hP1 _ hS1 => kk H1 locs1 ls ?_ hS1 h)
  subst hy
  rw [← zUA_upd, ← zW_setA X hX hq hk (by decide)]
  exact hP1
theorem v_alen (C : Cx X p R s m args meth c cc nL own cells slots) {t i j n : Nat} (hX : zmod t = zfl X) (hq : (t, i) ∈ zcds) (hk : zK t = .inr (.inl (j, n))) (hj : j < 4) (hd : decode cc pc = .ok (.arraylength, 1)) (x : Int32) (hx : Int32.ofNat n = x) (kk : V X p l e R s m args below meth c nL cells slots Q g (pc + 1) L (.inl x :: st)) : V X p l e R s m args below meth c nL cells slots Q g pc L (.inr (.inl (t, i)) :: st) := by
  intro H locs ls hP hS h
  have he := zW_get X g hq
  rw [zC_in X g hX] at he
  simp only [zC0, hk] at he
  rw [if_neg (by omega)] at he
  have ht : ∃ ty, (zT X)[j]? = some (X.2.1 j, ty) := by
    match j, hj with
    | 0, _ => exact ⟨_, rfl⟩
    | 1, _ => exact ⟨_, rfl⟩
    | 2, _ => exact ⟨_, rfl⟩
    | 3, _ => exact ⟨_, rfl⟩
  obtain ⟨ty, ht⟩ := ht
  exact va_alen (tys := zT X) C.1 C.2.1 C.2.2.2.2.2.1.1 hP (zcds.idxOf (t, i)) j he ht hx hd (kk H locs ls hP hS h)
/-- a whole copy of one array onto the other, from 0 -/
def zcp (g : zG) (t i t' i' n : Nat) : zG := zUA g t i (fun k => if k < n then g t' i' k else g t i k)
end ZV
end
section
section ZV2
variable {X : zX} {p : Program} {l : Launch} {e : Env} {R : Room} {s : State} {m : MethodId} {args : Array Value} {below : List Frame} {meth : Method} {c : Code} {cc : ByteArray} {nL : Nat} {own : String} {cells slots : Nat} {Q : State → Prop}
variable {g : zG} {pc : Nat} {L L' : List (Option zV)} {st : List zV}
theorem zgood {y : MethodName} {b : ByteArray} {n : Nat} {r : Option FieldType} (h : Cond.code y b n r ∈ zall) : GoodIn zall (zws y b n r) := by
  intro w hw
  rcases List.mem_cons.mp hw with rfl | hw
  · exact ⟨h, good_of_word (List.mem_filter.mp h).2⟩
  · exact ⟨hw, good_of_word (List.mem_filter.mp hw).2⟩
theorem zRS {X : zX} {g : zG} {H : Heap} {locs : List Loc} {av : List Value} (hSt : zS X s s.heap) (hP : va_P X.1 zcl (zW X g) H) (hS : va_S (zF X) s.heap H locs) : ∀ U : State, U.heap = H → s.WarmedH U.vm → va_Pc av (zR X g) av.toArray U :=
  fun U hU hW => ⟨rfl, by rw [hU]; exact hP, by rw [hU]; exact zS_warm hSt hW (fun a h1 h2 => hS.2.1 a h1 h2)⟩
theorem zblind {X : zX} {g : zG} {av : List Value} : FrameBlind (va_Pc av (zR X g)) :=
  fun a U gg mk h => ⟨h.1, h.2.1, zS_vm (u := U) (U := U.calling gg mk a) h.2.2 rfl⟩
theorem z_call {g' : zG} {v : Option Value} {ls : Array Slot} {st0 rest : List Value} {a : Array Value} {H : Heap} {locs : List Loc} (hr : va_Run p l e R s m args below meth c H locs cells slots 0 0 (F0 m pc ls st0) rest (zQ X v g' a) (zF X)) (hS : va_S (zF X) s.heap H locs)
    (kk : ∀ (H1 : Heap) (locs1 : List Loc), va_P X.1 zcl (zW X g') H1 → va_S (zF X) s.heap H1 locs1 → W p l e R s m args below meth c H1 locs1 cells slots Q (F0 m (pc + 3) ls (v.toList ++ rest))) : W p l e R s m args below meth c H locs cells slots Q (F0 m pc ls st0) := by
  intro T hT Y
  obtain ⟨v', st₀, t, T', L, h0, X', hL, e1, e2, ⟨hv, hP1, hz, hk⟩, stp⟩ := hr T hT Y
  cases hv
  rw [h0] at hz hk
  obtain ⟨t2, a1, b1⟩ := kk T'.heap (locs ++ L) (by rw [e1]; exact hP1)
    ⟨Nat.le_trans hS.1 (by rw [e1]; exact hz), fun q h1 h2 => by rw [e1, hk q (Nat.lt_of_lt_of_le h1 hS.1) h2]; exact hS.2.1 q h1 h2, fun q hq => by
      rcases List.mem_append.mp hq with h | h
      · exact hS.2.2 q h
      · exact hL q h⟩ T' rfl X'
  exact ⟨t2, stp t2 a1, b1⟩
theorem zfix (C : Cx X p R s m args meth c cc nL own cells slots) : CallFix p m c cc nL s args zall own := ⟨C.1, C.2.1, C.2.2.1, C.2.2.2.1, C.2.2.2.2.1⟩
theorem zcat (X : zX) : ∀ (st : List zV), ((st.map (zM X)).map fun v => v.category).sum ≤ 2 * st.length := by
  intro st
  induction st with
  | nil => simp
  | cons a st ih =>
    simp only [List.map_cons, List.sum_cons, List.length_cons]
    have : (zM X a).category ≤ 2 := by rcases a with x | q | y <;> simp [zM, Value.category]
    omega
theorem v_callV (C : Cx X p R s m args meth c cc nL own cells slots) {y : MethodName} {bytes : ByteArray} {maxL n d index : Nat} {ret : Option FieldType} {t i ci N : Nat} {fs : List (Option (Nat → Nat × Nat))} {T : u_T} {as rest : List zV} {rv : Option zV} {g' : zG} (hM : MC X y bytes maxL ret d (.inr (.inl (t, i)) :: as) rv g g') (hw : zMW y bytes maxL ret n) (hi : zMI y) (hl : Cond.methodLink own index y ∈ zall) (hX : zmod t = zfl X) (hq : (t, i) ∈ zcds) (hk : zK t = .inl (ci, fs)) (hc : zcl[ci]? = some (y.cls, T, N)) (hR : d + 1 ≤ R.frames ∧ 8 + (maxL + 11) + 36 * d ≤ R.locals) (hn : as.length = n) (hrest : rest.length ≤ 4) (hd : decode cc pc = .ok (.invokevirtual index, 3)) (hst : st = as.reverse ++ .inr (.inl (t, i)) :: rest) (kk : V X p l e R s m args below meth c nL cells slots Q g' (pc + 3) L (rv.toList ++ rest)) : V X p l e R s m args below meth c nL cells slots Q g pc L st := by
  subst hst
  intro H locs ls hP hS h
  have hsz : ls.size = nL := h.1
  have he := zW_get X g hq
  rw [zC_in X g hX] at he
  simp only [zC0, hk] at he
  have hrec := va_recv (tys := zT X) C.2.2.2.2.2.1.1 hP hc he
  have hcr := zcat X rest
  have hmap : (rv.toList ++ rest).map (zM X) = (rv.map (zM X)).toList ++ rest.map (zM X) := by cases rv <;> rfl
  refine z_call (v := rv.map (zM X)) (g' := g') (rest := rest.map (zM X)) (a := ((.inr (.inl (t, i)) :: as).map (zM X)).toArray) ?_ hS (fun H1 locs1 hP1 hS1 => by have k9 := kk H1 locs1 ls hP1 hS1 h; rw [hmap] at k9; exact k9)
  refine va_runV (As := as.map (zM X)) (zfix C) (hM l) (⟨callB_of n C.2.2.2.2.1 (zgood hw.1) rfl rfl rfl (C.2.2.2.2.1 _ hw.2.1) (C.2.2.2.2.1 _ hl) hw.2.2 hR, C.2.2.2.2.1 _ hi.1, C.2.2.2.2.1 _ hi.2⟩) ⟨zblind, hrec, zRS C.2.2.2.2.2.1 hP hS⟩ rfl (by rw [List.length_map]; exact hn) hsz ?_ ?_ hd ⟨C.2.2.2.2.2.2.2.1, C.2.2.2.2.2.2.2.2⟩
  · simp [zM]
  · show 2 * 0 + _ ≤ 8
    omega
theorem v_callVN (C : Cx X p R s m args meth c cc nL own cells slots) {y : MethodName} {bytes : ByteArray} {maxL n d index : Nat} {ret : Option FieldType} {host : String} {t i ci N : Nat} {fs : List (Option (Nat → Nat × Nat))} {T : u_T} {as rest : List zV} {rv : Option zV} {g' : zG} (hM : MC X y bytes maxL ret d (.inr (.inl (t, i)) :: as) rv g g') (hw : zMW y bytes maxL ret n) (hi : zMI y) (hl : (own, index, y, host) ∈ znM) (hX : zmod t = zfl X) (hq : (t, i) ∈ zcds) (hk : zK t = .inl (ci, fs)) (hc : zcl[ci]? = some (y.cls, T, N)) (hR : d + 1 ≤ R.frames ∧ 8 + (maxL + 11) + 36 * d ≤ R.locals) (hn : as.length = n) (hrest : rest.length ≤ 4) (hd : decode cc pc = .ok (.invokevirtual index, 3)) (hst : st = as.reverse ++ .inr (.inl (t, i)) :: rest) (kk : V X p l e R s m args below meth c nL cells slots Q g' (pc + 3) L (rv.toList ++ rest)) : V X p l e R s m args below meth c nL cells slots Q g pc L st := by
  subst hst
  intro H locs ls hP hS h
  have hsz : ls.size = nL := h.1
  have he := zW_get X g hq
  rw [zC_in X g hX] at he
  simp only [zC0, hk] at he
  have hrec := va_recv (tys := zT X) C.2.2.2.2.2.1.1 hP hc he
  have hcr := zcat X rest
  have hmap : (rv.toList ++ rest).map (zM X) = (rv.map (zM X)).toList ++ rest.map (zM X) := by cases rv <;> rfl
  refine z_call (v := rv.map (zM X)) (g' := g') (rest := rest.map (zM X)) (a := ((.inr (.inl (t, i)) :: as).map (zM X)).toArray) ?_ hS (fun H1 locs1 hP1 hS1 => by have k9 := kk H1 locs1 ls hP1 hS1 h; rw [hmap] at k9; exact k9)
  refine va_runVN (As := as.map (zM X)) (zfix C) (hM l) (⟨va_cnB n C.2.2.2.2.1 (zgood hw.1) rfl rfl rfl (C.2.2.2.2.2.1.2.2.1 _ hl) (C.2.2.2.2.1 _ hw.2.1) hw.2.2 hR, C.2.2.2.2.1 _ hi.1, C.2.2.2.2.1 _ hi.2⟩) ⟨zblind, hrec, zRS C.2.2.2.2.2.1 hP hS⟩ rfl (by rw [List.length_map]; exact hn) hsz ?_ ?_ hd ⟨C.2.2.2.2.2.2.2.1, C.2.2.2.2.2.2.2.2⟩
  · simp [zM]
  · show 2 * 0 + _ ≤ 8
    omega
theorem v_callS (C : Cx X p R s m args meth c cc nL own cells slots) {y : MethodName} {bytes : ByteArray} {maxL n d index : Nat} {ret : Option FieldType} {as rest : List zV} {rv : Option zV} {g' : zG} (hM : MC X y bytes maxL ret d (as) rv g g') (hw : zMW y bytes maxL ret n) (hi : Cond.static y ∈ zall) (hl : Cond.methodLink own index y ∈ zall) (hR : d + 1 ≤ R.frames ∧ 8 + (maxL + 11) + 36 * d ≤ R.locals) (hn : as.length = n) (hrest : rest.length ≤ 4) (hd : decode cc pc = .ok (.invokestatic index, 3)) (hst : st = as.reverse ++ rest) (kk : V X p l e R s m args below meth c nL cells slots Q g' (pc + 3) L (rv.toList ++ rest)) : V X p l e R s m args below meth c nL cells slots Q g pc L st := by
  subst hst
  intro H locs ls hP hS h
  have hsz : ls.size = nL := h.1
  have hcr := zcat X rest
  have hmap : (rv.toList ++ rest).map (zM X) = (rv.map (zM X)).toList ++ rest.map (zM X) := by cases rv <;> rfl
  refine z_call (v := rv.map (zM X)) (g' := g') (rest := rest.map (zM X)) (a := ((as).map (zM X)).toArray) ?_ hS (fun H1 locs1 hP1 hS1 => by have k9 := kk H1 locs1 ls hP1 hS1 h; rw [hmap] at k9; exact k9)
  refine va_runS (As := as.map (zM X)) (zfix C) (hM l) (⟨callB_of n C.2.2.2.2.1 (zgood hw.1) rfl rfl rfl (C.2.2.2.2.1 _ hw.2.1) (C.2.2.2.2.1 _ hl) hw.2.2 hR, C.2.2.2.2.1 _ hi⟩) ⟨zblind, zRS C.2.2.2.2.2.1 hP hS⟩ rfl (by rw [List.length_map]; exact hn) hsz ?_ ?_ hd ⟨C.2.2.2.2.2.2.2.1, C.2.2.2.2.2.2.2.2⟩
  · simp [zM]
  · show 2 * 0 + _ ≤ 8
    omega
theorem v_copy (C : Cx X p R s m args meth c cc nL own cells slots) {t i t' i' n n1 n2 index : Nat} (hX : zmod t = zfl X) (hX' : zmod t' = zfl X) (hq : (t, i) ∈ zcds) (hk : zK t = .inr (.inl (0, n1))) (hq' : (t', i') ∈ zcds) (hk' : zK t' = .inr (.inl (0, n2))) {x : Int32} (hx : x.toNatClampNeg = n) (hx0 : ¬ x < 0) (h1 : n ≤ n1) (h2 : n ≤ n2)
    (hl : Cond.methodLink own index arraycopyName ∈ zall) (hnat : Cond.native arraycopyName ∈ zall) (hstt : Cond.static arraycopyName ∈ zall) (hini : Cond.initialized "java/lang/System" ∈ zall) (hR : 1 ≤ R.frames ∧ 2 * st.length + (nativeFrameWords "java/lang/System" "arraycopy" 5 + 11) ≤ R.locals) (hd : decode cc pc = .ok (.invokestatic index, 3))
    (kk : V X p l e R s m args below meth c nL cells slots Q (zcp g t i t' i' n) (pc + 3) L st) : V X p l e R s m args below meth c nL cells slots Q g pc L (.inl x :: .inl 0 :: .inr (.inl (t, i)) :: .inl 0 :: .inr (.inl (t', i')) :: st) := by
  intro H locs ls hP hS h
  have he := zW_get X g hq
  rw [zC_in X g hX] at he
  simp only [zC0, hk] at he
  rw [if_neg (by decide)] at he
  have he' := zW_get X g hq'
  rw [zC_in X g hX'] at he'
  simp only [zC0, hk'] at he'
  rw [if_neg (by decide)] at he'
  have hcr := zcat X st
  subst hx
  refine va_copyi (tys := zT X) (ty := .int) C.1 C.2.1 (C.2.2.1.trans h.1.symm) C.2.2.2.1 (C.2.2.2.2.1 _ hl) (C.2.2.2.2.1 _ hnat) (C.2.2.2.2.1 _ hstt) (C.2.2.2.2.1 _ hini) C.2.2.2.2.2.1.1 hP (zW_D X g) hS (zcds.idxOf (t', i')) (zcds.idxOf (t, i)) 0 0 he' he rfl rfl rfl (by decide) (by decide) hx0 ?_ ?_ (fun _ _ => rfl) hR.1 (by omega) hd (fun H1 locs1 hP1 _ hS1 => kk H1 locs1 ls ?_ hS1 h)
  · show (0 : Int32).toNatClampNeg + _ ≤ _; rw [show (0 : Int32).toNatClampNeg = 0 from rfl]; omega
  · show (0 : Int32).toNatClampNeg + _ ≤ _; rw [show (0 : Int32).toNatClampNeg = 0 from rfl]; omega
  · rw [zW_setA X hX hq hk (by decide)] at hP1
    have : (va_cpy (g t' i') (g t i) (0 : Int32).toNatClampNeg (0 : Int32).toNatClampNeg x.toNatClampNeg) = fun k => if k < x.toNatClampNeg then g t' i' k else g t i k := by
      funext k
      simp [va_cpy, show (0 : Int32).toNatClampNeg = 0 from rfl]
    rw [this] at hP1
    exact hP1
/-! ends -/
theorem v_iret (C : Cx X p R s m args meth c cc nL own cells slots) {x : Int32} {res : Int32 × zG} (hr : meth.sig.returnType = some .int) (hd : decode cc pc = .ok (.ireturn, 1)) (hM : some (x, g) = some res) : V X p l e R s m args below meth c nL 0 0 (MQ below (zQ X (Option.map (zM X) (some (.inl res.1))) res.2) args s 0 0 (zF X)) g pc L [.inl x] := by
  cases hM
  intro H locs ls hP hS h
  exact W.iret C.1 C.2.1 hr (fun t ht hW => ⟨rfl, by rw [ht]; exact hP, hS.F ht⟩) hS.2.2 hd C.2.2.2.2.2.2.1
theorem v_zret (C : Cx X p R s m args meth c cc nL own cells slots) {x : Int32} {res : Int32 × zG} {ty : FieldType} (hr : meth.sig.returnType = some ty) (hn : narrow ty (.int x) = .int x) (hd : decode cc pc = .ok (.ireturn, 1)) (hM : some (x, g) = some res) : V X p l e R s m args below meth c nL 0 0 (MQ below (zQ X (Option.map (zM X) (some (.inl res.1))) res.2) args s 0 0 (zF X)) g pc L [.inl x] := by
  cases hM
  intro H locs ls hP hS h
  exact W.zret C.1 C.2.1 hr hn (fun t ht hW => ⟨rfl, by rw [ht]; exact hP, hS.F ht⟩) hS.2.2 hd C.2.2.2.2.2.2.1
theorem v_vret (C : Cx X p R s m args meth c cc nL own cells slots) {x : Int32} {res : Int32 × zG} (hr : meth.sig.returnType = none) (hd : decode cc pc = .ok (.return_, 1)) (hM : some (x, g) = some res) : V X p l e R s m args below meth c nL 0 0 (MQ below (zQ X (Option.map (zM X) none) res.2) args s 0 0 (zF X)) g pc L [] := by
  cases hM
  intro H locs ls hP hS h
  exact W.vret C.1 C.2.1 hr (fun t ht hW => ⟨rfl, by rw [ht]; exact hP, hS.F ht⟩) hS.2.2 hd C.2.2.2.2.2.2.1
end ZV2
theorem zE_args (X : zX) : ∀ (as : List zV) (k n : Nat), (∀ v ∈ as, ∀ y, v ≠ .inr (.inr y)) → zE X k (as.map some ++ List.replicate n none) = lv_args k (as.map (zM X)) := by
  intro as
  induction as with
  | nil =>
    intro k n _
    show zE X k (List.replicate n none) = []
    induction n generalizing k with
    | zero => rfl
    | succ n ih => rw [List.replicate_succ]; exact ih (k + 1)
  | cons a as ih =>
    intro k n h
    have h1 := ih (k + 1) n (fun v hv => h v (List.mem_cons_of_mem _ hv))
    rcases a with x | q | y
    · exact congrArg (List.cons (k, Value.int x)) h1
    · exact congrArg (List.cons (k, Value.ref (zA X q))) h1
    · exact absurd rfl (h _ List.mem_cons_self y)
theorem zsl (X : zX) : ∀ (as : List zV), (∀ v ∈ as, ∀ y, v ≠ .inr (.inr y)) → (lg_sl (as.map (zM X))).length = as.length := by
  intro as
  induction as with
  | nil => intro _; rfl
  | cons a as ih =>
    intro h
    have h1 := ih (fun v hv => h v (List.mem_cons_of_mem _ hv))
    rcases a with x | q | y
    · simp [lg_sl, zM, Value.category] at h1 ⊢; exact h1
    · simp [lg_sl, zM, Value.category] at h1 ⊢; exact h1
    · exact absurd rfl (h _ List.mem_cons_self y)
/-- a contract out of a walk -/
theorem MC.of {X : zX} {y : MethodName} {bytes : ByteArray} {maxL : Nat} {ret : Option FieldType} {d : Nat} {as : List zV} {rv : Option zV} {g g' : zG} {own : String} (hy : plainName y.cls = true) (hown : y.cls = own) (has : ∀ v ∈ as, ∀ y, v ≠ .inr (.inr y)) (hlen : as.length ≤ maxL) {L : List (Option zV)} (hL : as.map some ++ List.replicate (maxL - as.length) none = L)
    (body : ∀ p l e s m args below meth c, Cx X p (zrm d) s m args meth c bytes maxL own 0 0 → meth.sig.returnType = ret → V X p l e (zrm d) s m args below meth c maxL 0 0 (MQ below (zQ X (rv.map (zM X)) g') args s 0 0 (zF X)) g 0 L []) : MC X y bytes maxL ret d as rv g g' := by
  subst hL
  subst hown
  intro l
  refine Met.ofW (cc := bytes) (maxL := maxL) (ret := ret) hy rfl ?_
  intro p e s m args below meth c s₁ B hml hv
  obtain ⟨rfl, hP, hSt⟩ := hv
  have hts := atoms_spec (ws := zws y bytes maxL ret) B.pre
  have hown : s.vm.findClass y.cls = some m.cls := findClass_of_methodNamed B.named
  have hb := body p l e s m (as.map (zM X)).toArray below meth c ⟨B.exec, B.bytes, hml, hown, fun w hw => hts w (List.mem_cons_of_mem _ hw), hSt, B.notSynchronized, Nat.zero_le _, Nat.zero_le _⟩ B.returns
  have hl := lv_entry (as.map (zM X)) (n := maxL) (by rw [zsl X as has]; exact hlen)
  rw [lg_entry_eq]
  rw [← zE_args X as 0 (maxL - as.length) has] at hl
  exact hb s.heap [] _ hP va_S.rf hl
end
section
/-! ===== what the printed functions and their walks are made of ===== -/
abbrev zR0 : Type := Option (Int32 × zG)
def zw (g : zG) (f i j : Nat) (v : Int32) (k : zG → zR0) : zR0 := k (zU g f i j v)
def zcq (g : zG) (t i t' i' n : Nat) (k : zG → zR0) : zR0 := k (zcp g t i t' i' n)
def zbo (x : Int32) (A : zR0) : zR0 := if x = nI 0 ∨ x = nI 1 then A else none
def zfuel : Nat := 100000
def zslen (i : Nat) : Nat := zlen.getD i 0
def zsch (i j : Nat) : Int32 := (zbyt.getD i []).getD j 0
theorem zbo_elim {x : Int32} {A : zR0} {res : Int32 × zG} (h : zbo x A = some res) : (x = nI 0 ∨ x = nI 1) ∧ A = some res := by
  unfold zbo at h
  by_cases q : x = nI 0 ∨ x = nI 1
  · rw [if_pos q] at h; exact ⟨q, h⟩
  · rw [if_neg q] at h; cases h
theorem zbo_n {x : Int32} (h : x = nI 0 ∨ x = nI 1) : narrow .boolean (.int x) = .int x := by
  rcases h with rfl | rfl <;> decide
theorem zbo_f {x : Int32} (h : x = nI 0 ∨ x = nI 1) : fits .boolean (.int x) = true := by
  rcases h with rfl | rfl <;> decide
theorem zc_elim {F : zR0} {K : Int32 → zG → zR0} {res : Int32 × zG} (h : zc F K = some res) : ∃ v g, F = some (v, g) ∧ K v g = some res := by
  unfold zc at h
  cases F with
  | none => cases h
  | some q => exact ⟨q.1, q.2, rfl, h⟩
def zsub : List (Option zV) → List (Option zV) → Prop
  | [], _ => True
  | none :: a, _ :: b => zsub a b
  | none :: _, [] => False
  | some v :: a, some w :: b => v = w ∧ zsub a b
  | some _ :: _, none :: _ => False
  | some _ :: _, [] => False
theorem zsub_at : ∀ {L' L : List (Option zV)}, zsub L' L → ∀ (i : Nat) (v : zV), L'[i]? = some (some v) → L[i]? = some (some v) := by
  intro L'
  induction L' with
  | nil => intro L _ i v h; simp at h
  | cons a L' ih =>
    intro L hs i v h
    cases L with
    | nil => cases a <;> exact absurd hs id
    | cons b L =>
      cases a with
      | none =>
        cases i with
        | zero => simp at h
        | succ i => rw [List.getElem?_cons_succ] at h ⊢; exact ih hs i v h
      | some a =>
        cases b with
        | none => exact absurd hs id
        | some b =>
          obtain ⟨rfl, hs⟩ := hs
          cases i with
          | zero => exact h
          | succ i => rw [List.getElem?_cons_succ] at h ⊢; exact ih hs i v h
theorem zE_sub {X : zX} {ls : Array Slot} {nL : Nat} {L' L : List (Option zV)} (hs : zsub L' L) (h : lv_has ls nL (zE X 0 L)) : lv_has ls nL (zE X 0 L') := by
  refine ⟨h.1, h.2.1, fun q hq => ?_⟩
  obtain ⟨-, -, v, h1, h2, h3⟩ := zE_mem X 0 hq
  rw [Nat.sub_zero] at h1
  have h4 := zE_at h (zsub_at hs q.1 v h1) h2
  rw [← h3] at h4
  exact h4
def znl : List zV → Prop
  | [] => True
  | .inl _ :: l => znl l
  | .inr (.inl _) :: l => znl l
  | .inr (.inr _) :: _ => False
theorem znl_of : ∀ (as : List zV), znl as → ∀ v ∈ as, ∀ y, v ≠ .inr (.inr y) := by
  intro as
  induction as with
  | nil => intro _ v hv; cases hv
  | cons a as ih =>
    intro h v hv y
    rcases a with x | q | z
    · rcases List.mem_cons.mp hv with rfl | hv
      · simp
      · exact ih h v hv y
    · rcases List.mem_cons.mp hv with rfl | hv
      · simp
      · exact ih h v hv y
    · exact absurd h id
theorem MC.mk {X : zX} {y : MethodName} {bytes : ByteArray} {maxL : Nat} {ret : Option FieldType} {d : Nat} {as : List zV} {rv : Option zV} {g g' : zG} {own : String} {L : List (Option zV)} (hy : plainName y.cls = true) (hown : y.cls = own) (has : znl as) (hlen : as.length ≤ maxL) (hL : as.map some ++ List.replicate (maxL - as.length) none = L)
    (body : ∀ p l e s m args below meth c, Cx X p (zrm d) s m args meth c bytes maxL own 0 0 → meth.sig.returnType = ret → V X p l e (zrm d) s m args below meth c maxL 0 0 (MQ below (zQ X (rv.map (zM X)) g') args s 0 0 (zF X)) g 0 L []) : MC X y bytes maxL ret d as rv g g' := MC.of hy hown (znl_of as has) hlen hL body
theorem ztbl {x : Int32} {hi : Int} (n : Nat) (hn : hi + 1 = (n : Int)) (h : ∀ k, k < n → ¬ x = nI k) : x.toInt < 0 ∨ hi < x.toInt := by
  by_cases h0 : x.toInt < 0
  · exact Or.inl h0
  · right
    by_cases h1 : hi < x.toInt
    · exact h1
    · exfalso
      have hx := Int32.toInt_lt x
      have hlt : x.toInt.toNat < n := by omega
      refine h x.toInt.toNat hlt ?_
      rw [← Int32.toInt_inj, nI_toInt (by omega)]
      omega
theorem zix {r : Nat} {j : Int32} (hr : r < 3) (hj : zin j 4 = true) : 4 * r + j.toNatClampNeg < 12 := by
  have := zin_lt hj
  omega
section ZV3
variable {X : zX} {p : Program} {l : Launch} {e : Env} {R : Room} {s : State} {m : MethodId} {args : Array Value} {below : List Frame} {meth : Method} {c : Code} {cc : ByteArray} {nL : Nat} {own : String} {cells slots : Nat} {Q : State → Prop}
variable {g : zG} {pc : Nat} {L L' : List (Option zV)} {st : List zV} {res : Int32 × zG}
theorem v_weak (h : V X p l e R s m args below meth c nL cells slots Q g pc L' st) (hs : zsub L' L) : V X p l e R s m args below meth c nL cells slots Q g pc L st := fun H locs ls hP hS hl => h H locs ls hP hS (zE_sub hs hl)
theorem v_ixor (C : Cx X p R s m args meth c cc nL own cells slots) {x y : Int32} (hd : decode cc pc = .ok (.ixor, 1)) (kk : V X p l e R s m args below meth c nL cells slots Q g (pc + 1) L (.inl (x ^^^ y) :: st)) : V X p l e R s m args below meth c nL cells slots Q g pc L (.inl y :: .inl x :: st) := fun H locs ls hP hS h => lv_ixor C.1 C.2.1 hd (kk H locs ls hP hS h)
theorem v_idivk (C : Cx X p R s m args meth c cc nL own cells slots) {x y : Int32} (hy : ¬ y = 0) (hd : decode cc pc = .ok (.idiv, 1)) (kk : V X p l e R s m args below meth c nL cells slots Q g (pc + 1) L (.inl (x / y) :: st)) : V X p l e R s m args below meth c nL cells slots Q g pc L (.inl y :: .inl x :: st) := fun H locs ls hP hS h => lv_idiv C.1 C.2.1 hd hy (kk H locs ls hP hS h)
theorem v_iremk (C : Cx X p R s m args meth c cc nL own cells slots) {x y : Int32} (hy : ¬ y = 0) (hd : decode cc pc = .ok (.irem, 1)) (kk : V X p l e R s m args below meth c nL cells slots Q g (pc + 1) L (.inl (x - x / y * y) :: st)) : V X p l e R s m args below meth c nL cells slots Q g pc L (.inl y :: .inl x :: st) := fun H locs ls hP hS h => lv_irem C.1 C.2.1 hd hy (kk H locs ls hP hS h)
theorem v_ldcw (C : Cx X p R s m args meth c cc nL own cells slots) {n : Nat} (x : Int32) (hd : decode cc pc = .ok (.ldc_w n, 3)) (hv : Cond.constant own n x ∈ zall) (kk : V X p l e R s m args below meth c nL cells slots Q g (pc + 3) L (.inl x :: st)) : V X p l e R s m args below meth c nL cells slots Q g pc L st := fun H locs ls hP hS hl => lv_ldcw C.1 C.2.1 C.2.2.2.1 (C.2.2.2.2.1 _ hv) hd (kk H locs ls hP hS hl)
theorem v_ldcs (C : Cx X p R s m args meth c cc nL own cells slots) {n i : Nat} {tx : String} (hd : decode cc pc = .ok (.ldc n, 2)) (hv : (own, n, tx, i) ∈ zst) (kk : V X p l e R s m args below meth c nL cells slots Q g (pc + 2) L (.inr (.inl (60, i)) :: st)) : V X p l e R s m args below meth c nL cells slots Q g pc L st :=
  fun H locs ls hP hS hl => va_ldcS (q := X.2.2.2.1 i) C.1 C.2.1 C.2.2.2.1 (C.2.2.2.2.2.1.2.2.2.2.1 _ hv) hd (kk H locs ls hP hS hl)
theorem v_copy0 (C : Cx X p R s m args meth c cc nL own cells slots) {t i t' i' n n1 n2 index : Nat} (hX : zmod t = zfl X) (hX' : zmod t' = zfl X) (hq : (t, i) ∈ zcds) (hk : zK t = .inr (.inl (0, n1))) (hq' : (t', i') ∈ zcds) (hk' : zK t' = .inr (.inl (0, n2))) {x z z' : Int32} (hz : z = nI 0 ∧ z' = nI 0 := by exact ⟨rfl, rfl⟩) (hx : x.toNatClampNeg = n) (hx0 : ¬ x < 0) (h1 : n ≤ n1) (h2 : n ≤ n2)
    (hl : Cond.methodLink own index arraycopyName ∈ zall) (hnat : Cond.native arraycopyName ∈ zall) (hstt : Cond.static arraycopyName ∈ zall) (hini : Cond.initialized "java/lang/System" ∈ zall) (hR : 1 ≤ R.frames ∧ 2 * st.length + (nativeFrameWords "java/lang/System" "arraycopy" 5 + 11) ≤ R.locals) (hd : decode cc pc = .ok (.invokestatic index, 3)) {K : zG → zR0} (hM : zcq g t i t' i' n K = some res)
    (kk : ∀ g1, K g1 = some res → V X p l e R s m args below meth c nL cells slots Q g1 (pc + 3) L st) : V X p l e R s m args below meth c nL cells slots Q g pc L (.inl x :: .inl z :: .inr (.inl (t, i)) :: .inl z' :: .inr (.inl (t', i')) :: st) := by
  obtain ⟨rfl, rfl⟩ := hz
  exact v_copy C hX hX' hq hk hq' hk' hx hx0 h1 h2 hl hnat hstt hini hR hd (kk _ hM)
theorem v_callVi (C : Cx X p R s m args meth c cc nL own cells slots) {y : MethodName} {bytes : ByteArray} {maxL n d index : Nat} {ret : Option FieldType} {host : String} {t i ci N : Nat} {fs : List (Option (Nat → Nat × Nat))} {T : u_T} {as rest : List zV} {rr : Int32} {g' : zG} (hM : MC X y bytes maxL ret d (.inr (.inl (t, i)) :: as) (some (.inl rr)) g g') (hw : zMW y bytes maxL ret n) (hi : zMI y) (hl : Cond.methodLink own index y ∈ zall) (hX : zmod t = zfl X) (hq : (t, i) ∈ zcds) (hk : zK t = .inl (ci, fs)) (hc : zcl[ci]? = some (y.cls, T, N)) (hR : d + 1 ≤ R.frames ∧ 8 + (maxL + 11) + 36 * d ≤ R.locals) (hn : as.length = n) (hrest : rest.length ≤ 4) (hd : decode cc pc = .ok (.invokevirtual index, 3)) (hst : st = as.reverse ++ .inr (.inl (t, i)) :: rest) (kk : V X p l e R s m args below meth c nL cells slots Q g' (pc + 3) L (.inl rr :: rest)) : V X p l e R s m args below meth c nL cells slots Q g pc L st := v_callV C hM hw hi hl hX hq hk hc hR hn hrest hd hst kk
theorem v_callVv (C : Cx X p R s m args meth c cc nL own cells slots) {y : MethodName} {bytes : ByteArray} {maxL n d index : Nat} {ret : Option FieldType} {host : String} {t i ci N : Nat} {fs : List (Option (Nat → Nat × Nat))} {T : u_T} {as rest : List zV} {rr : Int32} {g' : zG} (hM : MC X y bytes maxL ret d (.inr (.inl (t, i)) :: as) none g g') (hw : zMW y bytes maxL ret n) (hi : zMI y) (hl : Cond.methodLink own index y ∈ zall) (hX : zmod t = zfl X) (hq : (t, i) ∈ zcds) (hk : zK t = .inl (ci, fs)) (hc : zcl[ci]? = some (y.cls, T, N)) (hR : d + 1 ≤ R.frames ∧ 8 + (maxL + 11) + 36 * d ≤ R.locals) (hn : as.length = n) (hrest : rest.length ≤ 4) (hd : decode cc pc = .ok (.invokevirtual index, 3)) (hst : st = as.reverse ++ .inr (.inl (t, i)) :: rest) (kk : V X p l e R s m args below meth c nL cells slots Q g' (pc + 3) L rest) : V X p l e R s m args below meth c nL cells slots Q g pc L st := v_callV C hM hw hi hl hX hq hk hc hR hn hrest hd hst kk
theorem v_callVNi (C : Cx X p R s m args meth c cc nL own cells slots) {y : MethodName} {bytes : ByteArray} {maxL n d index : Nat} {ret : Option FieldType} {host : String} {t i ci N : Nat} {fs : List (Option (Nat → Nat × Nat))} {T : u_T} {as rest : List zV} {rr : Int32} {g' : zG} (hM : MC X y bytes maxL ret d (.inr (.inl (t, i)) :: as) (some (.inl rr)) g g') (hw : zMW y bytes maxL ret n) (hi : zMI y) (hl : (own, index, y, host) ∈ znM) (hX : zmod t = zfl X) (hq : (t, i) ∈ zcds) (hk : zK t = .inl (ci, fs)) (hc : zcl[ci]? = some (y.cls, T, N)) (hR : d + 1 ≤ R.frames ∧ 8 + (maxL + 11) + 36 * d ≤ R.locals) (hn : as.length = n) (hrest : rest.length ≤ 4) (hd : decode cc pc = .ok (.invokevirtual index, 3)) (hst : st = as.reverse ++ .inr (.inl (t, i)) :: rest) (kk : V X p l e R s m args below meth c nL cells slots Q g' (pc + 3) L (.inl rr :: rest)) : V X p l e R s m args below meth c nL cells slots Q g pc L st := v_callVN C hM hw hi hl hX hq hk hc hR hn hrest hd hst kk
theorem v_callVNv (C : Cx X p R s m args meth c cc nL own cells slots) {y : MethodName} {bytes : ByteArray} {maxL n d index : Nat} {ret : Option FieldType} {host : String} {t i ci N : Nat} {fs : List (Option (Nat → Nat × Nat))} {T : u_T} {as rest : List zV} {rr : Int32} {g' : zG} (hM : MC X y bytes maxL ret d (.inr (.inl (t, i)) :: as) none g g') (hw : zMW y bytes maxL ret n) (hi : zMI y) (hl : (own, index, y, host) ∈ znM) (hX : zmod t = zfl X) (hq : (t, i) ∈ zcds) (hk : zK t = .inl (ci, fs)) (hc : zcl[ci]? = some (y.cls, T, N)) (hR : d + 1 ≤ R.frames ∧ 8 + (maxL + 11) + 36 * d ≤ R.locals) (hn : as.length = n) (hrest : rest.length ≤ 4) (hd : decode cc pc = .ok (.invokevirtual index, 3)) (hst : st = as.reverse ++ .inr (.inl (t, i)) :: rest) (kk : V X p l e R s m args below meth c nL cells slots Q g' (pc + 3) L rest) : V X p l e R s m args below meth c nL cells slots Q g pc L st := v_callVN C hM hw hi hl hX hq hk hc hR hn hrest hd hst kk
theorem v_callSi (C : Cx X p R s m args meth c cc nL own cells slots) {y : MethodName} {bytes : ByteArray} {maxL n d index : Nat} {ret : Option FieldType} {host : String} {as rest : List zV} {rr : Int32} {g' : zG} (hM : MC X y bytes maxL ret d (as) (some (.inl rr)) g g') (hw : zMW y bytes maxL ret n) (hi : Cond.static y ∈ zall) (hl : Cond.methodLink own index y ∈ zall) (hR : d + 1 ≤ R.frames ∧ 8 + (maxL + 11) + 36 * d ≤ R.locals) (hn : as.length = n) (hrest : rest.length ≤ 4) (hd : decode cc pc = .ok (.invokestatic index, 3)) (hst : st = as.reverse ++ rest) (kk : V X p l e R s m args below meth c nL cells slots Q g' (pc + 3) L (.inl rr :: rest)) : V X p l e R s m args below meth c nL cells slots Q g pc L st := v_callS C hM hw hi hl hR hn hrest hd hst kk
theorem v_callSv (C : Cx X p R s m args meth c cc nL own cells slots) {y : MethodName} {bytes : ByteArray} {maxL n d index : Nat} {ret : Option FieldType} {host : String} {as rest : List zV} {rr : Int32} {g' : zG} (hM : MC X y bytes maxL ret d (as) none g g') (hw : zMW y bytes maxL ret n) (hi : Cond.static y ∈ zall) (hl : Cond.methodLink own index y ∈ zall) (hR : d + 1 ≤ R.frames ∧ 8 + (maxL + 11) + 36 * d ≤ R.locals) (hn : as.length = n) (hrest : rest.length ≤ 4) (hd : decode cc pc = .ok (.invokestatic index, 3)) (hst : st = as.reverse ++ rest) (kk : V X p l e R s m args below meth c nL cells slots Q g' (pc + 3) L rest) : V X p l e R s m args below meth c nL cells slots Q g pc L st := v_callS C hM hw hi hl hR hn hrest hd hst kk
theorem zm0 : (0, 0) ∈ zcds := by decide +kernel
theorem zm1 {i : Nat} (h : i < 2) : (1, i) ∈ zcds := by
  have : ∀ i, i < 2 → (1, i) ∈ zcds := by decide +kernel
  exact this i h
theorem zm2 : (2, 0) ∈ zcds := by decide +kernel
theorem zm3 {i : Nat} (h : i < 3) : (3, i) ∈ zcds := by
  have : ∀ i, i < 3 → (3, i) ∈ zcds := by decide +kernel
  exact this i h
theorem zm4 {i : Nat} (h : i < 12) : (4, i) ∈ zcds := by
  have : ∀ i, i < 12 → (4, i) ∈ zcds := by decide +kernel
  exact this i h
theorem zm5 {i : Nat} (h : i < 12) : (5, i) ∈ zcds := by
  have : ∀ i, i < 12 → (5, i) ∈ zcds := by decide +kernel
  exact this i h
theorem zm6 : (6, 0) ∈ zcds := by decide +kernel
theorem zm7 : (7, 0) ∈ zcds := by decide +kernel
theorem zm10 : (10, 0) ∈ zcds := by decide +kernel
theorem zm11 {i : Nat} (h : i < 2) : (11, i) ∈ zcds := by
  have : ∀ i, i < 2 → (11, i) ∈ zcds := by decide +kernel
  exact this i h
theorem zm12 {i : Nat} (h : i < 2) : (12, i) ∈ zcds := by
  have : ∀ i, i < 2 → (12, i) ∈ zcds := by decide +kernel
  exact this i h
theorem zm13 {i : Nat} (h : i < 2) : (13, i) ∈ zcds := by
  have : ∀ i, i < 2 → (13, i) ∈ zcds := by decide +kernel
  exact this i h
theorem zm14 {i : Nat} (h : i < 2) : (14, i) ∈ zcds := by
  have : ∀ i, i < 2 → (14, i) ∈ zcds := by decide +kernel
  exact this i h
theorem zm15 {i : Nat} (h : i < 2) : (15, i) ∈ zcds := by
  have : ∀ i, i < 2 → (15, i) ∈ zcds := by decide +kernel
  exact this i h
theorem zm16 {i : Nat} (h : i < 2) : (16, i) ∈ zcds := by
  have : ∀ i, i < 2 → (16, i) ∈ zcds := by decide +kernel
  exact this i h
theorem zm17 {i : Nat} (h : i < 3) : (17, i) ∈ zcds := by
  have : ∀ i, i < 3 → (17, i) ∈ zcds := by decide +kernel
  exact this i h
theorem zm18 {i : Nat} (h : i < 3) : (18, i) ∈ zcds := by
  have : ∀ i, i < 3 → (18, i) ∈ zcds := by decide +kernel
  exact this i h
theorem zm19 {i : Nat} (h : i < 3) : (19, i) ∈ zcds := by
  have : ∀ i, i < 3 → (19, i) ∈ zcds := by decide +kernel
  exact this i h
theorem zm20 {i : Nat} (h : i < 3) : (20, i) ∈ zcds := by
  have : ∀ i, i < 3 → (20, i) ∈ zcds := by decide +kernel
  exact this i h
theorem zm21 {i : Nat} (h : i < 3) : (21, i) ∈ zcds := by
  have : ∀ i, i < 3 → (21, i) ∈ zcds := by decide +kernel
  exact this i h
theorem zm22 {i : Nat} (h : i < 12) : (22, i) ∈ zcds := by
  have : ∀ i, i < 12 → (22, i) ∈ zcds := by decide +kernel
  exact this i h
theorem zm23 {i : Nat} (h : i < 12) : (23, i) ∈ zcds := by
  have : ∀ i, i < 12 → (23, i) ∈ zcds := by decide +kernel
  exact this i h
theorem zm24 {i : Nat} (h : i < 12) : (24, i) ∈ zcds := by
  have : ∀ i, i < 12 → (24, i) ∈ zcds := by decide +kernel
  exact this i h
theorem zm25 {i : Nat} (h : i < 12) : (25, i) ∈ zcds := by
  have : ∀ i, i < 12 → (25, i) ∈ zcds := by decide +kernel
  exact this i h
theorem zm26 {i : Nat} (h : i < 12) : (26, i) ∈ zcds := by
  have : ∀ i, i < 12 → (26, i) ∈ zcds := by decide +kernel
  exact this i h
theorem zm27 {i : Nat} (h : i < 12) : (27, i) ∈ zcds := by
  have : ∀ i, i < 12 → (27, i) ∈ zcds := by decide +kernel
  exact this i h
theorem zm28 {i : Nat} (h : i < 12) : (28, i) ∈ zcds := by
  have : ∀ i, i < 12 → (28, i) ∈ zcds := by decide +kernel
  exact this i h
theorem zm29 : (29, 0) ∈ zcds := by decide +kernel
theorem zm30 : (30, 0) ∈ zcds := by decide +kernel
theorem zm31 : (31, 0) ∈ zcds := by decide +kernel
theorem zm32 : (32, 0) ∈ zcds := by decide +kernel
theorem zm33 : (33, 0) ∈ zcds := by decide +kernel
theorem zm34 : (34, 0) ∈ zcds := by decide +kernel
theorem zm35 : (35, 0) ∈ zcds := by decide +kernel
theorem zm36 : (36, 0) ∈ zcds := by decide +kernel
theorem zm37 : (37, 0) ∈ zcds := by decide +kernel
theorem zm38 : (38, 0) ∈ zcds := by decide +kernel
theorem zm39 : (39, 0) ∈ zcds := by decide +kernel
theorem zm40 : (40, 0) ∈ zcds := by decide +kernel
theorem zm41 : (41, 0) ∈ zcds := by decide +kernel
theorem zm42 : (42, 0) ∈ zcds := by decide +kernel
theorem zm43 : (43, 0) ∈ zcds := by decide +kernel
theorem zm44 : (44, 0) ∈ zcds := by decide +kernel
theorem zm45 : (45, 0) ∈ zcds := by decide +kernel
theorem zm46 : (46, 0) ∈ zcds := by decide +kernel
theorem zk_m8 : Int32.ofInt (-8) = (-8) := by decide +kernel
theorem zk_m1 : Int32.ofInt (-1) = (-1) := by decide +kernel
theorem zk_0 : Int32.ofInt (0) = (nI 0) := by decide +kernel
theorem zk_1 : Int32.ofInt (1) = (nI 1) := by decide +kernel
theorem zk_2 : Int32.ofInt (2) = (nI 2) := by decide +kernel
theorem zk_3 : Int32.ofInt (3) = (nI 3) := by decide +kernel
theorem zk_4 : Int32.ofInt (4) = (nI 4) := by decide +kernel
theorem zk_5 : Int32.ofInt (5) = (nI 5) := by decide +kernel
theorem zk_9 : Int32.ofInt (9) = (nI 9) := by decide +kernel
theorem zkb_m2 : (Int8.ofInt (-2)).toInt32 = (-2) := by decide +kernel
theorem zkb_6 : (Int8.ofInt (6)).toInt32 = (nI 6) := by decide +kernel
theorem zkb_7 : (Int8.ofInt (7)).toInt32 = (nI 7) := by decide +kernel
theorem zkb_8 : (Int8.ofInt (8)).toInt32 = (nI 8) := by decide +kernel
theorem zkb_9 : (Int8.ofInt (9)).toInt32 = (nI 9) := by decide +kernel
theorem zkb_10 : (Int8.ofInt (10)).toInt32 = (nI 10) := by decide +kernel
theorem zkb_11 : (Int8.ofInt (11)).toInt32 = (nI 11) := by decide +kernel
theorem zkb_12 : (Int8.ofInt (12)).toInt32 = (nI 12) := by decide +kernel
theorem zkb_13 : (Int8.ofInt (13)).toInt32 = (nI 13) := by decide +kernel
theorem zkb_14 : (Int8.ofInt (14)).toInt32 = (nI 14) := by decide +kernel
theorem zkb_15 : (Int8.ofInt (15)).toInt32 = (nI 15) := by decide +kernel
theorem zkb_16 : (Int8.ofInt (16)).toInt32 = (nI 16) := by decide +kernel
theorem zkb_17 : (Int8.ofInt (17)).toInt32 = (nI 17) := by decide +kernel
theorem zkb_20 : (Int8.ofInt (20)).toInt32 = (nI 20) := by decide +kernel
theorem zkb_24 : (Int8.ofInt (24)).toInt32 = (nI 24) := by decide +kernel
theorem zkb_32 : (Int8.ofInt (32)).toInt32 = (nI 32) := by decide +kernel
theorem zkb_48 : (Int8.ofInt (48)).toInt32 = (nI 48) := by decide +kernel
theorem zkb_57 : (Int8.ofInt (57)).toInt32 = (nI 57) := by decide +kernel
theorem zkb_59 : (Int8.ofInt (59)).toInt32 = (nI 59) := by decide +kernel
theorem zkb_62 : (Int8.ofInt (62)).toInt32 = (nI 62) := by decide +kernel
theorem zkb_64 : (Int8.ofInt (64)).toInt32 = (nI 64) := by decide +kernel
theorem zkb_68 : (Int8.ofInt (68)).toInt32 = (nI 68) := by decide +kernel
theorem zkb_96 : (Int8.ofInt (96)).toInt32 = (nI 96) := by decide +kernel
theorem zkb_97 : (Int8.ofInt (97)).toInt32 = (nI 97) := by decide +kernel
theorem zkb_122 : (Int8.ofInt (122)).toInt32 = (nI 122) := by decide +kernel
theorem zks_192 : (Int16.ofInt (192)).toInt32 = (nI 192) := by decide +kernel
theorem zks_200 : (Int16.ofInt (200)).toInt32 = (nI 200) := by decide +kernel
theorem zks_254 : (Int16.ofInt (254)).toInt32 = (nI 254) := by decide +kernel
theorem zks_255 : (Int16.ofInt (255)).toInt32 = (nI 255) := by decide +kernel
theorem zks_256 : (Int16.ofInt (256)).toInt32 = (nI 256) := by decide +kernel
theorem zks_318 : (Int16.ofInt (318)).toInt32 = (nI 318) := by decide +kernel
theorem zks_880 : (Int16.ofInt (880)).toInt32 = (nI 880) := by decide +kernel
theorem zks_900 : (Int16.ofInt (900)).toInt32 = (nI 900) := by decide +kernel
theorem zks_999 : (Int16.ofInt (999)).toInt32 = (nI 999) := by decide +kernel
theorem zks_1000 : (Int16.ofInt (1000)).toInt32 = (nI 1000) := by decide +kernel
theorem zks_2000 : (Int16.ofInt (2000)).toInt32 = (nI 2000) := by decide +kernel
theorem zks_2766 : (Int16.ofInt (2766)).toInt32 = (nI 2766) := by decide +kernel
theorem zks_13849 : (Int16.ofInt (13849)).toInt32 = (nI 13849) := by decide +kernel
theorem zks_25173 : (Int16.ofInt (25173)).toInt32 = (nI 25173) := by decide +kernel
theorem gf_RX6_9 (C : Cx X p R s m args meth c cc nL RX6 cells slots) (hX : zfl X = false) (hd : decode cc pc = .ok (.getfield 9, 3)) (kk : V X p l e R s m args below meth c nL cells slots Q g (pc + 3) L ((.inr (.inl (10, 0))) :: st)) : V X p l e R s m args below meth c nL cells slots Q g pc L (.inr (.inl (0, 0)) :: st) := v_get (t := 0) (ci := 6) (N := 13) (k := 0) (Cn := RX6) (T := TX6) C hX.symm zm0 rfl rfl zinX6 (by decide) rfl fl_RX6_9 hd (v := (.inr (.inl (10, 0)))) rfl kk
theorem gf_RX6_16 (C : Cx X p R s m args meth c cc nL RX6 cells slots) (hX : zfl X = false) (hd : decode cc pc = .ok (.getfield 16, 3)) (kk : V X p l e R s m args below meth c nL cells slots Q g (pc + 3) L ((.inr (.inl (1, 0))) :: st)) : V X p l e R s m args below meth c nL cells slots Q g pc L (.inr (.inl (0, 0)) :: st) := v_get (t := 0) (ci := 6) (N := 13) (k := 2) (Cn := RX6) (T := TX6) C hX.symm zm0 rfl rfl zinX6 (by decide) rfl fl_RX6_16 hd (v := (.inr (.inl (1, 0)))) rfl kk
theorem gf_RX6_20 (C : Cx X p R s m args meth c cc nL RX6 cells slots) (hX : zfl X = false) (hd : decode cc pc = .ok (.getfield 20, 3)) (kk : V X p l e R s m args below meth c nL cells slots Q g (pc + 3) L ((.inr (.inl (1, 1))) :: st)) : V X p l e R s m args below meth c nL cells slots Q g pc L (.inr (.inl (0, 0)) :: st) := v_get (t := 0) (ci := 6) (N := 13) (k := 3) (Cn := RX6) (T := TX6) C hX.symm zm0 rfl rfl zinX6 (by decide) rfl fl_RX6_20 hd (v := (.inr (.inl (1, 1)))) rfl kk
theorem gf_RX6_28 (C : Cx X p R s m args meth c cc nL RX6 cells slots) (hX : zfl X = false) (hd : decode cc pc = .ok (.getfield 28, 3)) (kk : V X p l e R s m args below meth c nL cells slots Q g (pc + 3) L ((.inr (.inl (2, 0))) :: st)) : V X p l e R s m args below meth c nL cells slots Q g pc L (.inr (.inl (0, 0)) :: st) := v_get (t := 0) (ci := 6) (N := 13) (k := 4) (Cn := RX6) (T := TX6) C hX.symm zm0 rfl rfl zinX6 (by decide) rfl fl_RX6_28 hd (v := (.inr (.inl (2, 0)))) rfl kk
theorem gf_RX6_37 (C : Cx X p R s m args meth c cc nL RX6 cells slots) (hX : zfl X = false) (hd : decode cc pc = .ok (.getfield 37, 3)) (kk : V X p l e R s m args below meth c nL cells slots Q g (pc + 3) L ((.inr (.inl (3, 0))) :: st)) : V X p l e R s m args below meth c nL cells slots Q g pc L (.inr (.inl (0, 0)) :: st) := v_get (t := 0) (ci := 6) (N := 13) (k := 5) (Cn := RX6) (T := TX6) C hX.symm zm0 rfl rfl zinX6 (by decide) rfl fl_RX6_37 hd (v := (.inr (.inl (3, 0)))) rfl kk
theorem gf_RX6_41 (C : Cx X p R s m args meth c cc nL RX6 cells slots) (hX : zfl X = false) (hd : decode cc pc = .ok (.getfield 41, 3)) (kk : V X p l e R s m args below meth c nL cells slots Q g (pc + 3) L ((.inr (.inl (3, 1))) :: st)) : V X p l e R s m args below meth c nL cells slots Q g pc L (.inr (.inl (0, 0)) :: st) := v_get (t := 0) (ci := 6) (N := 13) (k := 6) (Cn := RX6) (T := TX6) C hX.symm zm0 rfl rfl zinX6 (by decide) rfl fl_RX6_41 hd (v := (.inr (.inl (3, 1)))) rfl kk
theorem gf_RX6_44 (C : Cx X p R s m args meth c cc nL RX6 cells slots) (hX : zfl X = false) (hd : decode cc pc = .ok (.getfield 44, 3)) (kk : V X p l e R s m args below meth c nL cells slots Q g (pc + 3) L ((.inr (.inl (3, 2))) :: st)) : V X p l e R s m args below meth c nL cells slots Q g pc L (.inr (.inl (0, 0)) :: st) := v_get (t := 0) (ci := 6) (N := 13) (k := 7) (Cn := RX6) (T := TX6) C hX.symm zm0 rfl rfl zinX6 (by decide) rfl fl_RX6_44 hd (v := (.inr (.inl (3, 2)))) rfl kk
theorem gf_RX6_50 (C : Cx X p R s m args meth c cc nL RX6 cells slots) (hX : zfl X = false) (hd : decode cc pc = .ok (.getfield 50, 3)) (kk : V X p l e R s m args below meth c nL cells slots Q g (pc + 3) L ((.inr (.inl (6, 0))) :: st)) : V X p l e R s m args below meth c nL cells slots Q g pc L (.inr (.inl (0, 0)) :: st) := v_get (t := 0) (ci := 6) (N := 13) (k := 8) (Cn := RX6) (T := TX6) C hX.symm zm0 rfl rfl zinX6 (by decide) rfl fl_RX6_50 hd (v := (.inr (.inl (6, 0)))) rfl kk
theorem gf_RX6_54 (C : Cx X p R s m args meth c cc nL RX6 cells slots) (hX : zfl X = false) (hd : decode cc pc = .ok (.getfield 54, 3)) (kk : V X p l e R s m args below meth c nL cells slots Q g (pc + 3) L ((.inl (g 13000 0 0)) :: st)) : V X p l e R s m args below meth c nL cells slots Q g pc L (.inr (.inl (0, 0)) :: st) := v_get (t := 0) (ci := 6) (N := 13) (k := 12) (Cn := RX6) (T := TX6) C hX.symm zm0 rfl rfl zinX6 (by decide) rfl fl_RX6_54 hd (v := (.inl (g 13000 0 0))) rfl kk
theorem pf_RX6_54 (C : Cx X p R s m args meth c cc nL RX6 cells slots) (hX : zfl X = false) {x : Int32} (hd : decode cc pc = .ok (.putfield 54, 3)) {K : zG → zR0} (hM : zw g 13000 0 0 x K = some res) (kk : ∀ g1, K g1 = some res → V X p l e R s m args below meth c nL cells slots Q g1 (pc + 3) L st) : V X p l e R s m args below meth c nL cells slots Q g pc L (.inl x :: .inr (.inl (0, 0)) :: st) := v_put (t := 0) (ci := 6) (N := 13) (k := 12) (Cn := RX6) (T := TX6) C tyX6 tyX6_ok nmX6 hX.symm zm0 rfl rfl zinX6 (by decide) rfl fl_RX6_54 rfl rfl rfl rfl hd (kk _ hM)
theorem gf_RX6_58 (C : Cx X p R s m args meth c cc nL RX6 cells slots) (hX : zfl X = false) (hd : decode cc pc = .ok (.getfield 58, 3)) (kk : V X p l e R s m args below meth c nL cells slots Q g (pc + 3) L ((.inl (g 2000 0 0)) :: st)) : V X p l e R s m args below meth c nL cells slots Q g pc L (.inr (.inl (0, 0)) :: st) := v_get (t := 0) (ci := 6) (N := 13) (k := 1) (Cn := RX6) (T := TX6) C hX.symm zm0 rfl rfl zinX6 (by decide) rfl fl_RX6_58 hd (v := (.inl (g 2000 0 0))) rfl kk
theorem pf_RX6_58 (C : Cx X p R s m args meth c cc nL RX6 cells slots) (hX : zfl X = false) {x : Int32} (hd : decode cc pc = .ok (.putfield 58, 3)) {K : zG → zR0} (hM : zw g 2000 0 0 x K = some res) (kk : ∀ g1, K g1 = some res → V X p l e R s m args below meth c nL cells slots Q g1 (pc + 3) L st) : V X p l e R s m args below meth c nL cells slots Q g pc L (.inl x :: .inr (.inl (0, 0)) :: st) := v_put (t := 0) (ci := 6) (N := 13) (k := 1) (Cn := RX6) (T := TX6) C tyX6 tyX6_ok nmX6 hX.symm zm0 rfl rfl zinX6 (by decide) rfl fl_RX6_58 rfl rfl rfl rfl hd (kk _ hM)
theorem gf_RX6_77 (C : Cx X p R s m args meth c cc nL RX6 cells slots) (hX : zfl X = false) (hd : decode cc pc = .ok (.getfield 77, 3)) (kk : V X p l e R s m args below meth c nL cells slots Q g (pc + 3) L ((.inl (g 10002 0 0)) :: st)) : V X p l e R s m args below meth c nL cells slots Q g pc L (.inr (.inl (2, 0)) :: st) := v_getN (t := 2) (ci := 5) (N := 11) (k := 9) (Cn := RX5) (T := TX5) C hX.symm zm2 rfl rfl zinX5 (by decide) rfl fl_RX6_77 hd (v := (.inl (g 10002 0 0))) rfl kk
theorem gf_RX6_80 (C : Cx X p R s m args meth c cc nL RX6 cells slots) (hX : zfl X = false) (hd : decode cc pc = .ok (.getfield 80, 3)) (kk : V X p l e R s m args below meth c nL cells slots Q g (pc + 3) L ((.inl (g 12000 0 0)) :: st)) : V X p l e R s m args below meth c nL cells slots Q g pc L (.inr (.inl (0, 0)) :: st) := v_get (t := 0) (ci := 6) (N := 13) (k := 11) (Cn := RX6) (T := TX6) C hX.symm zm0 rfl rfl zinX6 (by decide) rfl fl_RX6_80 hd (v := (.inl (g 12000 0 0))) rfl kk
theorem pf_RX6_80 (C : Cx X p R s m args meth c cc nL RX6 cells slots) (hX : zfl X = false) {x : Int32} (hd : decode cc pc = .ok (.putfield 80, 3)) {K : zG → zR0} (hM : zw g 12000 0 0 x K = some res) (kk : ∀ g1, K g1 = some res → V X p l e R s m args below meth c nL cells slots Q g1 (pc + 3) L st) : V X p l e R s m args below meth c nL cells slots Q g pc L (.inl x :: .inr (.inl (0, 0)) :: st) := v_put (t := 0) (ci := 6) (N := 13) (k := 11) (Cn := RX6) (T := TX6) C tyX6 tyX6_ok nmX6 hX.symm zm0 rfl rfl zinX6 (by decide) rfl fl_RX6_80 rfl rfl rfl rfl hd (kk _ hM)
theorem gf_RX6_86 (C : Cx X p R s m args meth c cc nL RX6 cells slots) (hX : zfl X = false) {i : Nat} (hq : i < 2) (hd : decode cc pc = .ok (.getfield 86, 3)) (kk : V X p l e R s m args below meth c nL cells slots Q g (pc + 3) L ((.inl (g 4001 i 0)) :: st)) : V X p l e R s m args below meth c nL cells slots Q g pc L (.inr (.inl (1, i)) :: st) := v_getN (t := 1) (ci := 2) (N := 13) (k := 3) (Cn := RX2) (T := TX2) C hX.symm (zm1 hq) rfl rfl zinX2 (by decide) rfl fl_RX6_86 hd (v := (.inl (g 4001 i 0))) rfl kk
theorem gf_RX6_89 (C : Cx X p R s m args meth c cc nL RX6 cells slots) (hX : zfl X = false) {i : Nat} (hq : i < 2) (hd : decode cc pc = .ok (.getfield 89, 3)) (kk : V X p l e R s m args below meth c nL cells slots Q g (pc + 3) L ((.inl (g 5001 i 0)) :: st)) : V X p l e R s m args below meth c nL cells slots Q g pc L (.inr (.inl (1, i)) :: st) := v_getN (t := 1) (ci := 2) (N := 13) (k := 4) (Cn := RX2) (T := TX2) C hX.symm (zm1 hq) rfl rfl zinX2 (by decide) rfl fl_RX6_89 hd (v := (.inl (g 5001 i 0))) rfl kk
theorem gf_RX6_96 (C : Cx X p R s m args meth c cc nL RX6 cells slots) (hX : zfl X = false) (hd : decode cc pc = .ok (.getfield 96, 3)) (kk : V X p l e R s m args below meth c nL cells slots Q g (pc + 3) L ((.inl (g 10000 0 0)) :: st)) : V X p l e R s m args below meth c nL cells slots Q g pc L (.inr (.inl (0, 0)) :: st) := v_get (t := 0) (ci := 6) (N := 13) (k := 9) (Cn := RX6) (T := TX6) C hX.symm zm0 rfl rfl zinX6 (by decide) rfl fl_RX6_96 hd (v := (.inl (g 10000 0 0))) rfl kk
theorem pf_RX6_96 (C : Cx X p R s m args meth c cc nL RX6 cells slots) (hX : zfl X = false) {x : Int32} (hd : decode cc pc = .ok (.putfield 96, 3)) (hz : x = nI 0 ∨ x = nI 1) {K : zG → zR0} (hM : zw g 10000 0 0 x K = some res) (kk : ∀ g1, K g1 = some res → V X p l e R s m args below meth c nL cells slots Q g1 (pc + 3) L st) : V X p l e R s m args below meth c nL cells slots Q g pc L (.inl x :: .inr (.inl (0, 0)) :: st) := v_put (t := 0) (ci := 6) (N := 13) (k := 9) (Cn := RX6) (T := TX6) C tyX6 tyX6_ok nmX6 hX.symm zm0 rfl rfl zinX6 (by decide) rfl fl_RX6_96 rfl rfl (zbo_n hz) (zbo_f hz) hd (kk _ hM)
theorem gf_RX6_100 (C : Cx X p R s m args meth c cc nL RX6 cells slots) (hX : zfl X = false) (hd : decode cc pc = .ok (.getfield 100, 3)) (kk : V X p l e R s m args below meth c nL cells slots Q g (pc + 3) L ((.inl (g 11000 0 0)) :: st)) : V X p l e R s m args below meth c nL cells slots Q g pc L (.inr (.inl (0, 0)) :: st) := v_get (t := 0) (ci := 6) (N := 13) (k := 10) (Cn := RX6) (T := TX6) C hX.symm zm0 rfl rfl zinX6 (by decide) rfl fl_RX6_100 hd (v := (.inl (g 11000 0 0))) rfl kk
theorem pf_RX6_100 (C : Cx X p R s m args meth c cc nL RX6 cells slots) (hX : zfl X = false) {x : Int32} (hd : decode cc pc = .ok (.putfield 100, 3)) (hz : x = nI 0 ∨ x = nI 1) {K : zG → zR0} (hM : zw g 11000 0 0 x K = some res) (kk : ∀ g1, K g1 = some res → V X p l e R s m args below meth c nL cells slots Q g1 (pc + 3) L st) : V X p l e R s m args below meth c nL cells slots Q g pc L (.inl x :: .inr (.inl (0, 0)) :: st) := v_put (t := 0) (ci := 6) (N := 13) (k := 10) (Cn := RX6) (T := TX6) C tyX6 tyX6_ok nmX6 hX.symm zm0 rfl rfl zinX6 (by decide) rfl fl_RX6_100 rfl rfl (zbo_n hz) (zbo_f hz) hd (kk _ hM)
theorem gf_RX6_103 (C : Cx X p R s m args meth c cc nL RX6 cells slots) (hX : zfl X = false) {i : Nat} (hq : i < 2) (hd : decode cc pc = .ok (.getfield 103, 3)) (kk : V X p l e R s m args below meth c nL cells slots Q g (pc + 3) L ((.inl (g 6001 i 0)) :: st)) : V X p l e R s m args below meth c nL cells slots Q g pc L (.inr (.inl (1, i)) :: st) := v_getN (t := 1) (ci := 2) (N := 13) (k := 5) (Cn := RX2) (T := TX2) C hX.symm (zm1 hq) rfl rfl zinX2 (by decide) rfl fl_RX6_103 hd (v := (.inl (g 6001 i 0))) rfl kk
theorem gf_RX6_109 (C : Cx X p R s m args meth c cc nL RX6 cells slots) (hX : zfl X = false) (hd : decode cc pc = .ok (.getfield 109, 3)) (kk : V X p l e R s m args below meth c nL cells slots Q g (pc + 3) L ((.inl (g 11002 0 0)) :: st)) : V X p l e R s m args below meth c nL cells slots Q g pc L (.inr (.inl (2, 0)) :: st) := v_getN (t := 2) (ci := 5) (N := 11) (k := 10) (Cn := RX5) (T := TX5) C hX.symm zm2 rfl rfl zinX5 (by decide) rfl fl_RX6_109 hd (v := (.inl (g 11002 0 0))) rfl kk
theorem gf_RX6_112 (C : Cx X p R s m args meth c cc nL RX6 cells slots) (hX : zfl X = false) {i : Nat} (hq : i < 2) (hd : decode cc pc = .ok (.getfield 112, 3)) (kk : V X p l e R s m args below meth c nL cells slots Q g (pc + 3) L ((.inl (g 1001 i 0)) :: st)) : V X p l e R s m args below meth c nL cells slots Q g pc L (.inr (.inl (1, i)) :: st) := v_getN (t := 1) (ci := 2) (N := 13) (k := 0) (Cn := RX2) (T := TX2) C hX.symm (zm1 hq) rfl rfl zinX2 (by decide) rfl fl_RX6_112 hd (v := (.inl (g 1001 i 0))) rfl kk
theorem gf_RX6_115 (C : Cx X p R s m args meth c cc nL RX6 cells slots) (hX : zfl X = false) {i : Nat} (hq : i < 2) (hd : decode cc pc = .ok (.getfield 115, 3)) (kk : V X p l e R s m args below meth c nL cells slots Q g (pc + 3) L ((.inl (g 2001 i 0)) :: st)) : V X p l e R s m args below meth c nL cells slots Q g pc L (.inr (.inl (1, i)) :: st) := v_getN (t := 1) (ci := 2) (N := 13) (k := 1) (Cn := RX2) (T := TX2) C hX.symm (zm1 hq) rfl rfl zinX2 (by decide) rfl fl_RX6_115 hd (v := (.inl (g 2001 i 0))) rfl kk
theorem gf_RX6_118 (C : Cx X p R s m args meth c cc nL RX6 cells slots) (hX : zfl X = false) {i : Nat} (hq : i < 2) (hd : decode cc pc = .ok (.getfield 118, 3)) (kk : V X p l e R s m args below meth c nL cells slots Q g (pc + 3) L ((.inl (g 3001 i 0)) :: st)) : V X p l e R s m args below meth c nL cells slots Q g pc L (.inr (.inl (1, i)) :: st) := v_getN (t := 1) (ci := 2) (N := 13) (k := 2) (Cn := RX2) (T := TX2) C hX.symm (zm1 hq) rfl rfl zinX2 (by decide) rfl fl_RX6_118 hd (v := (.inl (g 3001 i 0))) rfl kk
theorem gf_RX6_125 (C : Cx X p R s m args meth c cc nL RX6 cells slots) (hX : zfl X = false) {i : Nat} (hq : i < 3) (hd : decode cc pc = .ok (.getfield 125, 3)) (kk : V X p l e R s m args below meth c nL cells slots Q g (pc + 3) L ((.inl (g 10003 i 0)) :: st)) : V X p l e R s m args below meth c nL cells slots Q g pc L (.inr (.inl (3, i)) :: st) := v_getN (t := 3) (ci := 3) (N := 12) (k := 9) (Cn := RX3) (T := TX3) C hX.symm (zm3 hq) rfl rfl zinX3 (by decide) rfl fl_RX6_125 hd (v := (.inl (g 10003 i 0))) rfl kk
theorem gf_RX6_128 (C : Cx X p R s m args meth c cc nL RX6 cells slots) (hX : zfl X = false) {i : Nat} (hq : i < 3) (hd : decode cc pc = .ok (.getfield 128, 3)) (kk : V X p l e R s m args below meth c nL cells slots Q g (pc + 3) L ((.inl (g 7003 i 0)) :: st)) : V X p l e R s m args below meth c nL cells slots Q g pc L (.inr (.inl (3, i)) :: st) := v_getN (t := 3) (ci := 3) (N := 12) (k := 6) (Cn := RX3) (T := TX3) C hX.symm (zm3 hq) rfl rfl zinX3 (by decide) rfl fl_RX6_128 hd (v := (.inl (g 7003 i 0))) rfl kk
theorem gf_RX6_155 (C : Cx X p R s m args meth c cc nL RX6 cells slots) (hX : zfl X = false) {i : Nat} (hq : i < 3) (hd : decode cc pc = .ok (.getfield 155, 3)) (kk : V X p l e R s m args below meth c nL cells slots Q g (pc + 3) L ((.inr (.inl (17, i))) :: st)) : V X p l e R s m args below meth c nL cells slots Q g pc L (.inr (.inl (3, i)) :: st) := v_getN (t := 3) (ci := 3) (N := 12) (k := 1) (Cn := RX3) (T := TX3) C hX.symm (zm3 hq) rfl rfl zinX3 (by decide) rfl fl_RX6_155 hd (v := (.inr (.inl (17, i)))) rfl kk
theorem gf_RX6_161 (C : Cx X p R s m args meth c cc nL RX6 cells slots) (hX : zfl X = false) (hd : decode cc pc = .ok (.getfield 161, 3)) (kk : V X p l e R s m args below meth c nL cells slots Q g (pc + 3) L ((.inr (.inl (29, 0))) :: st)) : V X p l e R s m args below meth c nL cells slots Q g pc L (.inr (.inl (6, 0)) :: st) := v_getN (t := 6) (ci := 4) (N := 6) (k := 1) (Cn := RX4) (T := TX4) C hX.symm zm6 rfl rfl zinX4 (by decide) rfl fl_RX6_161 hd (v := (.inr (.inl (29, 0)))) rfl kk
theorem gf_RX6_166 (C : Cx X p R s m args meth c cc nL RX6 cells slots) (hX : zfl X = false) {i : Nat} (hq : i < 3) (hd : decode cc pc = .ok (.getfield 166, 3)) (kk : V X p l e R s m args below meth c nL cells slots Q g (pc + 3) L ((.inr (.inl (21, i))) :: st)) : V X p l e R s m args below meth c nL cells slots Q g pc L (.inr (.inl (3, i)) :: st) := v_getN (t := 3) (ci := 3) (N := 12) (k := 5) (Cn := RX3) (T := TX3) C hX.symm (zm3 hq) rfl rfl zinX3 (by decide) rfl fl_RX6_166 hd (v := (.inr (.inl (21, i)))) rfl kk
theorem gf_RX6_173 (C : Cx X p R s m args meth c cc nL RX6 cells slots) (hX : zfl X = false) {i : Nat} (hq : i < 3) (hd : decode cc pc = .ok (.getfield 173, 3)) (kk : V X p l e R s m args below meth c nL cells slots Q g (pc + 3) L ((.inl (g 11003 i 0)) :: st)) : V X p l e R s m args below meth c nL cells slots Q g pc L (.inr (.inl (3, i)) :: st) := v_getN (t := 3) (ci := 3) (N := 12) (k := 10) (Cn := RX3) (T := TX3) C hX.symm (zm3 hq) rfl rfl zinX3 (by decide) rfl fl_RX6_173 hd (v := (.inl (g 11003 i 0))) rfl kk
theorem gf_RX6_179 (C : Cx X p R s m args meth c cc nL RX6 cells slots) (hX : zfl X = false) {i : Nat} (hq : i < 3) (hd : decode cc pc = .ok (.getfield 179, 3)) (kk : V X p l e R s m args below meth c nL cells slots Q g (pc + 3) L ((.inr (.inl (18, i))) :: st)) : V X p l e R s m args below meth c nL cells slots Q g pc L (.inr (.inl (3, i)) :: st) := v_getN (t := 3) (ci := 3) (N := 12) (k := 2) (Cn := RX3) (T := TX3) C hX.symm (zm3 hq) rfl rfl zinX3 (by decide) rfl fl_RX6_179 hd (v := (.inr (.inl (18, i)))) rfl kk
theorem gf_RX6_183 (C : Cx X p R s m args meth c cc nL RX6 cells slots) (hX : zfl X = false) {i : Nat} (hq : i < 12) (hd : decode cc pc = .ok (.getfield 183, 3)) (kk : V X p l e R s m args below meth c nL cells slots Q g (pc + 3) L ((.inr (.inl (22, i))) :: st)) : V X p l e R s m args below meth c nL cells slots Q g pc L (.inr (.inl (4, i)) :: st) := v_getN (t := 4) (ci := 0) (N := 7) (k := 1) (Cn := RX0) (T := TX0) C hX.symm (zm4 hq) rfl rfl zinX0 (by decide) rfl fl_RX6_183 hd (v := (.inr (.inl (22, i)))) rfl kk
theorem gf_RX6_188 (C : Cx X p R s m args meth c cc nL RX6 cells slots) (hX : zfl X = false) {i : Nat} (hq : i < 12) (hd : decode cc pc = .ok (.getfield 188, 3)) (kk : V X p l e R s m args below meth c nL cells slots Q g (pc + 3) L ((.inr (.inl (23, i))) :: st)) : V X p l e R s m args below meth c nL cells slots Q g pc L (.inr (.inl (4, i)) :: st) := v_getN (t := 4) (ci := 0) (N := 7) (k := 2) (Cn := RX0) (T := TX0) C hX.symm (zm4 hq) rfl rfl zinX0 (by decide) rfl fl_RX6_188 hd (v := (.inr (.inl (23, i)))) rfl kk
theorem gf_RX6_191 (C : Cx X p R s m args meth c cc nL RX6 cells slots) (hX : zfl X = false) {i : Nat} (hq : i < 12) (hd : decode cc pc = .ok (.getfield 191, 3)) (kk : V X p l e R s m args below meth c nL cells slots Q g (pc + 3) L ((.inr (.inl (24, i))) :: st)) : V X p l e R s m args below meth c nL cells slots Q g pc L (.inr (.inl (4, i)) :: st) := v_getN (t := 4) (ci := 0) (N := 7) (k := 3) (Cn := RX0) (T := TX0) C hX.symm (zm4 hq) rfl rfl zinX0 (by decide) rfl fl_RX6_191 hd (v := (.inr (.inl (24, i)))) rfl kk
theorem gf_RX6_195 (C : Cx X p R s m args meth c cc nL RX6 cells slots) (hX : zfl X = false) {i : Nat} (hq : i < 12) (hd : decode cc pc = .ok (.getfield 195, 3)) (kk : V X p l e R s m args below meth c nL cells slots Q g (pc + 3) L ((.inr (.inl (25, i))) :: st)) : V X p l e R s m args below meth c nL cells slots Q g pc L (.inr (.inl (4, i)) :: st) := v_getN (t := 4) (ci := 0) (N := 7) (k := 4) (Cn := RX0) (T := TX0) C hX.symm (zm4 hq) rfl rfl zinX0 (by decide) rfl fl_RX6_195 hd (v := (.inr (.inl (25, i)))) rfl kk
theorem gf_RX6_198 (C : Cx X p R s m args meth c cc nL RX6 cells slots) (hX : zfl X = false) {i : Nat} (hq : i < 12) (hd : decode cc pc = .ok (.getfield 198, 3)) (kk : V X p l e R s m args below meth c nL cells slots Q g (pc + 3) L ((.inr (.inl (26, i))) :: st)) : V X p l e R s m args below meth c nL cells slots Q g pc L (.inr (.inl (4, i)) :: st) := v_getN (t := 4) (ci := 0) (N := 7) (k := 5) (Cn := RX0) (T := TX0) C hX.symm (zm4 hq) rfl rfl zinX0 (by decide) rfl fl_RX6_198 hd (v := (.inr (.inl (26, i)))) rfl kk
theorem gf_RX6_216 (C : Cx X p R s m args meth c cc nL RX6 cells slots) (hX : zfl X = false) {i : Nat} (hq : i < 3) (hd : decode cc pc = .ok (.getfield 216, 3)) (kk : V X p l e R s m args below meth c nL cells slots Q g (pc + 3) L ((.inr (.inl (20, i))) :: st)) : V X p l e R s m args below meth c nL cells slots Q g pc L (.inr (.inl (3, i)) :: st) := v_getN (t := 3) (ci := 3) (N := 12) (k := 4) (Cn := RX3) (T := TX3) C hX.symm (zm3 hq) rfl rfl zinX3 (by decide) rfl fl_RX6_216 hd (v := (.inr (.inl (20, i)))) rfl kk
theorem gf_RX6_219 (C : Cx X p R s m args meth c cc nL RX6 cells slots) (hX : zfl X = false) {i : Nat} (hq : i < 3) (hd : decode cc pc = .ok (.getfield 219, 3)) (kk : V X p l e R s m args below meth c nL cells slots Q g (pc + 3) L ((.inr (.inl (19, i))) :: st)) : V X p l e R s m args below meth c nL cells slots Q g pc L (.inr (.inl (3, i)) :: st) := v_getN (t := 3) (ci := 3) (N := 12) (k := 3) (Cn := RX3) (T := TX3) C hX.symm (zm3 hq) rfl rfl zinX3 (by decide) rfl fl_RX6_219 hd (v := (.inr (.inl (19, i)))) rfl kk
theorem gf_RX6_225 (C : Cx X p R s m args meth c cc nL RX6 cells slots) (hX : zfl X = false) {i : Nat} (hq : i < 12) (hd : decode cc pc = .ok (.getfield 225, 3)) (kk : V X p l e R s m args below meth c nL cells slots Q g (pc + 3) L ((.inl (g 1005 i 0)) :: st)) : V X p l e R s m args below meth c nL cells slots Q g pc L (.inr (.inl (5, i)) :: st) := v_getN (t := 5) (ci := 1) (N := 8) (k := 0) (Cn := RX1) (T := TX1) C hX.symm (zm5 hq) rfl rfl zinX1 (by decide) rfl fl_RX6_225 hd (v := (.inl (g 1005 i 0))) rfl kk
theorem gf_RX6_230 (C : Cx X p R s m args meth c cc nL RX6 cells slots) (hX : zfl X = false) {i : Nat} (hq : i < 12) (hd : decode cc pc = .ok (.getfield 230, 3)) (kk : V X p l e R s m args below meth c nL cells slots Q g (pc + 3) L ((.inl (g 3005 i 0)) :: st)) : V X p l e R s m args below meth c nL cells slots Q g pc L (.inr (.inl (5, i)) :: st) := v_getN (t := 5) (ci := 1) (N := 8) (k := 2) (Cn := RX1) (T := TX1) C hX.symm (zm5 hq) rfl rfl zinX1 (by decide) rfl fl_RX6_230 hd (v := (.inl (g 3005 i 0))) rfl kk
theorem gf_RX6_233 (C : Cx X p R s m args meth c cc nL RX6 cells slots) (hX : zfl X = false) {i : Nat} (hq : i < 12) (hd : decode cc pc = .ok (.getfield 233, 3)) (kk : V X p l e R s m args below meth c nL cells slots Q g (pc + 3) L ((.inl (g 4005 i 0)) :: st)) : V X p l e R s m args below meth c nL cells slots Q g pc L (.inr (.inl (5, i)) :: st) := v_getN (t := 5) (ci := 1) (N := 8) (k := 3) (Cn := RX1) (T := TX1) C hX.symm (zm5 hq) rfl rfl zinX1 (by decide) rfl fl_RX6_233 hd (v := (.inl (g 4005 i 0))) rfl kk
theorem gf_RX6_236 (C : Cx X p R s m args meth c cc nL RX6 cells slots) (hX : zfl X = false) {i : Nat} (hq : i < 12) (hd : decode cc pc = .ok (.getfield 236, 3)) (kk : V X p l e R s m args below meth c nL cells slots Q g (pc + 3) L ((.inl (g 5005 i 0)) :: st)) : V X p l e R s m args below meth c nL cells slots Q g pc L (.inr (.inl (5, i)) :: st) := v_getN (t := 5) (ci := 1) (N := 8) (k := 4) (Cn := RX1) (T := TX1) C hX.symm (zm5 hq) rfl rfl zinX1 (by decide) rfl fl_RX6_236 hd (v := (.inl (g 5005 i 0))) rfl kk
theorem gf_RX6_239 (C : Cx X p R s m args meth c cc nL RX6 cells slots) (hX : zfl X = false) {i : Nat} (hq : i < 12) (hd : decode cc pc = .ok (.getfield 239, 3)) (kk : V X p l e R s m args below meth c nL cells slots Q g (pc + 3) L ((.inl (g 6005 i 0)) :: st)) : V X p l e R s m args below meth c nL cells slots Q g pc L (.inr (.inl (5, i)) :: st) := v_getN (t := 5) (ci := 1) (N := 8) (k := 5) (Cn := RX1) (T := TX1) C hX.symm (zm5 hq) rfl rfl zinX1 (by decide) rfl fl_RX6_239 hd (v := (.inl (g 6005 i 0))) rfl kk
theorem gf_RX6_242 (C : Cx X p R s m args meth c cc nL RX6 cells slots) (hX : zfl X = false) {i : Nat} (hq : i < 12) (hd : decode cc pc = .ok (.getfield 242, 3)) (kk : V X p l e R s m args below meth c nL cells slots Q g (pc + 3) L ((.inl (g 7005 i 0)) :: st)) : V X p l e R s m args below meth c nL cells slots Q g pc L (.inr (.inl (5, i)) :: st) := v_getN (t := 5) (ci := 1) (N := 8) (k := 6) (Cn := RX1) (T := TX1) C hX.symm (zm5 hq) rfl rfl zinX1 (by decide) rfl fl_RX6_242 hd (v := (.inl (g 7005 i 0))) rfl kk
theorem gf_RX6_245 (C : Cx X p R s m args meth c cc nL RX6 cells slots) (hX : zfl X = false) {i : Nat} (hq : i < 2) (hd : decode cc pc = .ok (.getfield 245, 3)) (kk : V X p l e R s m args below meth c nL cells slots Q g (pc + 3) L ((.inr (.inl (11, i))) :: st)) : V X p l e R s m args below meth c nL cells slots Q g pc L (.inr (.inl (1, i)) :: st) := v_getN (t := 1) (ci := 2) (N := 13) (k := 7) (Cn := RX2) (T := TX2) C hX.symm (zm1 hq) rfl rfl zinX2 (by decide) rfl fl_RX6_245 hd (v := (.inr (.inl (11, i)))) rfl kk
theorem gf_RX6_248 (C : Cx X p R s m args meth c cc nL RX6 cells slots) (hX : zfl X = false) {i : Nat} (hq : i < 12) (hd : decode cc pc = .ok (.getfield 248, 3)) (kk : V X p l e R s m args below meth c nL cells slots Q g (pc + 3) L ((.inr (.inl (28, i))) :: st)) : V X p l e R s m args below meth c nL cells slots Q g pc L (.inr (.inl (5, i)) :: st) := v_getN (t := 5) (ci := 1) (N := 8) (k := 7) (Cn := RX1) (T := TX1) C hX.symm (zm5 hq) rfl rfl zinX1 (by decide) rfl fl_RX6_248 hd (v := (.inr (.inl (28, i)))) rfl kk
theorem gf_RX6_254 (C : Cx X p R s m args meth c cc nL RX6 cells slots) (hX : zfl X = false) {i : Nat} (hq : i < 3) (hd : decode cc pc = .ok (.getfield 254, 3)) (kk : V X p l e R s m args below meth c nL cells slots Q g (pc + 3) L ((.inl (g 9003 i 0)) :: st)) : V X p l e R s m args below meth c nL cells slots Q g pc L (.inr (.inl (3, i)) :: st) := v_getN (t := 3) (ci := 3) (N := 12) (k := 8) (Cn := RX3) (T := TX3) C hX.symm (zm3 hq) rfl rfl zinX3 (by decide) rfl fl_RX6_254 hd (v := (.inl (g 9003 i 0))) rfl kk
theorem gf_RX6_261 (C : Cx X p R s m args meth c cc nL RX6 cells slots) (hX : zfl X = false) {i : Nat} (hq : i < 3) (hd : decode cc pc = .ok (.getfield 261, 3)) (kk : V X p l e R s m args below meth c nL cells slots Q g (pc + 3) L ((.inl (g 12003 i 0)) :: st)) : V X p l e R s m args below meth c nL cells slots Q g pc L (.inr (.inl (3, i)) :: st) := v_getN (t := 3) (ci := 3) (N := 12) (k := 11) (Cn := RX3) (T := TX3) C hX.symm (zm3 hq) rfl rfl zinX3 (by decide) rfl fl_RX6_261 hd (v := (.inl (g 12003 i 0))) rfl kk
theorem gf_RX6_287 (C : Cx X p R s m args meth c cc nL RX6 cells slots) (hX : zfl X = false) (hd : decode cc pc = .ok (.getfield 287, 3)) (kk : V X p l e R s m args below meth c nL cells slots Q g (pc + 3) L ((.inl (g 6006 0 0)) :: st)) : V X p l e R s m args below meth c nL cells slots Q g pc L (.inr (.inl (6, 0)) :: st) := v_getN (t := 6) (ci := 4) (N := 6) (k := 5) (Cn := RX4) (T := TX4) C hX.symm zm6 rfl rfl zinX4 (by decide) rfl fl_RX6_287 hd (v := (.inl (g 6006 0 0))) rfl kk
theorem gf_RX6_293 (C : Cx X p R s m args meth c cc nL RX6 cells slots) (hX : zfl X = false) {i : Nat} (hq : i < 2) (hd : decode cc pc = .ok (.getfield 293, 3)) (kk : V X p l e R s m args below meth c nL cells slots Q g (pc + 3) L ((.inl (g 7001 i 0)) :: st)) : V X p l e R s m args below meth c nL cells slots Q g pc L (.inr (.inl (1, i)) :: st) := v_getN (t := 1) (ci := 2) (N := 13) (k := 6) (Cn := RX2) (T := TX2) C hX.symm (zm1 hq) rfl rfl zinX2 (by decide) rfl fl_RX6_293 hd (v := (.inl (g 7001 i 0))) rfl kk
theorem gf_RX0_9 (C : Cx X p R s m args meth c cc nL RX0 cells slots) (hX : zfl X = false) {i : Nat} (hq : i < 12) (hd : decode cc pc = .ok (.getfield 9, 3)) (kk : V X p l e R s m args below meth c nL cells slots Q g (pc + 3) L ((.inr (.inl (22, i))) :: st)) : V X p l e R s m args below meth c nL cells slots Q g pc L (.inr (.inl (4, i)) :: st) := v_get (t := 4) (ci := 0) (N := 7) (k := 1) (Cn := RX0) (T := TX0) C hX.symm (zm4 hq) rfl rfl zinX0 (by decide) rfl fl_RX0_9 hd (v := (.inr (.inl (22, i)))) rfl kk
theorem gf_RX0_15 (C : Cx X p R s m args meth c cc nL RX0 cells slots) (hX : zfl X = false) {i : Nat} (hq : i < 12) (hd : decode cc pc = .ok (.getfield 15, 3)) (kk : V X p l e R s m args below meth c nL cells slots Q g (pc + 3) L ((.inr (.inl (23, i))) :: st)) : V X p l e R s m args below meth c nL cells slots Q g pc L (.inr (.inl (4, i)) :: st) := v_get (t := 4) (ci := 0) (N := 7) (k := 2) (Cn := RX0) (T := TX0) C hX.symm (zm4 hq) rfl rfl zinX0 (by decide) rfl fl_RX0_15 hd (v := (.inr (.inl (23, i)))) rfl kk
theorem gf_RX0_18 (C : Cx X p R s m args meth c cc nL RX0 cells slots) (hX : zfl X = false) {i : Nat} (hq : i < 12) (hd : decode cc pc = .ok (.getfield 18, 3)) (kk : V X p l e R s m args below meth c nL cells slots Q g (pc + 3) L ((.inr (.inl (24, i))) :: st)) : V X p l e R s m args below meth c nL cells slots Q g pc L (.inr (.inl (4, i)) :: st) := v_get (t := 4) (ci := 0) (N := 7) (k := 3) (Cn := RX0) (T := TX0) C hX.symm (zm4 hq) rfl rfl zinX0 (by decide) rfl fl_RX0_18 hd (v := (.inr (.inl (24, i)))) rfl kk
theorem gf_RX0_22 (C : Cx X p R s m args meth c cc nL RX0 cells slots) (hX : zfl X = false) {i : Nat} (hq : i < 12) (hd : decode cc pc = .ok (.getfield 22, 3)) (kk : V X p l e R s m args below meth c nL cells slots Q g (pc + 3) L ((.inr (.inl (25, i))) :: st)) : V X p l e R s m args below meth c nL cells slots Q g pc L (.inr (.inl (4, i)) :: st) := v_get (t := 4) (ci := 0) (N := 7) (k := 4) (Cn := RX0) (T := TX0) C hX.symm (zm4 hq) rfl rfl zinX0 (by decide) rfl fl_RX0_22 hd (v := (.inr (.inl (25, i)))) rfl kk
theorem gf_RX0_25 (C : Cx X p R s m args meth c cc nL RX0 cells slots) (hX : zfl X = false) {i : Nat} (hq : i < 12) (hd : decode cc pc = .ok (.getfield 25, 3)) (kk : V X p l e R s m args below meth c nL cells slots Q g (pc + 3) L ((.inr (.inl (26, i))) :: st)) : V X p l e R s m args below meth c nL cells slots Q g pc L (.inr (.inl (4, i)) :: st) := v_get (t := 4) (ci := 0) (N := 7) (k := 5) (Cn := RX0) (T := TX0) C hX.symm (zm4 hq) rfl rfl zinX0 (by decide) rfl fl_RX0_25 hd (v := (.inr (.inl (26, i)))) rfl kk
theorem gf_RX0_28 (C : Cx X p R s m args meth c cc nL RX0 cells slots) (hX : zfl X = false) {i : Nat} (hq : i < 12) (hd : decode cc pc = .ok (.getfield 28, 3)) (kk : V X p l e R s m args below meth c nL cells slots Q g (pc + 3) L ((.inr (.inl (27, i))) :: st)) : V X p l e R s m args below meth c nL cells slots Q g pc L (.inr (.inl (4, i)) :: st) := v_get (t := 4) (ci := 0) (N := 7) (k := 6) (Cn := RX0) (T := TX0) C hX.symm (zm4 hq) rfl rfl zinX0 (by decide) rfl fl_RX0_28 hd (v := (.inr (.inl (27, i)))) rfl kk
theorem gf_RX0_31 (C : Cx X p R s m args meth c cc nL RX0 cells slots) (hX : zfl X = false) {i : Nat} (hq : i < 12) (hd : decode cc pc = .ok (.getfield 31, 3)) (kk : V X p l e R s m args below meth c nL cells slots Q g (pc + 3) L ((.inr (.inl (1, 0))) :: st)) : V X p l e R s m args below meth c nL cells slots Q g pc L (.inr (.inl (4, i)) :: st) := v_get (t := 4) (ci := 0) (N := 7) (k := 0) (Cn := RX0) (T := TX0) C hX.symm (zm4 hq) rfl rfl zinX0 (by decide) rfl fl_RX0_31 hd (v := (.inr (.inl (1, 0)))) rfl kk
theorem gf_RX0_51 (C : Cx X p R s m args meth c cc nL RX0 cells slots) (hX : zfl X = false) {i : Nat} (hq : i < 2) (hd : decode cc pc = .ok (.getfield 51, 3)) (kk : V X p l e R s m args below meth c nL cells slots Q g (pc + 3) L ((.inl (g 2001 i 0)) :: st)) : V X p l e R s m args below meth c nL cells slots Q g pc L (.inr (.inl (1, i)) :: st) := v_getN (t := 1) (ci := 2) (N := 13) (k := 1) (Cn := RX2) (T := TX2) C hX.symm (zm1 hq) rfl rfl zinX2 (by decide) rfl fl_RX0_51 hd (v := (.inl (g 2001 i 0))) rfl kk
theorem gf_RX1_9 (C : Cx X p R s m args meth c cc nL RX1 cells slots) (hX : zfl X = false) {i : Nat} (hq : i < 12) (hd : decode cc pc = .ok (.getfield 9, 3)) (kk : V X p l e R s m args below meth c nL cells slots Q g (pc + 3) L ((.inr (.inl (28, i))) :: st)) : V X p l e R s m args below meth c nL cells slots Q g pc L (.inr (.inl (5, i)) :: st) := v_get (t := 5) (ci := 1) (N := 8) (k := 7) (Cn := RX1) (T := TX1) C hX.symm (zm5 hq) rfl rfl zinX1 (by decide) rfl fl_RX1_9 hd (v := (.inr (.inl (28, i)))) rfl kk
theorem gf_RX1_15 (C : Cx X p R s m args meth c cc nL RX1 cells slots) (hX : zfl X = false) {i : Nat} (hq : i < 12) (hd : decode cc pc = .ok (.getfield 15, 3)) (kk : V X p l e R s m args below meth c nL cells slots Q g (pc + 3) L ((.inl (g 1005 i 0)) :: st)) : V X p l e R s m args below meth c nL cells slots Q g pc L (.inr (.inl (5, i)) :: st) := v_get (t := 5) (ci := 1) (N := 8) (k := 0) (Cn := RX1) (T := TX1) C hX.symm (zm5 hq) rfl rfl zinX1 (by decide) rfl fl_RX1_15 hd (v := (.inl (g 1005 i 0))) rfl kk
theorem pf_RX1_15 (C : Cx X p R s m args meth c cc nL RX1 cells slots) (hX : zfl X = false) {i : Nat} (hq : i < 12) {x : Int32} (hd : decode cc pc = .ok (.putfield 15, 3)) {K : zG → zR0} (hM : zw g 1005 i 0 x K = some res) (kk : ∀ g1, K g1 = some res → V X p l e R s m args below meth c nL cells slots Q g1 (pc + 3) L st) : V X p l e R s m args below meth c nL cells slots Q g pc L (.inl x :: .inr (.inl (5, i)) :: st) := v_put (t := 5) (ci := 1) (N := 8) (k := 0) (Cn := RX1) (T := TX1) C tyX1 tyX1_ok nmX1 hX.symm (zm5 hq) rfl rfl zinX1 (by decide) rfl fl_RX1_15 rfl rfl rfl rfl hd (kk _ hM)
theorem gf_RX1_19 (C : Cx X p R s m args meth c cc nL RX1 cells slots) (hX : zfl X = false) {i : Nat} (hq : i < 12) (hd : decode cc pc = .ok (.getfield 19, 3)) (kk : V X p l e R s m args below meth c nL cells slots Q g (pc + 3) L ((.inl (g 2005 i 0)) :: st)) : V X p l e R s m args below meth c nL cells slots Q g pc L (.inr (.inl (5, i)) :: st) := v_get (t := 5) (ci := 1) (N := 8) (k := 1) (Cn := RX1) (T := TX1) C hX.symm (zm5 hq) rfl rfl zinX1 (by decide) rfl fl_RX1_19 hd (v := (.inl (g 2005 i 0))) rfl kk
theorem pf_RX1_19 (C : Cx X p R s m args meth c cc nL RX1 cells slots) (hX : zfl X = false) {i : Nat} (hq : i < 12) {x : Int32} (hd : decode cc pc = .ok (.putfield 19, 3)) {K : zG → zR0} (hM : zw g 2005 i 0 x K = some res) (kk : ∀ g1, K g1 = some res → V X p l e R s m args below meth c nL cells slots Q g1 (pc + 3) L st) : V X p l e R s m args below meth c nL cells slots Q g pc L (.inl x :: .inr (.inl (5, i)) :: st) := v_put (t := 5) (ci := 1) (N := 8) (k := 1) (Cn := RX1) (T := TX1) C tyX1 tyX1_ok nmX1 hX.symm (zm5 hq) rfl rfl zinX1 (by decide) rfl fl_RX1_19 rfl rfl rfl rfl hd (kk _ hM)
theorem gf_RX1_22 (C : Cx X p R s m args meth c cc nL RX1 cells slots) (hX : zfl X = false) {i : Nat} (hq : i < 12) (hd : decode cc pc = .ok (.getfield 22, 3)) (kk : V X p l e R s m args below meth c nL cells slots Q g (pc + 3) L ((.inl (g 3005 i 0)) :: st)) : V X p l e R s m args below meth c nL cells slots Q g pc L (.inr (.inl (5, i)) :: st) := v_get (t := 5) (ci := 1) (N := 8) (k := 2) (Cn := RX1) (T := TX1) C hX.symm (zm5 hq) rfl rfl zinX1 (by decide) rfl fl_RX1_22 hd (v := (.inl (g 3005 i 0))) rfl kk
theorem pf_RX1_22 (C : Cx X p R s m args meth c cc nL RX1 cells slots) (hX : zfl X = false) {i : Nat} (hq : i < 12) {x : Int32} (hd : decode cc pc = .ok (.putfield 22, 3)) {K : zG → zR0} (hM : zw g 3005 i 0 x K = some res) (kk : ∀ g1, K g1 = some res → V X p l e R s m args below meth c nL cells slots Q g1 (pc + 3) L st) : V X p l e R s m args below meth c nL cells slots Q g pc L (.inl x :: .inr (.inl (5, i)) :: st) := v_put (t := 5) (ci := 1) (N := 8) (k := 2) (Cn := RX1) (T := TX1) C tyX1 tyX1_ok nmX1 hX.symm (zm5 hq) rfl rfl zinX1 (by decide) rfl fl_RX1_22 rfl rfl rfl rfl hd (kk _ hM)
theorem gf_RX1_25 (C : Cx X p R s m args meth c cc nL RX1 cells slots) (hX : zfl X = false) {i : Nat} (hq : i < 12) (hd : decode cc pc = .ok (.getfield 25, 3)) (kk : V X p l e R s m args below meth c nL cells slots Q g (pc + 3) L ((.inl (g 4005 i 0)) :: st)) : V X p l e R s m args below meth c nL cells slots Q g pc L (.inr (.inl (5, i)) :: st) := v_get (t := 5) (ci := 1) (N := 8) (k := 3) (Cn := RX1) (T := TX1) C hX.symm (zm5 hq) rfl rfl zinX1 (by decide) rfl fl_RX1_25 hd (v := (.inl (g 4005 i 0))) rfl kk
theorem pf_RX1_25 (C : Cx X p R s m args meth c cc nL RX1 cells slots) (hX : zfl X = false) {i : Nat} (hq : i < 12) {x : Int32} (hd : decode cc pc = .ok (.putfield 25, 3)) {K : zG → zR0} (hM : zw g 4005 i 0 x K = some res) (kk : ∀ g1, K g1 = some res → V X p l e R s m args below meth c nL cells slots Q g1 (pc + 3) L st) : V X p l e R s m args below meth c nL cells slots Q g pc L (.inl x :: .inr (.inl (5, i)) :: st) := v_put (t := 5) (ci := 1) (N := 8) (k := 3) (Cn := RX1) (T := TX1) C tyX1 tyX1_ok nmX1 hX.symm (zm5 hq) rfl rfl zinX1 (by decide) rfl fl_RX1_25 rfl rfl rfl rfl hd (kk _ hM)
theorem gf_RX1_28 (C : Cx X p R s m args meth c cc nL RX1 cells slots) (hX : zfl X = false) {i : Nat} (hq : i < 12) (hd : decode cc pc = .ok (.getfield 28, 3)) (kk : V X p l e R s m args below meth c nL cells slots Q g (pc + 3) L ((.inl (g 5005 i 0)) :: st)) : V X p l e R s m args below meth c nL cells slots Q g pc L (.inr (.inl (5, i)) :: st) := v_get (t := 5) (ci := 1) (N := 8) (k := 4) (Cn := RX1) (T := TX1) C hX.symm (zm5 hq) rfl rfl zinX1 (by decide) rfl fl_RX1_28 hd (v := (.inl (g 5005 i 0))) rfl kk
theorem pf_RX1_28 (C : Cx X p R s m args meth c cc nL RX1 cells slots) (hX : zfl X = false) {i : Nat} (hq : i < 12) {x : Int32} (hd : decode cc pc = .ok (.putfield 28, 3)) {K : zG → zR0} (hM : zw g 5005 i 0 x K = some res) (kk : ∀ g1, K g1 = some res → V X p l e R s m args below meth c nL cells slots Q g1 (pc + 3) L st) : V X p l e R s m args below meth c nL cells slots Q g pc L (.inl x :: .inr (.inl (5, i)) :: st) := v_put (t := 5) (ci := 1) (N := 8) (k := 4) (Cn := RX1) (T := TX1) C tyX1 tyX1_ok nmX1 hX.symm (zm5 hq) rfl rfl zinX1 (by decide) rfl fl_RX1_28 rfl rfl rfl rfl hd (kk _ hM)
theorem gf_RX1_31 (C : Cx X p R s m args meth c cc nL RX1 cells slots) (hX : zfl X = false) {i : Nat} (hq : i < 12) (hd : decode cc pc = .ok (.getfield 31, 3)) (kk : V X p l e R s m args below meth c nL cells slots Q g (pc + 3) L ((.inl (g 6005 i 0)) :: st)) : V X p l e R s m args below meth c nL cells slots Q g pc L (.inr (.inl (5, i)) :: st) := v_get (t := 5) (ci := 1) (N := 8) (k := 5) (Cn := RX1) (T := TX1) C hX.symm (zm5 hq) rfl rfl zinX1 (by decide) rfl fl_RX1_31 hd (v := (.inl (g 6005 i 0))) rfl kk
theorem pf_RX1_31 (C : Cx X p R s m args meth c cc nL RX1 cells slots) (hX : zfl X = false) {i : Nat} (hq : i < 12) {x : Int32} (hd : decode cc pc = .ok (.putfield 31, 3)) {K : zG → zR0} (hM : zw g 6005 i 0 x K = some res) (kk : ∀ g1, K g1 = some res → V X p l e R s m args below meth c nL cells slots Q g1 (pc + 3) L st) : V X p l e R s m args below meth c nL cells slots Q g pc L (.inl x :: .inr (.inl (5, i)) :: st) := v_put (t := 5) (ci := 1) (N := 8) (k := 5) (Cn := RX1) (T := TX1) C tyX1 tyX1_ok nmX1 hX.symm (zm5 hq) rfl rfl zinX1 (by decide) rfl fl_RX1_31 rfl rfl rfl rfl hd (kk _ hM)
theorem gf_RX1_34 (C : Cx X p R s m args meth c cc nL RX1 cells slots) (hX : zfl X = false) {i : Nat} (hq : i < 12) (hd : decode cc pc = .ok (.getfield 34, 3)) (kk : V X p l e R s m args below meth c nL cells slots Q g (pc + 3) L ((.inl (g 7005 i 0)) :: st)) : V X p l e R s m args below meth c nL cells slots Q g pc L (.inr (.inl (5, i)) :: st) := v_get (t := 5) (ci := 1) (N := 8) (k := 6) (Cn := RX1) (T := TX1) C hX.symm (zm5 hq) rfl rfl zinX1 (by decide) rfl fl_RX1_34 hd (v := (.inl (g 7005 i 0))) rfl kk
theorem pf_RX1_34 (C : Cx X p R s m args meth c cc nL RX1 cells slots) (hX : zfl X = false) {i : Nat} (hq : i < 12) {x : Int32} (hd : decode cc pc = .ok (.putfield 34, 3)) {K : zG → zR0} (hM : zw g 7005 i 0 x K = some res) (kk : ∀ g1, K g1 = some res → V X p l e R s m args below meth c nL cells slots Q g1 (pc + 3) L st) : V X p l e R s m args below meth c nL cells slots Q g pc L (.inl x :: .inr (.inl (5, i)) :: st) := v_put (t := 5) (ci := 1) (N := 8) (k := 6) (Cn := RX1) (T := TX1) C tyX1 tyX1_ok nmX1 hX.symm (zm5 hq) rfl rfl zinX1 (by decide) rfl fl_RX1_34 rfl rfl rfl rfl hd (kk _ hM)
theorem gf_RX2_9 (C : Cx X p R s m args meth c cc nL RX2 cells slots) (hX : zfl X = false) {i : Nat} (hq : i < 2) (hd : decode cc pc = .ok (.getfield 9, 3)) (kk : V X p l e R s m args below meth c nL cells slots Q g (pc + 3) L ((.inr (.inl (11, i))) :: st)) : V X p l e R s m args below meth c nL cells slots Q g pc L (.inr (.inl (1, i)) :: st) := v_get (t := 1) (ci := 2) (N := 13) (k := 7) (Cn := RX2) (T := TX2) C hX.symm (zm1 hq) rfl rfl zinX2 (by decide) rfl fl_RX2_9 hd (v := (.inr (.inl (11, i)))) rfl kk
theorem gf_RX2_15 (C : Cx X p R s m args meth c cc nL RX2 cells slots) (hX : zfl X = false) {i : Nat} (hq : i < 2) (hd : decode cc pc = .ok (.getfield 15, 3)) (kk : V X p l e R s m args below meth c nL cells slots Q g (pc + 3) L ((.inr (.inl (12, i))) :: st)) : V X p l e R s m args below meth c nL cells slots Q g pc L (.inr (.inl (1, i)) :: st) := v_get (t := 1) (ci := 2) (N := 13) (k := 8) (Cn := RX2) (T := TX2) C hX.symm (zm1 hq) rfl rfl zinX2 (by decide) rfl fl_RX2_15 hd (v := (.inr (.inl (12, i)))) rfl kk
theorem gf_RX2_18 (C : Cx X p R s m args meth c cc nL RX2 cells slots) (hX : zfl X = false) {i : Nat} (hq : i < 2) (hd : decode cc pc = .ok (.getfield 18, 3)) (kk : V X p l e R s m args below meth c nL cells slots Q g (pc + 3) L ((.inr (.inl (13, i))) :: st)) : V X p l e R s m args below meth c nL cells slots Q g pc L (.inr (.inl (1, i)) :: st) := v_get (t := 1) (ci := 2) (N := 13) (k := 9) (Cn := RX2) (T := TX2) C hX.symm (zm1 hq) rfl rfl zinX2 (by decide) rfl fl_RX2_18 hd (v := (.inr (.inl (13, i)))) rfl kk
theorem gf_RX2_21 (C : Cx X p R s m args meth c cc nL RX2 cells slots) (hX : zfl X = false) {i : Nat} (hq : i < 2) (hd : decode cc pc = .ok (.getfield 21, 3)) (kk : V X p l e R s m args below meth c nL cells slots Q g (pc + 3) L ((.inr (.inl (14, i))) :: st)) : V X p l e R s m args below meth c nL cells slots Q g pc L (.inr (.inl (1, i)) :: st) := v_get (t := 1) (ci := 2) (N := 13) (k := 10) (Cn := RX2) (T := TX2) C hX.symm (zm1 hq) rfl rfl zinX2 (by decide) rfl fl_RX2_21 hd (v := (.inr (.inl (14, i)))) rfl kk
theorem gf_RX2_25 (C : Cx X p R s m args meth c cc nL RX2 cells slots) (hX : zfl X = false) {i : Nat} (hq : i < 2) (hd : decode cc pc = .ok (.getfield 25, 3)) (kk : V X p l e R s m args below meth c nL cells slots Q g (pc + 3) L ((.inr (.inl (15, i))) :: st)) : V X p l e R s m args below meth c nL cells slots Q g pc L (.inr (.inl (1, i)) :: st) := v_get (t := 1) (ci := 2) (N := 13) (k := 11) (Cn := RX2) (T := TX2) C hX.symm (zm1 hq) rfl rfl zinX2 (by decide) rfl fl_RX2_25 hd (v := (.inr (.inl (15, i)))) rfl kk
theorem gf_RX2_28 (C : Cx X p R s m args meth c cc nL RX2 cells slots) (hX : zfl X = false) {i : Nat} (hq : i < 2) (hd : decode cc pc = .ok (.getfield 28, 3)) (kk : V X p l e R s m args below meth c nL cells slots Q g (pc + 3) L ((.inr (.inl (16, i))) :: st)) : V X p l e R s m args below meth c nL cells slots Q g pc L (.inr (.inl (1, i)) :: st) := v_get (t := 1) (ci := 2) (N := 13) (k := 12) (Cn := RX2) (T := TX2) C hX.symm (zm1 hq) rfl rfl zinX2 (by decide) rfl fl_RX2_28 hd (v := (.inr (.inl (16, i)))) rfl kk
theorem gf_RX2_31 (C : Cx X p R s m args meth c cc nL RX2 cells slots) (hX : zfl X = false) {i : Nat} (hq : i < 2) (hd : decode cc pc = .ok (.getfield 31, 3)) (kk : V X p l e R s m args below meth c nL cells slots Q g (pc + 3) L ((.inl (g 1001 i 0)) :: st)) : V X p l e R s m args below meth c nL cells slots Q g pc L (.inr (.inl (1, i)) :: st) := v_get (t := 1) (ci := 2) (N := 13) (k := 0) (Cn := RX2) (T := TX2) C hX.symm (zm1 hq) rfl rfl zinX2 (by decide) rfl fl_RX2_31 hd (v := (.inl (g 1001 i 0))) rfl kk
theorem pf_RX2_31 (C : Cx X p R s m args meth c cc nL RX2 cells slots) (hX : zfl X = false) {i : Nat} (hq : i < 2) {x : Int32} (hd : decode cc pc = .ok (.putfield 31, 3)) {K : zG → zR0} (hM : zw g 1001 i 0 x K = some res) (kk : ∀ g1, K g1 = some res → V X p l e R s m args below meth c nL cells slots Q g1 (pc + 3) L st) : V X p l e R s m args below meth c nL cells slots Q g pc L (.inl x :: .inr (.inl (1, i)) :: st) := v_put (t := 1) (ci := 2) (N := 13) (k := 0) (Cn := RX2) (T := TX2) C tyX2 tyX2_ok nmX2 hX.symm (zm1 hq) rfl rfl zinX2 (by decide) rfl fl_RX2_31 rfl rfl rfl rfl hd (kk _ hM)
theorem gf_RX2_35 (C : Cx X p R s m args meth c cc nL RX2 cells slots) (hX : zfl X = false) {i : Nat} (hq : i < 2) (hd : decode cc pc = .ok (.getfield 35, 3)) (kk : V X p l e R s m args below meth c nL cells slots Q g (pc + 3) L ((.inl (g 2001 i 0)) :: st)) : V X p l e R s m args below meth c nL cells slots Q g pc L (.inr (.inl (1, i)) :: st) := v_get (t := 1) (ci := 2) (N := 13) (k := 1) (Cn := RX2) (T := TX2) C hX.symm (zm1 hq) rfl rfl zinX2 (by decide) rfl fl_RX2_35 hd (v := (.inl (g 2001 i 0))) rfl kk
theorem pf_RX2_35 (C : Cx X p R s m args meth c cc nL RX2 cells slots) (hX : zfl X = false) {i : Nat} (hq : i < 2) {x : Int32} (hd : decode cc pc = .ok (.putfield 35, 3)) {K : zG → zR0} (hM : zw g 2001 i 0 x K = some res) (kk : ∀ g1, K g1 = some res → V X p l e R s m args below meth c nL cells slots Q g1 (pc + 3) L st) : V X p l e R s m args below meth c nL cells slots Q g pc L (.inl x :: .inr (.inl (1, i)) :: st) := v_put (t := 1) (ci := 2) (N := 13) (k := 1) (Cn := RX2) (T := TX2) C tyX2 tyX2_ok nmX2 hX.symm (zm1 hq) rfl rfl zinX2 (by decide) rfl fl_RX2_35 rfl rfl rfl rfl hd (kk _ hM)
theorem gf_RX2_38 (C : Cx X p R s m args meth c cc nL RX2 cells slots) (hX : zfl X = false) {i : Nat} (hq : i < 2) (hd : decode cc pc = .ok (.getfield 38, 3)) (kk : V X p l e R s m args below meth c nL cells slots Q g (pc + 3) L ((.inl (g 3001 i 0)) :: st)) : V X p l e R s m args below meth c nL cells slots Q g pc L (.inr (.inl (1, i)) :: st) := v_get (t := 1) (ci := 2) (N := 13) (k := 2) (Cn := RX2) (T := TX2) C hX.symm (zm1 hq) rfl rfl zinX2 (by decide) rfl fl_RX2_38 hd (v := (.inl (g 3001 i 0))) rfl kk
theorem pf_RX2_38 (C : Cx X p R s m args meth c cc nL RX2 cells slots) (hX : zfl X = false) {i : Nat} (hq : i < 2) {x : Int32} (hd : decode cc pc = .ok (.putfield 38, 3)) {K : zG → zR0} (hM : zw g 3001 i 0 x K = some res) (kk : ∀ g1, K g1 = some res → V X p l e R s m args below meth c nL cells slots Q g1 (pc + 3) L st) : V X p l e R s m args below meth c nL cells slots Q g pc L (.inl x :: .inr (.inl (1, i)) :: st) := v_put (t := 1) (ci := 2) (N := 13) (k := 2) (Cn := RX2) (T := TX2) C tyX2 tyX2_ok nmX2 hX.symm (zm1 hq) rfl rfl zinX2 (by decide) rfl fl_RX2_38 rfl rfl rfl rfl hd (kk _ hM)
theorem gf_RX2_41 (C : Cx X p R s m args meth c cc nL RX2 cells slots) (hX : zfl X = false) {i : Nat} (hq : i < 2) (hd : decode cc pc = .ok (.getfield 41, 3)) (kk : V X p l e R s m args below meth c nL cells slots Q g (pc + 3) L ((.inl (g 4001 i 0)) :: st)) : V X p l e R s m args below meth c nL cells slots Q g pc L (.inr (.inl (1, i)) :: st) := v_get (t := 1) (ci := 2) (N := 13) (k := 3) (Cn := RX2) (T := TX2) C hX.symm (zm1 hq) rfl rfl zinX2 (by decide) rfl fl_RX2_41 hd (v := (.inl (g 4001 i 0))) rfl kk
theorem pf_RX2_41 (C : Cx X p R s m args meth c cc nL RX2 cells slots) (hX : zfl X = false) {i : Nat} (hq : i < 2) {x : Int32} (hd : decode cc pc = .ok (.putfield 41, 3)) {K : zG → zR0} (hM : zw g 4001 i 0 x K = some res) (kk : ∀ g1, K g1 = some res → V X p l e R s m args below meth c nL cells slots Q g1 (pc + 3) L st) : V X p l e R s m args below meth c nL cells slots Q g pc L (.inl x :: .inr (.inl (1, i)) :: st) := v_put (t := 1) (ci := 2) (N := 13) (k := 3) (Cn := RX2) (T := TX2) C tyX2 tyX2_ok nmX2 hX.symm (zm1 hq) rfl rfl zinX2 (by decide) rfl fl_RX2_41 rfl rfl rfl rfl hd (kk _ hM)
theorem gf_RX2_44 (C : Cx X p R s m args meth c cc nL RX2 cells slots) (hX : zfl X = false) {i : Nat} (hq : i < 2) (hd : decode cc pc = .ok (.getfield 44, 3)) (kk : V X p l e R s m args below meth c nL cells slots Q g (pc + 3) L ((.inl (g 5001 i 0)) :: st)) : V X p l e R s m args below meth c nL cells slots Q g pc L (.inr (.inl (1, i)) :: st) := v_get (t := 1) (ci := 2) (N := 13) (k := 4) (Cn := RX2) (T := TX2) C hX.symm (zm1 hq) rfl rfl zinX2 (by decide) rfl fl_RX2_44 hd (v := (.inl (g 5001 i 0))) rfl kk
theorem pf_RX2_44 (C : Cx X p R s m args meth c cc nL RX2 cells slots) (hX : zfl X = false) {i : Nat} (hq : i < 2) {x : Int32} (hd : decode cc pc = .ok (.putfield 44, 3)) {K : zG → zR0} (hM : zw g 5001 i 0 x K = some res) (kk : ∀ g1, K g1 = some res → V X p l e R s m args below meth c nL cells slots Q g1 (pc + 3) L st) : V X p l e R s m args below meth c nL cells slots Q g pc L (.inl x :: .inr (.inl (1, i)) :: st) := v_put (t := 1) (ci := 2) (N := 13) (k := 4) (Cn := RX2) (T := TX2) C tyX2 tyX2_ok nmX2 hX.symm (zm1 hq) rfl rfl zinX2 (by decide) rfl fl_RX2_44 rfl rfl rfl rfl hd (kk _ hM)
theorem gf_RX2_47 (C : Cx X p R s m args meth c cc nL RX2 cells slots) (hX : zfl X = false) {i : Nat} (hq : i < 2) (hd : decode cc pc = .ok (.getfield 47, 3)) (kk : V X p l e R s m args below meth c nL cells slots Q g (pc + 3) L ((.inl (g 6001 i 0)) :: st)) : V X p l e R s m args below meth c nL cells slots Q g pc L (.inr (.inl (1, i)) :: st) := v_get (t := 1) (ci := 2) (N := 13) (k := 5) (Cn := RX2) (T := TX2) C hX.symm (zm1 hq) rfl rfl zinX2 (by decide) rfl fl_RX2_47 hd (v := (.inl (g 6001 i 0))) rfl kk
theorem pf_RX2_47 (C : Cx X p R s m args meth c cc nL RX2 cells slots) (hX : zfl X = false) {i : Nat} (hq : i < 2) {x : Int32} (hd : decode cc pc = .ok (.putfield 47, 3)) {K : zG → zR0} (hM : zw g 6001 i 0 x K = some res) (kk : ∀ g1, K g1 = some res → V X p l e R s m args below meth c nL cells slots Q g1 (pc + 3) L st) : V X p l e R s m args below meth c nL cells slots Q g pc L (.inl x :: .inr (.inl (1, i)) :: st) := v_put (t := 1) (ci := 2) (N := 13) (k := 5) (Cn := RX2) (T := TX2) C tyX2 tyX2_ok nmX2 hX.symm (zm1 hq) rfl rfl zinX2 (by decide) rfl fl_RX2_47 rfl rfl rfl rfl hd (kk _ hM)
theorem gf_RX2_50 (C : Cx X p R s m args meth c cc nL RX2 cells slots) (hX : zfl X = false) {i : Nat} (hq : i < 2) (hd : decode cc pc = .ok (.getfield 50, 3)) (kk : V X p l e R s m args below meth c nL cells slots Q g (pc + 3) L ((.inl (g 7001 i 0)) :: st)) : V X p l e R s m args below meth c nL cells slots Q g pc L (.inr (.inl (1, i)) :: st) := v_get (t := 1) (ci := 2) (N := 13) (k := 6) (Cn := RX2) (T := TX2) C hX.symm (zm1 hq) rfl rfl zinX2 (by decide) rfl fl_RX2_50 hd (v := (.inl (g 7001 i 0))) rfl kk
theorem pf_RX2_50 (C : Cx X p R s m args meth c cc nL RX2 cells slots) (hX : zfl X = false) {i : Nat} (hq : i < 2) {x : Int32} (hd : decode cc pc = .ok (.putfield 50, 3)) {K : zG → zR0} (hM : zw g 7001 i 0 x K = some res) (kk : ∀ g1, K g1 = some res → V X p l e R s m args below meth c nL cells slots Q g1 (pc + 3) L st) : V X p l e R s m args below meth c nL cells slots Q g pc L (.inl x :: .inr (.inl (1, i)) :: st) := v_put (t := 1) (ci := 2) (N := 13) (k := 6) (Cn := RX2) (T := TX2) C tyX2 tyX2_ok nmX2 hX.symm (zm1 hq) rfl rfl zinX2 (by decide) rfl fl_RX2_50 rfl rfl rfl rfl hd (kk _ hM)
theorem gf_RX3_9 (C : Cx X p R s m args meth c cc nL RX3 cells slots) (hX : zfl X = false) {i : Nat} (hq : i < 3) (hd : decode cc pc = .ok (.getfield 9, 3)) (kk : V X p l e R s m args below meth c nL cells slots Q g (pc + 3) L ((.inr (.inl (17, i))) :: st)) : V X p l e R s m args below meth c nL cells slots Q g pc L (.inr (.inl (3, i)) :: st) := v_get (t := 3) (ci := 3) (N := 12) (k := 1) (Cn := RX3) (T := TX3) C hX.symm (zm3 hq) rfl rfl zinX3 (by decide) rfl fl_RX3_9 hd (v := (.inr (.inl (17, i)))) rfl kk
theorem gf_RX3_17 (C : Cx X p R s m args meth c cc nL RX3 cells slots) (hX : zfl X = false) {i : Nat} (hq : i < 3) (hd : decode cc pc = .ok (.getfield 17, 3)) (kk : V X p l e R s m args below meth c nL cells slots Q g (pc + 3) L ((.inr (.inl (18, i))) :: st)) : V X p l e R s m args below meth c nL cells slots Q g pc L (.inr (.inl (3, i)) :: st) := v_get (t := 3) (ci := 3) (N := 12) (k := 2) (Cn := RX3) (T := TX3) C hX.symm (zm3 hq) rfl rfl zinX3 (by decide) rfl fl_RX3_17 hd (v := (.inr (.inl (18, i)))) rfl kk
theorem gf_RX3_23 (C : Cx X p R s m args meth c cc nL RX3 cells slots) (hX : zfl X = false) {i : Nat} (hq : i < 3) (hd : decode cc pc = .ok (.getfield 23, 3)) (kk : V X p l e R s m args below meth c nL cells slots Q g (pc + 3) L ((.inr (.inl (19, i))) :: st)) : V X p l e R s m args below meth c nL cells slots Q g pc L (.inr (.inl (3, i)) :: st) := v_get (t := 3) (ci := 3) (N := 12) (k := 3) (Cn := RX3) (T := TX3) C hX.symm (zm3 hq) rfl rfl zinX3 (by decide) rfl fl_RX3_23 hd (v := (.inr (.inl (19, i)))) rfl kk
theorem gf_RX3_27 (C : Cx X p R s m args meth c cc nL RX3 cells slots) (hX : zfl X = false) {i : Nat} (hq : i < 3) (hd : decode cc pc = .ok (.getfield 27, 3)) (kk : V X p l e R s m args below meth c nL cells slots Q g (pc + 3) L ((.inr (.inl (20, i))) :: st)) : V X p l e R s m args below meth c nL cells slots Q g pc L (.inr (.inl (3, i)) :: st) := v_get (t := 3) (ci := 3) (N := 12) (k := 4) (Cn := RX3) (T := TX3) C hX.symm (zm3 hq) rfl rfl zinX3 (by decide) rfl fl_RX3_27 hd (v := (.inr (.inl (20, i)))) rfl kk
theorem gf_RX3_30 (C : Cx X p R s m args meth c cc nL RX3 cells slots) (hX : zfl X = false) {i : Nat} (hq : i < 3) (hd : decode cc pc = .ok (.getfield 30, 3)) (kk : V X p l e R s m args below meth c nL cells slots Q g (pc + 3) L ((.inr (.inl (21, i))) :: st)) : V X p l e R s m args below meth c nL cells slots Q g pc L (.inr (.inl (3, i)) :: st) := v_get (t := 3) (ci := 3) (N := 12) (k := 5) (Cn := RX3) (T := TX3) C hX.symm (zm3 hq) rfl rfl zinX3 (by decide) rfl fl_RX3_30 hd (v := (.inr (.inl (21, i)))) rfl kk
theorem gf_RX3_33 (C : Cx X p R s m args meth c cc nL RX3 cells slots) (hX : zfl X = false) {i : Nat} (hq : i < 3) (hd : decode cc pc = .ok (.getfield 33, 3)) (kk : V X p l e R s m args below meth c nL cells slots Q g (pc + 3) L ((.inr (.inl (1, 0))) :: st)) : V X p l e R s m args below meth c nL cells slots Q g pc L (.inr (.inl (3, i)) :: st) := v_get (t := 3) (ci := 3) (N := 12) (k := 0) (Cn := RX3) (T := TX3) C hX.symm (zm3 hq) rfl rfl zinX3 (by decide) rfl fl_RX3_33 hd (v := (.inr (.inl (1, 0)))) rfl kk
theorem gf_RX3_41 (C : Cx X p R s m args meth c cc nL RX3 cells slots) (hX : zfl X = false) {i : Nat} (hq : i < 3) (hd : decode cc pc = .ok (.getfield 41, 3)) (kk : V X p l e R s m args below meth c nL cells slots Q g (pc + 3) L ((.inl (g 8003 i 0)) :: st)) : V X p l e R s m args below meth c nL cells slots Q g pc L (.inr (.inl (3, i)) :: st) := v_get (t := 3) (ci := 3) (N := 12) (k := 7) (Cn := RX3) (T := TX3) C hX.symm (zm3 hq) rfl rfl zinX3 (by decide) rfl fl_RX3_41 hd (v := (.inl (g 8003 i 0))) rfl kk
theorem pf_RX3_41 (C : Cx X p R s m args meth c cc nL RX3 cells slots) (hX : zfl X = false) {i : Nat} (hq : i < 3) {x : Int32} (hd : decode cc pc = .ok (.putfield 41, 3)) {K : zG → zR0} (hM : zw g 8003 i 0 x K = some res) (kk : ∀ g1, K g1 = some res → V X p l e R s m args below meth c nL cells slots Q g1 (pc + 3) L st) : V X p l e R s m args below meth c nL cells slots Q g pc L (.inl x :: .inr (.inl (3, i)) :: st) := v_put (t := 3) (ci := 3) (N := 12) (k := 7) (Cn := RX3) (T := TX3) C tyX3 tyX3_ok nmX3 hX.symm (zm3 hq) rfl rfl zinX3 (by decide) rfl fl_RX3_41 rfl rfl rfl rfl hd (kk _ hM)
theorem gf_RX3_45 (C : Cx X p R s m args meth c cc nL RX3 cells slots) (hX : zfl X = false) {i : Nat} (hq : i < 3) (hd : decode cc pc = .ok (.getfield 45, 3)) (kk : V X p l e R s m args below meth c nL cells slots Q g (pc + 3) L ((.inl (g 9003 i 0)) :: st)) : V X p l e R s m args below meth c nL cells slots Q g pc L (.inr (.inl (3, i)) :: st) := v_get (t := 3) (ci := 3) (N := 12) (k := 8) (Cn := RX3) (T := TX3) C hX.symm (zm3 hq) rfl rfl zinX3 (by decide) rfl fl_RX3_45 hd (v := (.inl (g 9003 i 0))) rfl kk
theorem pf_RX3_45 (C : Cx X p R s m args meth c cc nL RX3 cells slots) (hX : zfl X = false) {i : Nat} (hq : i < 3) {x : Int32} (hd : decode cc pc = .ok (.putfield 45, 3)) {K : zG → zR0} (hM : zw g 9003 i 0 x K = some res) (kk : ∀ g1, K g1 = some res → V X p l e R s m args below meth c nL cells slots Q g1 (pc + 3) L st) : V X p l e R s m args below meth c nL cells slots Q g pc L (.inl x :: .inr (.inl (3, i)) :: st) := v_put (t := 3) (ci := 3) (N := 12) (k := 8) (Cn := RX3) (T := TX3) C tyX3 tyX3_ok nmX3 hX.symm (zm3 hq) rfl rfl zinX3 (by decide) rfl fl_RX3_45 rfl rfl rfl rfl hd (kk _ hM)
theorem gf_RX3_48 (C : Cx X p R s m args meth c cc nL RX3 cells slots) (hX : zfl X = false) {i : Nat} (hq : i < 3) (hd : decode cc pc = .ok (.getfield 48, 3)) (kk : V X p l e R s m args below meth c nL cells slots Q g (pc + 3) L ((.inl (g 7003 i 0)) :: st)) : V X p l e R s m args below meth c nL cells slots Q g pc L (.inr (.inl (3, i)) :: st) := v_get (t := 3) (ci := 3) (N := 12) (k := 6) (Cn := RX3) (T := TX3) C hX.symm (zm3 hq) rfl rfl zinX3 (by decide) rfl fl_RX3_48 hd (v := (.inl (g 7003 i 0))) rfl kk
theorem pf_RX3_48 (C : Cx X p R s m args meth c cc nL RX3 cells slots) (hX : zfl X = false) {i : Nat} (hq : i < 3) {x : Int32} (hd : decode cc pc = .ok (.putfield 48, 3)) {K : zG → zR0} (hM : zw g 7003 i 0 x K = some res) (kk : ∀ g1, K g1 = some res → V X p l e R s m args below meth c nL cells slots Q g1 (pc + 3) L st) : V X p l e R s m args below meth c nL cells slots Q g pc L (.inl x :: .inr (.inl (3, i)) :: st) := v_put (t := 3) (ci := 3) (N := 12) (k := 6) (Cn := RX3) (T := TX3) C tyX3 tyX3_ok nmX3 hX.symm (zm3 hq) rfl rfl zinX3 (by decide) rfl fl_RX3_48 rfl rfl rfl rfl hd (kk _ hM)
theorem gf_RX3_51 (C : Cx X p R s m args meth c cc nL RX3 cells slots) (hX : zfl X = false) {i : Nat} (hq : i < 3) (hd : decode cc pc = .ok (.getfield 51, 3)) (kk : V X p l e R s m args below meth c nL cells slots Q g (pc + 3) L ((.inl (g 10003 i 0)) :: st)) : V X p l e R s m args below meth c nL cells slots Q g pc L (.inr (.inl (3, i)) :: st) := v_get (t := 3) (ci := 3) (N := 12) (k := 9) (Cn := RX3) (T := TX3) C hX.symm (zm3 hq) rfl rfl zinX3 (by decide) rfl fl_RX3_51 hd (v := (.inl (g 10003 i 0))) rfl kk
theorem pf_RX3_51 (C : Cx X p R s m args meth c cc nL RX3 cells slots) (hX : zfl X = false) {i : Nat} (hq : i < 3) {x : Int32} (hd : decode cc pc = .ok (.putfield 51, 3)) {K : zG → zR0} (hM : zw g 10003 i 0 x K = some res) (kk : ∀ g1, K g1 = some res → V X p l e R s m args below meth c nL cells slots Q g1 (pc + 3) L st) : V X p l e R s m args below meth c nL cells slots Q g pc L (.inl x :: .inr (.inl (3, i)) :: st) := v_put (t := 3) (ci := 3) (N := 12) (k := 9) (Cn := RX3) (T := TX3) C tyX3 tyX3_ok nmX3 hX.symm (zm3 hq) rfl rfl zinX3 (by decide) rfl fl_RX3_51 rfl rfl rfl rfl hd (kk _ hM)
theorem gf_RX3_54 (C : Cx X p R s m args meth c cc nL RX3 cells slots) (hX : zfl X = false) {i : Nat} (hq : i < 3) (hd : decode cc pc = .ok (.getfield 54, 3)) (kk : V X p l e R s m args below meth c nL cells slots Q g (pc + 3) L ((.inl (g 11003 i 0)) :: st)) : V X p l e R s m args below meth c nL cells slots Q g pc L (.inr (.inl (3, i)) :: st) := v_get (t := 3) (ci := 3) (N := 12) (k := 10) (Cn := RX3) (T := TX3) C hX.symm (zm3 hq) rfl rfl zinX3 (by decide) rfl fl_RX3_54 hd (v := (.inl (g 11003 i 0))) rfl kk
theorem pf_RX3_54 (C : Cx X p R s m args meth c cc nL RX3 cells slots) (hX : zfl X = false) {i : Nat} (hq : i < 3) {x : Int32} (hd : decode cc pc = .ok (.putfield 54, 3)) {K : zG → zR0} (hM : zw g 11003 i 0 x K = some res) (kk : ∀ g1, K g1 = some res → V X p l e R s m args below meth c nL cells slots Q g1 (pc + 3) L st) : V X p l e R s m args below meth c nL cells slots Q g pc L (.inl x :: .inr (.inl (3, i)) :: st) := v_put (t := 3) (ci := 3) (N := 12) (k := 10) (Cn := RX3) (T := TX3) C tyX3 tyX3_ok nmX3 hX.symm (zm3 hq) rfl rfl zinX3 (by decide) rfl fl_RX3_54 rfl rfl rfl rfl hd (kk _ hM)
theorem gf_RX3_57 (C : Cx X p R s m args meth c cc nL RX3 cells slots) (hX : zfl X = false) {i : Nat} (hq : i < 3) (hd : decode cc pc = .ok (.getfield 57, 3)) (kk : V X p l e R s m args below meth c nL cells slots Q g (pc + 3) L ((.inl (g 12003 i 0)) :: st)) : V X p l e R s m args below meth c nL cells slots Q g pc L (.inr (.inl (3, i)) :: st) := v_get (t := 3) (ci := 3) (N := 12) (k := 11) (Cn := RX3) (T := TX3) C hX.symm (zm3 hq) rfl rfl zinX3 (by decide) rfl fl_RX3_57 hd (v := (.inl (g 12003 i 0))) rfl kk
theorem pf_RX3_57 (C : Cx X p R s m args meth c cc nL RX3 cells slots) (hX : zfl X = false) {i : Nat} (hq : i < 3) {x : Int32} (hd : decode cc pc = .ok (.putfield 57, 3)) {K : zG → zR0} (hM : zw g 12003 i 0 x K = some res) (kk : ∀ g1, K g1 = some res → V X p l e R s m args below meth c nL cells slots Q g1 (pc + 3) L st) : V X p l e R s m args below meth c nL cells slots Q g pc L (.inl x :: .inr (.inl (3, i)) :: st) := v_put (t := 3) (ci := 3) (N := 12) (k := 11) (Cn := RX3) (T := TX3) C tyX3 tyX3_ok nmX3 hX.symm (zm3 hq) rfl rfl zinX3 (by decide) rfl fl_RX3_57 rfl rfl rfl rfl hd (kk _ hM)
theorem gf_RX3_60 (C : Cx X p R s m args meth c cc nL RX3 cells slots) (hX : zfl X = false) {i : Nat} (hq : i < 2) (hd : decode cc pc = .ok (.getfield 60, 3)) (kk : V X p l e R s m args below meth c nL cells slots Q g (pc + 3) L ((.inr (.inl (15, i))) :: st)) : V X p l e R s m args below meth c nL cells slots Q g pc L (.inr (.inl (1, i)) :: st) := v_getN (t := 1) (ci := 2) (N := 13) (k := 11) (Cn := RX2) (T := TX2) C hX.symm (zm1 hq) rfl rfl zinX2 (by decide) rfl fl_RX3_60 hd (v := (.inr (.inl (15, i)))) rfl kk
theorem gf_RX3_86 (C : Cx X p R s m args meth c cc nL RX3 cells slots) (hX : zfl X = false) {i : Nat} (hq : i < 12) (hd : decode cc pc = .ok (.getfield 86, 3)) (kk : V X p l e R s m args below meth c nL cells slots Q g (pc + 3) L ((.inl (g 1005 i 0)) :: st)) : V X p l e R s m args below meth c nL cells slots Q g pc L (.inr (.inl (5, i)) :: st) := v_getN (t := 5) (ci := 1) (N := 8) (k := 0) (Cn := RX1) (T := TX1) C hX.symm (zm5 hq) rfl rfl zinX1 (by decide) rfl fl_RX3_86 hd (v := (.inl (g 1005 i 0))) rfl kk
theorem pf_RX3_86 (C : Cx X p R s m args meth c cc nL RX3 cells slots) (hX : zfl X = false) {i : Nat} (hq : i < 12) {x : Int32} (hd : decode cc pc = .ok (.putfield 86, 3)) {K : zG → zR0} (hM : zw g 1005 i 0 x K = some res) (kk : ∀ g1, K g1 = some res → V X p l e R s m args below meth c nL cells slots Q g1 (pc + 3) L st) : V X p l e R s m args below meth c nL cells slots Q g pc L (.inl x :: .inr (.inl (5, i)) :: st) := v_putN (t := 5) (ci := 1) (N := 8) (k := 0) (Cn := RX1) (T := TX1) C tyX1 tyX1_ok nmX1 hX.symm (zm5 hq) rfl rfl zinX1 (by decide) rfl fl_RX3_86 rfl rfl rfl rfl hd (kk _ hM)
theorem gf_RX3_89 (C : Cx X p R s m args meth c cc nL RX3 cells slots) (hX : zfl X = false) {i : Nat} (hq : i < 2) (hd : decode cc pc = .ok (.getfield 89, 3)) (kk : V X p l e R s m args below meth c nL cells slots Q g (pc + 3) L ((.inr (.inl (11, i))) :: st)) : V X p l e R s m args below meth c nL cells slots Q g pc L (.inr (.inl (1, i)) :: st) := v_getN (t := 1) (ci := 2) (N := 13) (k := 7) (Cn := RX2) (T := TX2) C hX.symm (zm1 hq) rfl rfl zinX2 (by decide) rfl fl_RX3_89 hd (v := (.inr (.inl (11, i)))) rfl kk
theorem gf_RX3_110 (C : Cx X p R s m args meth c cc nL RX3 cells slots) (hX : zfl X = false) {i : Nat} (hq : i < 12) (hd : decode cc pc = .ok (.getfield 110, 3)) (kk : V X p l e R s m args below meth c nL cells slots Q g (pc + 3) L ((.inl (g 3005 i 0)) :: st)) : V X p l e R s m args below meth c nL cells slots Q g pc L (.inr (.inl (5, i)) :: st) := v_getN (t := 5) (ci := 1) (N := 8) (k := 2) (Cn := RX1) (T := TX1) C hX.symm (zm5 hq) rfl rfl zinX1 (by decide) rfl fl_RX3_110 hd (v := (.inl (g 3005 i 0))) rfl kk
theorem pf_RX3_110 (C : Cx X p R s m args meth c cc nL RX3 cells slots) (hX : zfl X = false) {i : Nat} (hq : i < 12) {x : Int32} (hd : decode cc pc = .ok (.putfield 110, 3)) {K : zG → zR0} (hM : zw g 3005 i 0 x K = some res) (kk : ∀ g1, K g1 = some res → V X p l e R s m args below meth c nL cells slots Q g1 (pc + 3) L st) : V X p l e R s m args below meth c nL cells slots Q g pc L (.inl x :: .inr (.inl (5, i)) :: st) := v_putN (t := 5) (ci := 1) (N := 8) (k := 2) (Cn := RX1) (T := TX1) C tyX1 tyX1_ok nmX1 hX.symm (zm5 hq) rfl rfl zinX1 (by decide) rfl fl_RX3_110 rfl rfl rfl rfl hd (kk _ hM)
theorem gf_RX3_113 (C : Cx X p R s m args meth c cc nL RX3 cells slots) (hX : zfl X = false) {i : Nat} (hq : i < 12) (hd : decode cc pc = .ok (.getfield 113, 3)) (kk : V X p l e R s m args below meth c nL cells slots Q g (pc + 3) L ((.inl (g 4005 i 0)) :: st)) : V X p l e R s m args below meth c nL cells slots Q g pc L (.inr (.inl (5, i)) :: st) := v_getN (t := 5) (ci := 1) (N := 8) (k := 3) (Cn := RX1) (T := TX1) C hX.symm (zm5 hq) rfl rfl zinX1 (by decide) rfl fl_RX3_113 hd (v := (.inl (g 4005 i 0))) rfl kk
theorem pf_RX3_113 (C : Cx X p R s m args meth c cc nL RX3 cells slots) (hX : zfl X = false) {i : Nat} (hq : i < 12) {x : Int32} (hd : decode cc pc = .ok (.putfield 113, 3)) {K : zG → zR0} (hM : zw g 4005 i 0 x K = some res) (kk : ∀ g1, K g1 = some res → V X p l e R s m args below meth c nL cells slots Q g1 (pc + 3) L st) : V X p l e R s m args below meth c nL cells slots Q g pc L (.inl x :: .inr (.inl (5, i)) :: st) := v_putN (t := 5) (ci := 1) (N := 8) (k := 3) (Cn := RX1) (T := TX1) C tyX1 tyX1_ok nmX1 hX.symm (zm5 hq) rfl rfl zinX1 (by decide) rfl fl_RX3_113 rfl rfl rfl rfl hd (kk _ hM)
theorem gf_RX3_127 (C : Cx X p R s m args meth c cc nL RX3 cells slots) (hX : zfl X = false) {i : Nat} (hq : i < 12) (hd : decode cc pc = .ok (.getfield 127, 3)) (kk : V X p l e R s m args below meth c nL cells slots Q g (pc + 3) L ((.inr (.inl (28, i))) :: st)) : V X p l e R s m args below meth c nL cells slots Q g pc L (.inr (.inl (5, i)) :: st) := v_getN (t := 5) (ci := 1) (N := 8) (k := 7) (Cn := RX1) (T := TX1) C hX.symm (zm5 hq) rfl rfl zinX1 (by decide) rfl fl_RX3_127 hd (v := (.inr (.inl (28, i)))) rfl kk
theorem gf_RX3_130 (C : Cx X p R s m args meth c cc nL RX3 cells slots) (hX : zfl X = false) {i : Nat} (hq : i < 12) (hd : decode cc pc = .ok (.getfield 130, 3)) (kk : V X p l e R s m args below meth c nL cells slots Q g (pc + 3) L ((.inl (g 6005 i 0)) :: st)) : V X p l e R s m args below meth c nL cells slots Q g pc L (.inr (.inl (5, i)) :: st) := v_getN (t := 5) (ci := 1) (N := 8) (k := 5) (Cn := RX1) (T := TX1) C hX.symm (zm5 hq) rfl rfl zinX1 (by decide) rfl fl_RX3_130 hd (v := (.inl (g 6005 i 0))) rfl kk
theorem pf_RX3_130 (C : Cx X p R s m args meth c cc nL RX3 cells slots) (hX : zfl X = false) {i : Nat} (hq : i < 12) {x : Int32} (hd : decode cc pc = .ok (.putfield 130, 3)) {K : zG → zR0} (hM : zw g 6005 i 0 x K = some res) (kk : ∀ g1, K g1 = some res → V X p l e R s m args below meth c nL cells slots Q g1 (pc + 3) L st) : V X p l e R s m args below meth c nL cells slots Q g pc L (.inl x :: .inr (.inl (5, i)) :: st) := v_putN (t := 5) (ci := 1) (N := 8) (k := 5) (Cn := RX1) (T := TX1) C tyX1 tyX1_ok nmX1 hX.symm (zm5 hq) rfl rfl zinX1 (by decide) rfl fl_RX3_130 rfl rfl rfl rfl hd (kk _ hM)
theorem gf_RX3_141 (C : Cx X p R s m args meth c cc nL RX3 cells slots) (hX : zfl X = false) {i : Nat} (hq : i < 12) (hd : decode cc pc = .ok (.getfield 141, 3)) (kk : V X p l e R s m args below meth c nL cells slots Q g (pc + 3) L ((.inl (g 5005 i 0)) :: st)) : V X p l e R s m args below meth c nL cells slots Q g pc L (.inr (.inl (5, i)) :: st) := v_getN (t := 5) (ci := 1) (N := 8) (k := 4) (Cn := RX1) (T := TX1) C hX.symm (zm5 hq) rfl rfl zinX1 (by decide) rfl fl_RX3_141 hd (v := (.inl (g 5005 i 0))) rfl kk
theorem pf_RX3_141 (C : Cx X p R s m args meth c cc nL RX3 cells slots) (hX : zfl X = false) {i : Nat} (hq : i < 12) {x : Int32} (hd : decode cc pc = .ok (.putfield 141, 3)) {K : zG → zR0} (hM : zw g 5005 i 0 x K = some res) (kk : ∀ g1, K g1 = some res → V X p l e R s m args below meth c nL cells slots Q g1 (pc + 3) L st) : V X p l e R s m args below meth c nL cells slots Q g pc L (.inl x :: .inr (.inl (5, i)) :: st) := v_putN (t := 5) (ci := 1) (N := 8) (k := 4) (Cn := RX1) (T := TX1) C tyX1 tyX1_ok nmX1 hX.symm (zm5 hq) rfl rfl zinX1 (by decide) rfl fl_RX3_141 rfl rfl rfl rfl hd (kk _ hM)
theorem gf_RX3_151 (C : Cx X p R s m args meth c cc nL RX3 cells slots) (hX : zfl X = false) {i : Nat} (hq : i < 12) (hd : decode cc pc = .ok (.getfield 151, 3)) (kk : V X p l e R s m args below meth c nL cells slots Q g (pc + 3) L ((.inl (g 2005 i 0)) :: st)) : V X p l e R s m args below meth c nL cells slots Q g pc L (.inr (.inl (5, i)) :: st) := v_getN (t := 5) (ci := 1) (N := 8) (k := 1) (Cn := RX1) (T := TX1) C hX.symm (zm5 hq) rfl rfl zinX1 (by decide) rfl fl_RX3_151 hd (v := (.inl (g 2005 i 0))) rfl kk
theorem pf_RX3_151 (C : Cx X p R s m args meth c cc nL RX3 cells slots) (hX : zfl X = false) {i : Nat} (hq : i < 12) {x : Int32} (hd : decode cc pc = .ok (.putfield 151, 3)) {K : zG → zR0} (hM : zw g 2005 i 0 x K = some res) (kk : ∀ g1, K g1 = some res → V X p l e R s m args below meth c nL cells slots Q g1 (pc + 3) L st) : V X p l e R s m args below meth c nL cells slots Q g pc L (.inl x :: .inr (.inl (5, i)) :: st) := v_putN (t := 5) (ci := 1) (N := 8) (k := 1) (Cn := RX1) (T := TX1) C tyX1 tyX1_ok nmX1 hX.symm (zm5 hq) rfl rfl zinX1 (by decide) rfl fl_RX3_151 rfl rfl rfl rfl hd (kk _ hM)
theorem gf_RX3_154 (C : Cx X p R s m args meth c cc nL RX3 cells slots) (hX : zfl X = false) {i : Nat} (hq : i < 12) (hd : decode cc pc = .ok (.getfield 154, 3)) (kk : V X p l e R s m args below meth c nL cells slots Q g (pc + 3) L ((.inl (g 7005 i 0)) :: st)) : V X p l e R s m args below meth c nL cells slots Q g pc L (.inr (.inl (5, i)) :: st) := v_getN (t := 5) (ci := 1) (N := 8) (k := 6) (Cn := RX1) (T := TX1) C hX.symm (zm5 hq) rfl rfl zinX1 (by decide) rfl fl_RX3_154 hd (v := (.inl (g 7005 i 0))) rfl kk
theorem pf_RX3_154 (C : Cx X p R s m args meth c cc nL RX3 cells slots) (hX : zfl X = false) {i : Nat} (hq : i < 12) {x : Int32} (hd : decode cc pc = .ok (.putfield 154, 3)) {K : zG → zR0} (hM : zw g 7005 i 0 x K = some res) (kk : ∀ g1, K g1 = some res → V X p l e R s m args below meth c nL cells slots Q g1 (pc + 3) L st) : V X p l e R s m args below meth c nL cells slots Q g pc L (.inl x :: .inr (.inl (5, i)) :: st) := v_putN (t := 5) (ci := 1) (N := 8) (k := 6) (Cn := RX1) (T := TX1) C tyX1 tyX1_ok nmX1 hX.symm (zm5 hq) rfl rfl zinX1 (by decide) rfl fl_RX3_154 rfl rfl rfl rfl hd (kk _ hM)
theorem gf_RX3_174 (C : Cx X p R s m args meth c cc nL RX3 cells slots) (hX : zfl X = false) {i : Nat} (hq : i < 12) (hd : decode cc pc = .ok (.getfield 174, 3)) (kk : V X p l e R s m args below meth c nL cells slots Q g (pc + 3) L ((.inr (.inl (23, i))) :: st)) : V X p l e R s m args below meth c nL cells slots Q g pc L (.inr (.inl (4, i)) :: st) := v_getN (t := 4) (ci := 0) (N := 7) (k := 2) (Cn := RX0) (T := TX0) C hX.symm (zm4 hq) rfl rfl zinX0 (by decide) rfl fl_RX3_174 hd (v := (.inr (.inl (23, i)))) rfl kk
theorem gf_RX3_177 (C : Cx X p R s m args meth c cc nL RX3 cells slots) (hX : zfl X = false) {i : Nat} (hq : i < 12) (hd : decode cc pc = .ok (.getfield 177, 3)) (kk : V X p l e R s m args below meth c nL cells slots Q g (pc + 3) L ((.inr (.inl (25, i))) :: st)) : V X p l e R s m args below meth c nL cells slots Q g pc L (.inr (.inl (4, i)) :: st) := v_getN (t := 4) (ci := 0) (N := 7) (k := 4) (Cn := RX0) (T := TX0) C hX.symm (zm4 hq) rfl rfl zinX0 (by decide) rfl fl_RX3_177 hd (v := (.inr (.inl (25, i)))) rfl kk
theorem gf_RX3_211 (C : Cx X p R s m args meth c cc nL RX3 cells slots) (hX : zfl X = false) {i : Nat} (hq : i < 12) (hd : decode cc pc = .ok (.getfield 211, 3)) (kk : V X p l e R s m args below meth c nL cells slots Q g (pc + 3) L ((.inr (.inl (26, i))) :: st)) : V X p l e R s m args below meth c nL cells slots Q g pc L (.inr (.inl (4, i)) :: st) := v_getN (t := 4) (ci := 0) (N := 7) (k := 5) (Cn := RX0) (T := TX0) C hX.symm (zm4 hq) rfl rfl zinX0 (by decide) rfl fl_RX3_211 hd (v := (.inr (.inl (26, i)))) rfl kk
theorem gf_RX3_214 (C : Cx X p R s m args meth c cc nL RX3 cells slots) (hX : zfl X = false) {i : Nat} (hq : i < 12) (hd : decode cc pc = .ok (.getfield 214, 3)) (kk : V X p l e R s m args below meth c nL cells slots Q g (pc + 3) L ((.inr (.inl (24, i))) :: st)) : V X p l e R s m args below meth c nL cells slots Q g pc L (.inr (.inl (4, i)) :: st) := v_getN (t := 4) (ci := 0) (N := 7) (k := 3) (Cn := RX0) (T := TX0) C hX.symm (zm4 hq) rfl rfl zinX0 (by decide) rfl fl_RX3_214 hd (v := (.inr (.inl (24, i)))) rfl kk
theorem gf_RX3_217 (C : Cx X p R s m args meth c cc nL RX3 cells slots) (hX : zfl X = false) {i : Nat} (hq : i < 12) (hd : decode cc pc = .ok (.getfield 217, 3)) (kk : V X p l e R s m args below meth c nL cells slots Q g (pc + 3) L ((.inr (.inl (22, i))) :: st)) : V X p l e R s m args below meth c nL cells slots Q g pc L (.inr (.inl (4, i)) :: st) := v_getN (t := 4) (ci := 0) (N := 7) (k := 1) (Cn := RX0) (T := TX0) C hX.symm (zm4 hq) rfl rfl zinX0 (by decide) rfl fl_RX3_217 hd (v := (.inr (.inl (22, i)))) rfl kk
theorem gf_RX3_220 (C : Cx X p R s m args meth c cc nL RX3 cells slots) (hX : zfl X = false) {i : Nat} (hq : i < 2) (hd : decode cc pc = .ok (.getfield 220, 3)) (kk : V X p l e R s m args below meth c nL cells slots Q g (pc + 3) L ((.inl (g 3001 i 0)) :: st)) : V X p l e R s m args below meth c nL cells slots Q g pc L (.inr (.inl (1, i)) :: st) := v_getN (t := 1) (ci := 2) (N := 13) (k := 2) (Cn := RX2) (T := TX2) C hX.symm (zm1 hq) rfl rfl zinX2 (by decide) rfl fl_RX3_220 hd (v := (.inl (g 3001 i 0))) rfl kk
theorem gf_RX3_229 (C : Cx X p R s m args meth c cc nL RX3 cells slots) (hX : zfl X = false) {i : Nat} (hq : i < 2) (hd : decode cc pc = .ok (.getfield 229, 3)) (kk : V X p l e R s m args below meth c nL cells slots Q g (pc + 3) L ((.inl (g 6001 i 0)) :: st)) : V X p l e R s m args below meth c nL cells slots Q g pc L (.inr (.inl (1, i)) :: st) := v_getN (t := 1) (ci := 2) (N := 13) (k := 5) (Cn := RX2) (T := TX2) C hX.symm (zm1 hq) rfl rfl zinX2 (by decide) rfl fl_RX3_229 hd (v := (.inl (g 6001 i 0))) rfl kk
theorem gf_RX4_9 (C : Cx X p R s m args meth c cc nL RX4 cells slots) (hX : zfl X = false) (hd : decode cc pc = .ok (.getfield 9, 3)) (kk : V X p l e R s m args below meth c nL cells slots Q g (pc + 3) L ((.inr (.inl (29, 0))) :: st)) : V X p l e R s m args below meth c nL cells slots Q g pc L (.inr (.inl (6, 0)) :: st) := v_get (t := 6) (ci := 4) (N := 6) (k := 1) (Cn := RX4) (T := TX4) C hX.symm zm6 rfl rfl zinX4 (by decide) rfl fl_RX4_9 hd (v := (.inr (.inl (29, 0)))) rfl kk
theorem gf_RX4_15 (C : Cx X p R s m args meth c cc nL RX4 cells slots) (hX : zfl X = false) (hd : decode cc pc = .ok (.getfield 15, 3)) (kk : V X p l e R s m args below meth c nL cells slots Q g (pc + 3) L ((.inr (.inl (1, 0))) :: st)) : V X p l e R s m args below meth c nL cells slots Q g pc L (.inr (.inl (6, 0)) :: st) := v_get (t := 6) (ci := 4) (N := 6) (k := 0) (Cn := RX4) (T := TX4) C hX.symm zm6 rfl rfl zinX4 (by decide) rfl fl_RX4_15 hd (v := (.inr (.inl (1, 0)))) rfl kk
theorem gf_RX4_19 (C : Cx X p R s m args meth c cc nL RX4 cells slots) (hX : zfl X = false) {i : Nat} (hq : i < 2) (hd : decode cc pc = .ok (.getfield 19, 3)) (kk : V X p l e R s m args below meth c nL cells slots Q g (pc + 3) L ((.inr (.inl (15, i))) :: st)) : V X p l e R s m args below meth c nL cells slots Q g pc L (.inr (.inl (1, i)) :: st) := v_getN (t := 1) (ci := 2) (N := 13) (k := 11) (Cn := RX2) (T := TX2) C hX.symm (zm1 hq) rfl rfl zinX2 (by decide) rfl fl_RX4_19 hd (v := (.inr (.inl (15, i)))) rfl kk
theorem gf_RX4_30 (C : Cx X p R s m args meth c cc nL RX4 cells slots) (hX : zfl X = false) (hd : decode cc pc = .ok (.getfield 30, 3)) (kk : V X p l e R s m args below meth c nL cells slots Q g (pc + 3) L ((.inl (g 3006 0 0)) :: st)) : V X p l e R s m args below meth c nL cells slots Q g pc L (.inr (.inl (6, 0)) :: st) := v_get (t := 6) (ci := 4) (N := 6) (k := 2) (Cn := RX4) (T := TX4) C hX.symm zm6 rfl rfl zinX4 (by decide) rfl fl_RX4_30 hd (v := (.inl (g 3006 0 0))) rfl kk
theorem pf_RX4_30 (C : Cx X p R s m args meth c cc nL RX4 cells slots) (hX : zfl X = false) {x : Int32} (hd : decode cc pc = .ok (.putfield 30, 3)) {K : zG → zR0} (hM : zw g 3006 0 0 x K = some res) (kk : ∀ g1, K g1 = some res → V X p l e R s m args below meth c nL cells slots Q g1 (pc + 3) L st) : V X p l e R s m args below meth c nL cells slots Q g pc L (.inl x :: .inr (.inl (6, 0)) :: st) := v_put (t := 6) (ci := 4) (N := 6) (k := 2) (Cn := RX4) (T := TX4) C tyX4 tyX4_ok nmX4 hX.symm zm6 rfl rfl zinX4 (by decide) rfl fl_RX4_30 rfl rfl rfl rfl hd (kk _ hM)
theorem gf_RX4_34 (C : Cx X p R s m args meth c cc nL RX4 cells slots) (hX : zfl X = false) (hd : decode cc pc = .ok (.getfield 34, 3)) (kk : V X p l e R s m args below meth c nL cells slots Q g (pc + 3) L ((.inl (g 4006 0 0)) :: st)) : V X p l e R s m args below meth c nL cells slots Q g pc L (.inr (.inl (6, 0)) :: st) := v_get (t := 6) (ci := 4) (N := 6) (k := 3) (Cn := RX4) (T := TX4) C hX.symm zm6 rfl rfl zinX4 (by decide) rfl fl_RX4_34 hd (v := (.inl (g 4006 0 0))) rfl kk
theorem pf_RX4_34 (C : Cx X p R s m args meth c cc nL RX4 cells slots) (hX : zfl X = false) {x : Int32} (hd : decode cc pc = .ok (.putfield 34, 3)) {K : zG → zR0} (hM : zw g 4006 0 0 x K = some res) (kk : ∀ g1, K g1 = some res → V X p l e R s m args below meth c nL cells slots Q g1 (pc + 3) L st) : V X p l e R s m args below meth c nL cells slots Q g pc L (.inl x :: .inr (.inl (6, 0)) :: st) := v_put (t := 6) (ci := 4) (N := 6) (k := 3) (Cn := RX4) (T := TX4) C tyX4 tyX4_ok nmX4 hX.symm zm6 rfl rfl zinX4 (by decide) rfl fl_RX4_34 rfl rfl rfl rfl hd (kk _ hM)
theorem gf_RX4_37 (C : Cx X p R s m args meth c cc nL RX4 cells slots) (hX : zfl X = false) (hd : decode cc pc = .ok (.getfield 37, 3)) (kk : V X p l e R s m args below meth c nL cells slots Q g (pc + 3) L ((.inl (g 5006 0 0)) :: st)) : V X p l e R s m args below meth c nL cells slots Q g pc L (.inr (.inl (6, 0)) :: st) := v_get (t := 6) (ci := 4) (N := 6) (k := 4) (Cn := RX4) (T := TX4) C hX.symm zm6 rfl rfl zinX4 (by decide) rfl fl_RX4_37 hd (v := (.inl (g 5006 0 0))) rfl kk
theorem pf_RX4_37 (C : Cx X p R s m args meth c cc nL RX4 cells slots) (hX : zfl X = false) {x : Int32} (hd : decode cc pc = .ok (.putfield 37, 3)) {K : zG → zR0} (hM : zw g 5006 0 0 x K = some res) (kk : ∀ g1, K g1 = some res → V X p l e R s m args below meth c nL cells slots Q g1 (pc + 3) L st) : V X p l e R s m args below meth c nL cells slots Q g pc L (.inl x :: .inr (.inl (6, 0)) :: st) := v_put (t := 6) (ci := 4) (N := 6) (k := 4) (Cn := RX4) (T := TX4) C tyX4 tyX4_ok nmX4 hX.symm zm6 rfl rfl zinX4 (by decide) rfl fl_RX4_37 rfl rfl rfl rfl hd (kk _ hM)
theorem gf_RX4_40 (C : Cx X p R s m args meth c cc nL RX4 cells slots) (hX : zfl X = false) (hd : decode cc pc = .ok (.getfield 40, 3)) (kk : V X p l e R s m args below meth c nL cells slots Q g (pc + 3) L ((.inl (g 6006 0 0)) :: st)) : V X p l e R s m args below meth c nL cells slots Q g pc L (.inr (.inl (6, 0)) :: st) := v_get (t := 6) (ci := 4) (N := 6) (k := 5) (Cn := RX4) (T := TX4) C hX.symm zm6 rfl rfl zinX4 (by decide) rfl fl_RX4_40 hd (v := (.inl (g 6006 0 0))) rfl kk
theorem pf_RX4_40 (C : Cx X p R s m args meth c cc nL RX4 cells slots) (hX : zfl X = false) {x : Int32} (hd : decode cc pc = .ok (.putfield 40, 3)) {K : zG → zR0} (hM : zw g 6006 0 0 x K = some res) (kk : ∀ g1, K g1 = some res → V X p l e R s m args below meth c nL cells slots Q g1 (pc + 3) L st) : V X p l e R s m args below meth c nL cells slots Q g pc L (.inl x :: .inr (.inl (6, 0)) :: st) := v_put (t := 6) (ci := 4) (N := 6) (k := 5) (Cn := RX4) (T := TX4) C tyX4 tyX4_ok nmX4 hX.symm zm6 rfl rfl zinX4 (by decide) rfl fl_RX4_40 rfl rfl rfl rfl hd (kk _ hM)
theorem gf_RX4_78 (C : Cx X p R s m args meth c cc nL RX4 cells slots) (hX : zfl X = false) {i : Nat} (hq : i < 2) (hd : decode cc pc = .ok (.getfield 78, 3)) (kk : V X p l e R s m args below meth c nL cells slots Q g (pc + 3) L ((.inl (g 1001 i 0)) :: st)) : V X p l e R s m args below meth c nL cells slots Q g pc L (.inr (.inl (1, i)) :: st) := v_getN (t := 1) (ci := 2) (N := 13) (k := 0) (Cn := RX2) (T := TX2) C hX.symm (zm1 hq) rfl rfl zinX2 (by decide) rfl fl_RX4_78 hd (v := (.inl (g 1001 i 0))) rfl kk
theorem gf_RX5_9 (C : Cx X p R s m args meth c cc nL RX5 cells slots) (hX : zfl X = false) (hd : decode cc pc = .ok (.getfield 9, 3)) (kk : V X p l e R s m args below meth c nL cells slots Q g (pc + 3) L ((.inr (.inl (1, 1))) :: st)) : V X p l e R s m args below meth c nL cells slots Q g pc L (.inr (.inl (2, 0)) :: st) := v_get (t := 2) (ci := 5) (N := 11) (k := 0) (Cn := RX5) (T := TX5) C hX.symm zm2 rfl rfl zinX5 (by decide) rfl fl_RX5_9 hd (v := (.inr (.inl (1, 1)))) rfl kk
theorem gf_RX5_15 (C : Cx X p R s m args meth c cc nL RX5 cells slots) (hX : zfl X = false) (hd : decode cc pc = .ok (.getfield 15, 3)) (kk : V X p l e R s m args below meth c nL cells slots Q g (pc + 3) L ((.inr (.inl (10, 0))) :: st)) : V X p l e R s m args below meth c nL cells slots Q g pc L (.inr (.inl (2, 0)) :: st) := v_get (t := 2) (ci := 5) (N := 11) (k := 1) (Cn := RX5) (T := TX5) C hX.symm zm2 rfl rfl zinX5 (by decide) rfl fl_RX5_15 hd (v := (.inr (.inl (10, 0)))) rfl kk
theorem gf_RX5_33 (C : Cx X p R s m args meth c cc nL RX5 cells slots) (hX : zfl X = false) (hd : decode cc pc = .ok (.getfield 33, 3)) (kk : V X p l e R s m args below meth c nL cells slots Q g (pc + 3) L ((.inl (g 3002 0 0)) :: st)) : V X p l e R s m args below meth c nL cells slots Q g pc L (.inr (.inl (2, 0)) :: st) := v_get (t := 2) (ci := 5) (N := 11) (k := 2) (Cn := RX5) (T := TX5) C hX.symm zm2 rfl rfl zinX5 (by decide) rfl fl_RX5_33 hd (v := (.inl (g 3002 0 0))) rfl kk
theorem pf_RX5_33 (C : Cx X p R s m args meth c cc nL RX5 cells slots) (hX : zfl X = false) {x : Int32} (hd : decode cc pc = .ok (.putfield 33, 3)) {K : zG → zR0} (hM : zw g 3002 0 0 x K = some res) (kk : ∀ g1, K g1 = some res → V X p l e R s m args below meth c nL cells slots Q g1 (pc + 3) L st) : V X p l e R s m args below meth c nL cells slots Q g pc L (.inl x :: .inr (.inl (2, 0)) :: st) := v_put (t := 2) (ci := 5) (N := 11) (k := 2) (Cn := RX5) (T := TX5) C tyX5 tyX5_ok nmX5 hX.symm zm2 rfl rfl zinX5 (by decide) rfl fl_RX5_33 rfl rfl rfl rfl hd (kk _ hM)
theorem gf_RX5_37 (C : Cx X p R s m args meth c cc nL RX5 cells slots) (hX : zfl X = false) (hd : decode cc pc = .ok (.getfield 37, 3)) (kk : V X p l e R s m args below meth c nL cells slots Q g (pc + 3) L ((.inl (g 6002 0 0)) :: st)) : V X p l e R s m args below meth c nL cells slots Q g pc L (.inr (.inl (2, 0)) :: st) := v_get (t := 2) (ci := 5) (N := 11) (k := 5) (Cn := RX5) (T := TX5) C hX.symm zm2 rfl rfl zinX5 (by decide) rfl fl_RX5_37 hd (v := (.inl (g 6002 0 0))) rfl kk
theorem pf_RX5_37 (C : Cx X p R s m args meth c cc nL RX5 cells slots) (hX : zfl X = false) {x : Int32} (hd : decode cc pc = .ok (.putfield 37, 3)) {K : zG → zR0} (hM : zw g 6002 0 0 x K = some res) (kk : ∀ g1, K g1 = some res → V X p l e R s m args below meth c nL cells slots Q g1 (pc + 3) L st) : V X p l e R s m args below meth c nL cells slots Q g pc L (.inl x :: .inr (.inl (2, 0)) :: st) := v_put (t := 2) (ci := 5) (N := 11) (k := 5) (Cn := RX5) (T := TX5) C tyX5 tyX5_ok nmX5 hX.symm zm2 rfl rfl zinX5 (by decide) rfl fl_RX5_37 rfl rfl rfl rfl hd (kk _ hM)
theorem gf_RX5_40 (C : Cx X p R s m args meth c cc nL RX5 cells slots) (hX : zfl X = false) (hd : decode cc pc = .ok (.getfield 40, 3)) (kk : V X p l e R s m args below meth c nL cells slots Q g (pc + 3) L ((.inl (g 8002 0 0)) :: st)) : V X p l e R s m args below meth c nL cells slots Q g pc L (.inr (.inl (2, 0)) :: st) := v_get (t := 2) (ci := 5) (N := 11) (k := 7) (Cn := RX5) (T := TX5) C hX.symm zm2 rfl rfl zinX5 (by decide) rfl fl_RX5_40 hd (v := (.inl (g 8002 0 0))) rfl kk
theorem pf_RX5_40 (C : Cx X p R s m args meth c cc nL RX5 cells slots) (hX : zfl X = false) {x : Int32} (hd : decode cc pc = .ok (.putfield 40, 3)) (hz : x = nI 0 ∨ x = nI 1) {K : zG → zR0} (hM : zw g 8002 0 0 x K = some res) (kk : ∀ g1, K g1 = some res → V X p l e R s m args below meth c nL cells slots Q g1 (pc + 3) L st) : V X p l e R s m args below meth c nL cells slots Q g pc L (.inl x :: .inr (.inl (2, 0)) :: st) := v_put (t := 2) (ci := 5) (N := 11) (k := 7) (Cn := RX5) (T := TX5) C tyX5 tyX5_ok nmX5 hX.symm zm2 rfl rfl zinX5 (by decide) rfl fl_RX5_40 rfl rfl (zbo_n hz) (zbo_f hz) hd (kk _ hM)
theorem gf_RX5_44 (C : Cx X p R s m args meth c cc nL RX5 cells slots) (hX : zfl X = false) (hd : decode cc pc = .ok (.getfield 44, 3)) (kk : V X p l e R s m args below meth c nL cells slots Q g (pc + 3) L ((.inl (g 9002 0 0)) :: st)) : V X p l e R s m args below meth c nL cells slots Q g pc L (.inr (.inl (2, 0)) :: st) := v_get (t := 2) (ci := 5) (N := 11) (k := 8) (Cn := RX5) (T := TX5) C hX.symm zm2 rfl rfl zinX5 (by decide) rfl fl_RX5_44 hd (v := (.inl (g 9002 0 0))) rfl kk
theorem pf_RX5_44 (C : Cx X p R s m args meth c cc nL RX5 cells slots) (hX : zfl X = false) {x : Int32} (hd : decode cc pc = .ok (.putfield 44, 3)) (hz : x = nI 0 ∨ x = nI 1) {K : zG → zR0} (hM : zw g 9002 0 0 x K = some res) (kk : ∀ g1, K g1 = some res → V X p l e R s m args below meth c nL cells slots Q g1 (pc + 3) L st) : V X p l e R s m args below meth c nL cells slots Q g pc L (.inl x :: .inr (.inl (2, 0)) :: st) := v_put (t := 2) (ci := 5) (N := 11) (k := 8) (Cn := RX5) (T := TX5) C tyX5 tyX5_ok nmX5 hX.symm zm2 rfl rfl zinX5 (by decide) rfl fl_RX5_44 rfl rfl (zbo_n hz) (zbo_f hz) hd (kk _ hM)
theorem pf_RX5_47 (C : Cx X p R s m args meth c cc nL RX5 cells slots) (hX : zfl X = false) {x : Int32} (hd : decode cc pc = .ok (.putfield 47, 3)) {K : zG → zR0} (hM : zw g 10002 0 0 x K = some res) (kk : ∀ g1, K g1 = some res → V X p l e R s m args below meth c nL cells slots Q g1 (pc + 3) L st) : V X p l e R s m args below meth c nL cells slots Q g pc L (.inl x :: .inr (.inl (2, 0)) :: st) := v_put (t := 2) (ci := 5) (N := 11) (k := 9) (Cn := RX5) (T := TX5) C tyX5 tyX5_ok nmX5 hX.symm zm2 rfl rfl zinX5 (by decide) rfl fl_RX5_47 rfl rfl rfl rfl hd (kk _ hM)
theorem pf_RX5_50 (C : Cx X p R s m args meth c cc nL RX5 cells slots) (hX : zfl X = false) {x : Int32} (hd : decode cc pc = .ok (.putfield 50, 3)) {K : zG → zR0} (hM : zw g 11002 0 0 x K = some res) (kk : ∀ g1, K g1 = some res → V X p l e R s m args below meth c nL cells slots Q g1 (pc + 3) L st) : V X p l e R s m args below meth c nL cells slots Q g pc L (.inl x :: .inr (.inl (2, 0)) :: st) := v_put (t := 2) (ci := 5) (N := 11) (k := 10) (Cn := RX5) (T := TX5) C tyX5 tyX5_ok nmX5 hX.symm zm2 rfl rfl zinX5 (by decide) rfl fl_RX5_50 rfl rfl rfl rfl hd (kk _ hM)
theorem gf_RX5_60 (C : Cx X p R s m args meth c cc nL RX5 cells slots) (hX : zfl X = false) (hd : decode cc pc = .ok (.getfield 60, 3)) (kk : V X p l e R s m args below meth c nL cells slots Q g (pc + 3) L ((.inl (g 4002 0 0)) :: st)) : V X p l e R s m args below meth c nL cells slots Q g pc L (.inr (.inl (2, 0)) :: st) := v_get (t := 2) (ci := 5) (N := 11) (k := 3) (Cn := RX5) (T := TX5) C hX.symm zm2 rfl rfl zinX5 (by decide) rfl fl_RX5_60 hd (v := (.inl (g 4002 0 0))) rfl kk
theorem pf_RX5_60 (C : Cx X p R s m args meth c cc nL RX5 cells slots) (hX : zfl X = false) {x : Int32} (hd : decode cc pc = .ok (.putfield 60, 3)) {K : zG → zR0} (hM : zw g 4002 0 0 x K = some res) (kk : ∀ g1, K g1 = some res → V X p l e R s m args below meth c nL cells slots Q g1 (pc + 3) L st) : V X p l e R s m args below meth c nL cells slots Q g pc L (.inl x :: .inr (.inl (2, 0)) :: st) := v_put (t := 2) (ci := 5) (N := 11) (k := 3) (Cn := RX5) (T := TX5) C tyX5 tyX5_ok nmX5 hX.symm zm2 rfl rfl zinX5 (by decide) rfl fl_RX5_60 rfl rfl rfl rfl hd (kk _ hM)
theorem gf_RX5_66 (C : Cx X p R s m args meth c cc nL RX5 cells slots) (hX : zfl X = false) (hd : decode cc pc = .ok (.getfield 66, 3)) (kk : V X p l e R s m args below meth c nL cells slots Q g (pc + 3) L ((.inl (g 5002 0 0)) :: st)) : V X p l e R s m args below meth c nL cells slots Q g pc L (.inr (.inl (2, 0)) :: st) := v_get (t := 2) (ci := 5) (N := 11) (k := 4) (Cn := RX5) (T := TX5) C hX.symm zm2 rfl rfl zinX5 (by decide) rfl fl_RX5_66 hd (v := (.inl (g 5002 0 0))) rfl kk
theorem pf_RX5_66 (C : Cx X p R s m args meth c cc nL RX5 cells slots) (hX : zfl X = false) {x : Int32} (hd : decode cc pc = .ok (.putfield 66, 3)) {K : zG → zR0} (hM : zw g 5002 0 0 x K = some res) (kk : ∀ g1, K g1 = some res → V X p l e R s m args below meth c nL cells slots Q g1 (pc + 3) L st) : V X p l e R s m args below meth c nL cells slots Q g pc L (.inl x :: .inr (.inl (2, 0)) :: st) := v_put (t := 2) (ci := 5) (N := 11) (k := 4) (Cn := RX5) (T := TX5) C tyX5 tyX5_ok nmX5 hX.symm zm2 rfl rfl zinX5 (by decide) rfl fl_RX5_66 rfl rfl rfl rfl hd (kk _ hM)
theorem gf_RX5_73 (C : Cx X p R s m args meth c cc nL RX5 cells slots) (hX : zfl X = false) {i : Nat} (hq : i < 2) (hd : decode cc pc = .ok (.getfield 73, 3)) (kk : V X p l e R s m args below meth c nL cells slots Q g (pc + 3) L ((.inl (g 6001 i 0)) :: st)) : V X p l e R s m args below meth c nL cells slots Q g pc L (.inr (.inl (1, i)) :: st) := v_getN (t := 1) (ci := 2) (N := 13) (k := 5) (Cn := RX2) (T := TX2) C hX.symm (zm1 hq) rfl rfl zinX2 (by decide) rfl fl_RX5_73 hd (v := (.inl (g 6001 i 0))) rfl kk
theorem pf_RX5_73 (C : Cx X p R s m args meth c cc nL RX5 cells slots) (hX : zfl X = false) {i : Nat} (hq : i < 2) {x : Int32} (hd : decode cc pc = .ok (.putfield 73, 3)) {K : zG → zR0} (hM : zw g 6001 i 0 x K = some res) (kk : ∀ g1, K g1 = some res → V X p l e R s m args below meth c nL cells slots Q g1 (pc + 3) L st) : V X p l e R s m args below meth c nL cells slots Q g pc L (.inl x :: .inr (.inl (1, i)) :: st) := v_putN (t := 1) (ci := 2) (N := 13) (k := 5) (Cn := RX2) (T := TX2) C tyX2 tyX2_ok nmX2 hX.symm (zm1 hq) rfl rfl zinX2 (by decide) rfl fl_RX5_73 rfl rfl rfl rfl hd (kk _ hM)
theorem gf_RX5_80 (C : Cx X p R s m args meth c cc nL RX5 cells slots) (hX : zfl X = false) (hd : decode cc pc = .ok (.getfield 80, 3)) (kk : V X p l e R s m args below meth c nL cells slots Q g (pc + 3) L ((.inl (g 7002 0 0)) :: st)) : V X p l e R s m args below meth c nL cells slots Q g pc L (.inr (.inl (2, 0)) :: st) := v_get (t := 2) (ci := 5) (N := 11) (k := 6) (Cn := RX5) (T := TX5) C hX.symm zm2 rfl rfl zinX5 (by decide) rfl fl_RX5_80 hd (v := (.inl (g 7002 0 0))) rfl kk
theorem pf_RX5_80 (C : Cx X p R s m args meth c cc nL RX5 cells slots) (hX : zfl X = false) {x : Int32} (hd : decode cc pc = .ok (.putfield 80, 3)) {K : zG → zR0} (hM : zw g 7002 0 0 x K = some res) (kk : ∀ g1, K g1 = some res → V X p l e R s m args below meth c nL cells slots Q g1 (pc + 3) L st) : V X p l e R s m args below meth c nL cells slots Q g pc L (.inl x :: .inr (.inl (2, 0)) :: st) := v_put (t := 2) (ci := 5) (N := 11) (k := 6) (Cn := RX5) (T := TX5) C tyX5 tyX5_ok nmX5 hX.symm zm2 rfl rfl zinX5 (by decide) rfl fl_RX5_80 rfl rfl rfl rfl hd (kk _ hM)
theorem gf_RX5_144 (C : Cx X p R s m args meth c cc nL RX5 cells slots) (hX : zfl X = false) {i : Nat} (hq : i < 2) (hd : decode cc pc = .ok (.getfield 144, 3)) (kk : V X p l e R s m args below meth c nL cells slots Q g (pc + 3) L ((.inl (g 1001 i 0)) :: st)) : V X p l e R s m args below meth c nL cells slots Q g pc L (.inr (.inl (1, i)) :: st) := v_getN (t := 1) (ci := 2) (N := 13) (k := 0) (Cn := RX2) (T := TX2) C hX.symm (zm1 hq) rfl rfl zinX2 (by decide) rfl fl_RX5_144 hd (v := (.inl (g 1001 i 0))) rfl kk
theorem pf_RX5_144 (C : Cx X p R s m args meth c cc nL RX5 cells slots) (hX : zfl X = false) {i : Nat} (hq : i < 2) {x : Int32} (hd : decode cc pc = .ok (.putfield 144, 3)) {K : zG → zR0} (hM : zw g 1001 i 0 x K = some res) (kk : ∀ g1, K g1 = some res → V X p l e R s m args below meth c nL cells slots Q g1 (pc + 3) L st) : V X p l e R s m args below meth c nL cells slots Q g pc L (.inl x :: .inr (.inl (1, i)) :: st) := v_putN (t := 1) (ci := 2) (N := 13) (k := 0) (Cn := RX2) (T := TX2) C tyX2 tyX2_ok nmX2 hX.symm (zm1 hq) rfl rfl zinX2 (by decide) rfl fl_RX5_144 rfl rfl rfl rfl hd (kk _ hM)
theorem gf_RX5_148 (C : Cx X p R s m args meth c cc nL RX5 cells slots) (hX : zfl X = false) {i : Nat} (hq : i < 2) (hd : decode cc pc = .ok (.getfield 148, 3)) (kk : V X p l e R s m args below meth c nL cells slots Q g (pc + 3) L ((.inl (g 2001 i 0)) :: st)) : V X p l e R s m args below meth c nL cells slots Q g pc L (.inr (.inl (1, i)) :: st) := v_getN (t := 1) (ci := 2) (N := 13) (k := 1) (Cn := RX2) (T := TX2) C hX.symm (zm1 hq) rfl rfl zinX2 (by decide) rfl fl_RX5_148 hd (v := (.inl (g 2001 i 0))) rfl kk
theorem pf_RX5_148 (C : Cx X p R s m args meth c cc nL RX5 cells slots) (hX : zfl X = false) {i : Nat} (hq : i < 2) {x : Int32} (hd : decode cc pc = .ok (.putfield 148, 3)) {K : zG → zR0} (hM : zw g 2001 i 0 x K = some res) (kk : ∀ g1, K g1 = some res → V X p l e R s m args below meth c nL cells slots Q g1 (pc + 3) L st) : V X p l e R s m args below meth c nL cells slots Q g pc L (.inl x :: .inr (.inl (1, i)) :: st) := v_putN (t := 1) (ci := 2) (N := 13) (k := 1) (Cn := RX2) (T := TX2) C tyX2 tyX2_ok nmX2 hX.symm (zm1 hq) rfl rfl zinX2 (by decide) rfl fl_RX5_148 rfl rfl rfl rfl hd (kk _ hM)
theorem gf_RX5_152 (C : Cx X p R s m args meth c cc nL RX5 cells slots) (hX : zfl X = false) {i : Nat} (hq : i < 2) (hd : decode cc pc = .ok (.getfield 152, 3)) (kk : V X p l e R s m args below meth c nL cells slots Q g (pc + 3) L ((.inl (g 3001 i 0)) :: st)) : V X p l e R s m args below meth c nL cells slots Q g pc L (.inr (.inl (1, i)) :: st) := v_getN (t := 1) (ci := 2) (N := 13) (k := 2) (Cn := RX2) (T := TX2) C hX.symm (zm1 hq) rfl rfl zinX2 (by decide) rfl fl_RX5_152 hd (v := (.inl (g 3001 i 0))) rfl kk
theorem pf_RX5_152 (C : Cx X p R s m args meth c cc nL RX5 cells slots) (hX : zfl X = false) {i : Nat} (hq : i < 2) {x : Int32} (hd : decode cc pc = .ok (.putfield 152, 3)) {K : zG → zR0} (hM : zw g 3001 i 0 x K = some res) (kk : ∀ g1, K g1 = some res → V X p l e R s m args below meth c nL cells slots Q g1 (pc + 3) L st) : V X p l e R s m args below meth c nL cells slots Q g pc L (.inl x :: .inr (.inl (1, i)) :: st) := v_putN (t := 1) (ci := 2) (N := 13) (k := 2) (Cn := RX2) (T := TX2) C tyX2 tyX2_ok nmX2 hX.symm (zm1 hq) rfl rfl zinX2 (by decide) rfl fl_RX5_152 rfl rfl rfl rfl hd (kk _ hM)
theorem gf_RX5_162 (C : Cx X p R s m args meth c cc nL RX5 cells slots) (hX : zfl X = false) {i : Nat} (hq : i < 2) (hd : decode cc pc = .ok (.getfield 162, 3)) (kk : V X p l e R s m args below meth c nL cells slots Q g (pc + 3) L ((.inl (g 5001 i 0)) :: st)) : V X p l e R s m args below meth c nL cells slots Q g pc L (.inr (.inl (1, i)) :: st) := v_getN (t := 1) (ci := 2) (N := 13) (k := 4) (Cn := RX2) (T := TX2) C hX.symm (zm1 hq) rfl rfl zinX2 (by decide) rfl fl_RX5_162 hd (v := (.inl (g 5001 i 0))) rfl kk
theorem pf_RX5_162 (C : Cx X p R s m args meth c cc nL RX5 cells slots) (hX : zfl X = false) {i : Nat} (hq : i < 2) {x : Int32} (hd : decode cc pc = .ok (.putfield 162, 3)) {K : zG → zR0} (hM : zw g 5001 i 0 x K = some res) (kk : ∀ g1, K g1 = some res → V X p l e R s m args below meth c nL cells slots Q g1 (pc + 3) L st) : V X p l e R s m args below meth c nL cells slots Q g pc L (.inl x :: .inr (.inl (1, i)) :: st) := v_putN (t := 1) (ci := 2) (N := 13) (k := 4) (Cn := RX2) (T := TX2) C tyX2 tyX2_ok nmX2 hX.symm (zm1 hq) rfl rfl zinX2 (by decide) rfl fl_RX5_162 rfl rfl rfl rfl hd (kk _ hM)
theorem pf_RX5_166 (C : Cx X p R s m args meth c cc nL RX5 cells slots) (hX : zfl X = false) {i : Nat} (hq : i < 2) {x : Int32} (hd : decode cc pc = .ok (.putfield 166, 3)) {K : zG → zR0} (hM : zw g 4001 i 0 x K = some res) (kk : ∀ g1, K g1 = some res → V X p l e R s m args below meth c nL cells slots Q g1 (pc + 3) L st) : V X p l e R s m args below meth c nL cells slots Q g pc L (.inl x :: .inr (.inl (1, i)) :: st) := v_putN (t := 1) (ci := 2) (N := 13) (k := 3) (Cn := RX2) (T := TX2) C tyX2 tyX2_ok nmX2 hX.symm (zm1 hq) rfl rfl zinX2 (by decide) rfl fl_RX5_166 rfl rfl rfl rfl hd (kk _ hM)
theorem gf_RX5_172 (C : Cx X p R s m args meth c cc nL RX5 cells slots) (hX : zfl X = false) {i : Nat} (hq : i < 2) (hd : decode cc pc = .ok (.getfield 172, 3)) (kk : V X p l e R s m args below meth c nL cells slots Q g (pc + 3) L ((.inl (g 7001 i 0)) :: st)) : V X p l e R s m args below meth c nL cells slots Q g pc L (.inr (.inl (1, i)) :: st) := v_getN (t := 1) (ci := 2) (N := 13) (k := 6) (Cn := RX2) (T := TX2) C hX.symm (zm1 hq) rfl rfl zinX2 (by decide) rfl fl_RX5_172 hd (v := (.inl (g 7001 i 0))) rfl kk
theorem gf_RX5_181 (C : Cx X p R s m args meth c cc nL RX5 cells slots) (hX : zfl X = false) {i : Nat} (hq : i < 2) (hd : decode cc pc = .ok (.getfield 181, 3)) (kk : V X p l e R s m args below meth c nL cells slots Q g (pc + 3) L ((.inr (.inl (16, i))) :: st)) : V X p l e R s m args below meth c nL cells slots Q g pc L (.inr (.inl (1, i)) :: st) := v_getN (t := 1) (ci := 2) (N := 13) (k := 12) (Cn := RX2) (T := TX2) C hX.symm (zm1 hq) rfl rfl zinX2 (by decide) rfl fl_RX5_181 hd (v := (.inr (.inl (16, i)))) rfl kk
theorem gf_RX5_192 (C : Cx X p R s m args meth c cc nL RX5 cells slots) (hX : zfl X = false) {i : Nat} (hq : i < 2) (hd : decode cc pc = .ok (.getfield 192, 3)) (kk : V X p l e R s m args below meth c nL cells slots Q g (pc + 3) L ((.inr (.inl (11, i))) :: st)) : V X p l e R s m args below meth c nL cells slots Q g pc L (.inr (.inl (1, i)) :: st) := v_getN (t := 1) (ci := 2) (N := 13) (k := 7) (Cn := RX2) (T := TX2) C hX.symm (zm1 hq) rfl rfl zinX2 (by decide) rfl fl_RX5_192 hd (v := (.inr (.inl (11, i)))) rfl kk
theorem gf_RX7_9 (C : Cx X p R s m args meth c cc nL RX7 cells slots) (hX : zfl X = true) (hd : decode cc pc = .ok (.getfield 9, 3)) (kk : V X p l e R s m args below meth c nL cells slots Q g (pc + 3) L ((.inl (g 4007 0 0)) :: st)) : V X p l e R s m args below meth c nL cells slots Q g pc L (.inr (.inl (7, 0)) :: st) := v_get (t := 7) (ci := 7) (N := 42) (k := 3) (Cn := RX7) (T := TX7) C hX.symm zm7 rfl rfl zinX7 (by decide) rfl fl_RX7_9 hd (v := (.inl (g 4007 0 0))) rfl kk
theorem pf_RX7_9 (C : Cx X p R s m args meth c cc nL RX7 cells slots) (hX : zfl X = true) {x : Int32} (hd : decode cc pc = .ok (.putfield 9, 3)) {K : zG → zR0} (hM : zw g 4007 0 0 x K = some res) (kk : ∀ g1, K g1 = some res → V X p l e R s m args below meth c nL cells slots Q g1 (pc + 3) L st) : V X p l e R s m args below meth c nL cells slots Q g pc L (.inl x :: .inr (.inl (7, 0)) :: st) := v_put (t := 7) (ci := 7) (N := 42) (k := 3) (Cn := RX7) (T := TX7) C tyX7 tyX7_ok nmX7 hX.symm zm7 rfl rfl zinX7 (by decide) rfl fl_RX7_9 rfl rfl rfl rfl hd (kk _ hM)
theorem gf_RX7_13 (C : Cx X p R s m args meth c cc nL RX7 cells slots) (hX : zfl X = true) (hd : decode cc pc = .ok (.getfield 13, 3)) (kk : V X p l e R s m args below meth c nL cells slots Q g (pc + 3) L ((.inr (.inl (30, 0))) :: st)) : V X p l e R s m args below meth c nL cells slots Q g pc L (.inr (.inl (7, 0)) :: st) := v_get (t := 7) (ci := 7) (N := 42) (k := 4) (Cn := RX7) (T := TX7) C hX.symm zm7 rfl rfl zinX7 (by decide) rfl fl_RX7_13 hd (v := (.inr (.inl (30, 0)))) rfl kk
theorem gf_RX7_17 (C : Cx X p R s m args meth c cc nL RX7 cells slots) (hX : zfl X = true) (hd : decode cc pc = .ok (.getfield 17, 3)) (kk : V X p l e R s m args below meth c nL cells slots Q g (pc + 3) L ((.inr (.inl (31, 0))) :: st)) : V X p l e R s m args below meth c nL cells slots Q g pc L (.inr (.inl (7, 0)) :: st) := v_get (t := 7) (ci := 7) (N := 42) (k := 6) (Cn := RX7) (T := TX7) C hX.symm zm7 rfl rfl zinX7 (by decide) rfl fl_RX7_17 hd (v := (.inr (.inl (31, 0)))) rfl kk
theorem gf_RX7_20 (C : Cx X p R s m args meth c cc nL RX7 cells slots) (hX : zfl X = true) (hd : decode cc pc = .ok (.getfield 20, 3)) (kk : V X p l e R s m args below meth c nL cells slots Q g (pc + 3) L ((.inr (.inl (32, 0))) :: st)) : V X p l e R s m args below meth c nL cells slots Q g pc L (.inr (.inl (7, 0)) :: st) := v_get (t := 7) (ci := 7) (N := 42) (k := 7) (Cn := RX7) (T := TX7) C hX.symm zm7 rfl rfl zinX7 (by decide) rfl fl_RX7_20 hd (v := (.inr (.inl (32, 0)))) rfl kk
theorem gf_RX7_23 (C : Cx X p R s m args meth c cc nL RX7 cells slots) (hX : zfl X = true) (hd : decode cc pc = .ok (.getfield 23, 3)) (kk : V X p l e R s m args below meth c nL cells slots Q g (pc + 3) L ((.inr (.inl (33, 0))) :: st)) : V X p l e R s m args below meth c nL cells slots Q g pc L (.inr (.inl (7, 0)) :: st) := v_get (t := 7) (ci := 7) (N := 42) (k := 10) (Cn := RX7) (T := TX7) C hX.symm zm7 rfl rfl zinX7 (by decide) rfl fl_RX7_23 hd (v := (.inr (.inl (33, 0)))) rfl kk
theorem gf_RX7_26 (C : Cx X p R s m args meth c cc nL RX7 cells slots) (hX : zfl X = true) (hd : decode cc pc = .ok (.getfield 26, 3)) (kk : V X p l e R s m args below meth c nL cells slots Q g (pc + 3) L ((.inr (.inl (34, 0))) :: st)) : V X p l e R s m args below meth c nL cells slots Q g pc L (.inr (.inl (7, 0)) :: st) := v_get (t := 7) (ci := 7) (N := 42) (k := 11) (Cn := RX7) (T := TX7) C hX.symm zm7 rfl rfl zinX7 (by decide) rfl fl_RX7_26 hd (v := (.inr (.inl (34, 0)))) rfl kk
theorem gf_RX7_29 (C : Cx X p R s m args meth c cc nL RX7 cells slots) (hX : zfl X = true) (hd : decode cc pc = .ok (.getfield 29, 3)) (kk : V X p l e R s m args below meth c nL cells slots Q g (pc + 3) L ((.inr (.inl (35, 0))) :: st)) : V X p l e R s m args below meth c nL cells slots Q g pc L (.inr (.inl (7, 0)) :: st) := v_get (t := 7) (ci := 7) (N := 42) (k := 12) (Cn := RX7) (T := TX7) C hX.symm zm7 rfl rfl zinX7 (by decide) rfl fl_RX7_29 hd (v := (.inr (.inl (35, 0)))) rfl kk
theorem gf_RX7_32 (C : Cx X p R s m args meth c cc nL RX7 cells slots) (hX : zfl X = true) (hd : decode cc pc = .ok (.getfield 32, 3)) (kk : V X p l e R s m args below meth c nL cells slots Q g (pc + 3) L ((.inr (.inl (36, 0))) :: st)) : V X p l e R s m args below meth c nL cells slots Q g pc L (.inr (.inl (7, 0)) :: st) := v_get (t := 7) (ci := 7) (N := 42) (k := 13) (Cn := RX7) (T := TX7) C hX.symm zm7 rfl rfl zinX7 (by decide) rfl fl_RX7_32 hd (v := (.inr (.inl (36, 0)))) rfl kk
theorem gf_RX7_35 (C : Cx X p R s m args meth c cc nL RX7 cells slots) (hX : zfl X = true) (hd : decode cc pc = .ok (.getfield 35, 3)) (kk : V X p l e R s m args below meth c nL cells slots Q g (pc + 3) L ((.inr (.inl (37, 0))) :: st)) : V X p l e R s m args below meth c nL cells slots Q g pc L (.inr (.inl (7, 0)) :: st) := v_get (t := 7) (ci := 7) (N := 42) (k := 14) (Cn := RX7) (T := TX7) C hX.symm zm7 rfl rfl zinX7 (by decide) rfl fl_RX7_35 hd (v := (.inr (.inl (37, 0)))) rfl kk
theorem gf_RX7_38 (C : Cx X p R s m args meth c cc nL RX7 cells slots) (hX : zfl X = true) (hd : decode cc pc = .ok (.getfield 38, 3)) (kk : V X p l e R s m args below meth c nL cells slots Q g (pc + 3) L ((.inr (.inl (38, 0))) :: st)) : V X p l e R s m args below meth c nL cells slots Q g pc L (.inr (.inl (7, 0)) :: st) := v_get (t := 7) (ci := 7) (N := 42) (k := 15) (Cn := RX7) (T := TX7) C hX.symm zm7 rfl rfl zinX7 (by decide) rfl fl_RX7_38 hd (v := (.inr (.inl (38, 0)))) rfl kk
theorem gf_RX7_41 (C : Cx X p R s m args meth c cc nL RX7 cells slots) (hX : zfl X = true) (hd : decode cc pc = .ok (.getfield 41, 3)) (kk : V X p l e R s m args below meth c nL cells slots Q g (pc + 3) L ((.inr (.inl (39, 0))) :: st)) : V X p l e R s m args below meth c nL cells slots Q g pc L (.inr (.inl (7, 0)) :: st) := v_get (t := 7) (ci := 7) (N := 42) (k := 16) (Cn := RX7) (T := TX7) C hX.symm zm7 rfl rfl zinX7 (by decide) rfl fl_RX7_41 hd (v := (.inr (.inl (39, 0)))) rfl kk
theorem gf_RX7_44 (C : Cx X p R s m args meth c cc nL RX7 cells slots) (hX : zfl X = true) (hd : decode cc pc = .ok (.getfield 44, 3)) (kk : V X p l e R s m args below meth c nL cells slots Q g (pc + 3) L ((.inr (.inl (40, 0))) :: st)) : V X p l e R s m args below meth c nL cells slots Q g pc L (.inr (.inl (7, 0)) :: st) := v_get (t := 7) (ci := 7) (N := 42) (k := 17) (Cn := RX7) (T := TX7) C hX.symm zm7 rfl rfl zinX7 (by decide) rfl fl_RX7_44 hd (v := (.inr (.inl (40, 0)))) rfl kk
theorem gf_RX7_47 (C : Cx X p R s m args meth c cc nL RX7 cells slots) (hX : zfl X = true) (hd : decode cc pc = .ok (.getfield 47, 3)) (kk : V X p l e R s m args below meth c nL cells slots Q g (pc + 3) L ((.inr (.inl (41, 0))) :: st)) : V X p l e R s m args below meth c nL cells slots Q g pc L (.inr (.inl (7, 0)) :: st) := v_get (t := 7) (ci := 7) (N := 42) (k := 18) (Cn := RX7) (T := TX7) C hX.symm zm7 rfl rfl zinX7 (by decide) rfl fl_RX7_47 hd (v := (.inr (.inl (41, 0)))) rfl kk
theorem gf_RX7_50 (C : Cx X p R s m args meth c cc nL RX7 cells slots) (hX : zfl X = true) (hd : decode cc pc = .ok (.getfield 50, 3)) (kk : V X p l e R s m args below meth c nL cells slots Q g (pc + 3) L ((.inr (.inl (42, 0))) :: st)) : V X p l e R s m args below meth c nL cells slots Q g pc L (.inr (.inl (7, 0)) :: st) := v_get (t := 7) (ci := 7) (N := 42) (k := 19) (Cn := RX7) (T := TX7) C hX.symm zm7 rfl rfl zinX7 (by decide) rfl fl_RX7_50 hd (v := (.inr (.inl (42, 0)))) rfl kk
theorem gf_RX7_53 (C : Cx X p R s m args meth c cc nL RX7 cells slots) (hX : zfl X = true) (hd : decode cc pc = .ok (.getfield 53, 3)) (kk : V X p l e R s m args below meth c nL cells slots Q g (pc + 3) L ((.inr (.inl (43, 0))) :: st)) : V X p l e R s m args below meth c nL cells slots Q g pc L (.inr (.inl (7, 0)) :: st) := v_get (t := 7) (ci := 7) (N := 42) (k := 30) (Cn := RX7) (T := TX7) C hX.symm zm7 rfl rfl zinX7 (by decide) rfl fl_RX7_53 hd (v := (.inr (.inl (43, 0)))) rfl kk
theorem gf_RX7_56 (C : Cx X p R s m args meth c cc nL RX7 cells slots) (hX : zfl X = true) (hd : decode cc pc = .ok (.getfield 56, 3)) (kk : V X p l e R s m args below meth c nL cells slots Q g (pc + 3) L ((.inr (.inl (44, 0))) :: st)) : V X p l e R s m args below meth c nL cells slots Q g pc L (.inr (.inl (7, 0)) :: st) := v_get (t := 7) (ci := 7) (N := 42) (k := 31) (Cn := RX7) (T := TX7) C hX.symm zm7 rfl rfl zinX7 (by decide) rfl fl_RX7_56 hd (v := (.inr (.inl (44, 0)))) rfl kk
theorem gf_RX7_59 (C : Cx X p R s m args meth c cc nL RX7 cells slots) (hX : zfl X = true) (hd : decode cc pc = .ok (.getfield 59, 3)) (kk : V X p l e R s m args below meth c nL cells slots Q g (pc + 3) L ((.inr (.inl (45, 0))) :: st)) : V X p l e R s m args below meth c nL cells slots Q g pc L (.inr (.inl (7, 0)) :: st) := v_get (t := 7) (ci := 7) (N := 42) (k := 32) (Cn := RX7) (T := TX7) C hX.symm zm7 rfl rfl zinX7 (by decide) rfl fl_RX7_59 hd (v := (.inr (.inl (45, 0)))) rfl kk
theorem gf_RX7_62 (C : Cx X p R s m args meth c cc nL RX7 cells slots) (hX : zfl X = true) (hd : decode cc pc = .ok (.getfield 62, 3)) (kk : V X p l e R s m args below meth c nL cells slots Q g (pc + 3) L ((.inr (.inl (46, 0))) :: st)) : V X p l e R s m args below meth c nL cells slots Q g pc L (.inr (.inl (7, 0)) :: st) := v_get (t := 7) (ci := 7) (N := 42) (k := 38) (Cn := RX7) (T := TX7) C hX.symm zm7 rfl rfl zinX7 (by decide) rfl fl_RX7_62 hd (v := (.inr (.inl (46, 0)))) rfl kk
theorem gf_RX7_65 (C : Cx X p R s m args meth c cc nL RX7 cells slots) (hX : zfl X = true) (hd : decode cc pc = .ok (.getfield 65, 3)) (kk : V X p l e R s m args below meth c nL cells slots Q g (pc + 3) L ((.inl (g 1007 0 0)) :: st)) : V X p l e R s m args below meth c nL cells slots Q g pc L (.inr (.inl (7, 0)) :: st) := v_get (t := 7) (ci := 7) (N := 42) (k := 0) (Cn := RX7) (T := TX7) C hX.symm zm7 rfl rfl zinX7 (by decide) rfl fl_RX7_65 hd (v := (.inl (g 1007 0 0))) rfl kk
theorem pf_RX7_65 (C : Cx X p R s m args meth c cc nL RX7 cells slots) (hX : zfl X = true) {x : Int32} (hd : decode cc pc = .ok (.putfield 65, 3)) {K : zG → zR0} (hM : zw g 1007 0 0 x K = some res) (kk : ∀ g1, K g1 = some res → V X p l e R s m args below meth c nL cells slots Q g1 (pc + 3) L st) : V X p l e R s m args below meth c nL cells slots Q g pc L (.inl x :: .inr (.inl (7, 0)) :: st) := v_put (t := 7) (ci := 7) (N := 42) (k := 0) (Cn := RX7) (T := TX7) C tyX7 tyX7_ok nmX7 hX.symm zm7 rfl rfl zinX7 (by decide) rfl fl_RX7_65 rfl rfl rfl rfl hd (kk _ hM)
theorem gf_RX7_68 (C : Cx X p R s m args meth c cc nL RX7 cells slots) (hX : zfl X = true) (hd : decode cc pc = .ok (.getfield 68, 3)) (kk : V X p l e R s m args below meth c nL cells slots Q g (pc + 3) L ((.inl (g 2007 0 0)) :: st)) : V X p l e R s m args below meth c nL cells slots Q g pc L (.inr (.inl (7, 0)) :: st) := v_get (t := 7) (ci := 7) (N := 42) (k := 1) (Cn := RX7) (T := TX7) C hX.symm zm7 rfl rfl zinX7 (by decide) rfl fl_RX7_68 hd (v := (.inl (g 2007 0 0))) rfl kk
theorem pf_RX7_68 (C : Cx X p R s m args meth c cc nL RX7 cells slots) (hX : zfl X = true) {x : Int32} (hd : decode cc pc = .ok (.putfield 68, 3)) {K : zG → zR0} (hM : zw g 2007 0 0 x K = some res) (kk : ∀ g1, K g1 = some res → V X p l e R s m args below meth c nL cells slots Q g1 (pc + 3) L st) : V X p l e R s m args below meth c nL cells slots Q g pc L (.inl x :: .inr (.inl (7, 0)) :: st) := v_put (t := 7) (ci := 7) (N := 42) (k := 1) (Cn := RX7) (T := TX7) C tyX7 tyX7_ok nmX7 hX.symm zm7 rfl rfl zinX7 (by decide) rfl fl_RX7_68 rfl rfl rfl rfl hd (kk _ hM)
theorem gf_RX7_71 (C : Cx X p R s m args meth c cc nL RX7 cells slots) (hX : zfl X = true) (hd : decode cc pc = .ok (.getfield 71, 3)) (kk : V X p l e R s m args below meth c nL cells slots Q g (pc + 3) L ((.inl (g 6007 0 0)) :: st)) : V X p l e R s m args below meth c nL cells slots Q g pc L (.inr (.inl (7, 0)) :: st) := v_get (t := 7) (ci := 7) (N := 42) (k := 5) (Cn := RX7) (T := TX7) C hX.symm zm7 rfl rfl zinX7 (by decide) rfl fl_RX7_71 hd (v := (.inl (g 6007 0 0))) rfl kk
theorem pf_RX7_71 (C : Cx X p R s m args meth c cc nL RX7 cells slots) (hX : zfl X = true) {x : Int32} (hd : decode cc pc = .ok (.putfield 71, 3)) {K : zG → zR0} (hM : zw g 6007 0 0 x K = some res) (kk : ∀ g1, K g1 = some res → V X p l e R s m args below meth c nL cells slots Q g1 (pc + 3) L st) : V X p l e R s m args below meth c nL cells slots Q g pc L (.inl x :: .inr (.inl (7, 0)) :: st) := v_put (t := 7) (ci := 7) (N := 42) (k := 5) (Cn := RX7) (T := TX7) C tyX7 tyX7_ok nmX7 hX.symm zm7 rfl rfl zinX7 (by decide) rfl fl_RX7_71 rfl rfl rfl rfl hd (kk _ hM)
theorem gf_RX7_78 (C : Cx X p R s m args meth c cc nL RX7 cells slots) (hX : zfl X = true) (hd : decode cc pc = .ok (.getfield 78, 3)) (kk : V X p l e R s m args below meth c nL cells slots Q g (pc + 3) L ((.inl (g 22007 0 0)) :: st)) : V X p l e R s m args below meth c nL cells slots Q g pc L (.inr (.inl (7, 0)) :: st) := v_get (t := 7) (ci := 7) (N := 42) (k := 21) (Cn := RX7) (T := TX7) C hX.symm zm7 rfl rfl zinX7 (by decide) rfl fl_RX7_78 hd (v := (.inl (g 22007 0 0))) rfl kk
theorem pf_RX7_78 (C : Cx X p R s m args meth c cc nL RX7 cells slots) (hX : zfl X = true) {x : Int32} (hd : decode cc pc = .ok (.putfield 78, 3)) {K : zG → zR0} (hM : zw g 22007 0 0 x K = some res) (kk : ∀ g1, K g1 = some res → V X p l e R s m args below meth c nL cells slots Q g1 (pc + 3) L st) : V X p l e R s m args below meth c nL cells slots Q g pc L (.inl x :: .inr (.inl (7, 0)) :: st) := v_put (t := 7) (ci := 7) (N := 42) (k := 21) (Cn := RX7) (T := TX7) C tyX7 tyX7_ok nmX7 hX.symm zm7 rfl rfl zinX7 (by decide) rfl fl_RX7_78 rfl rfl rfl rfl hd (kk _ hM)
theorem gf_RX7_81 (C : Cx X p R s m args meth c cc nL RX7 cells slots) (hX : zfl X = true) (hd : decode cc pc = .ok (.getfield 81, 3)) (kk : V X p l e R s m args below meth c nL cells slots Q g (pc + 3) L ((.inl (g 24007 0 0)) :: st)) : V X p l e R s m args below meth c nL cells slots Q g pc L (.inr (.inl (7, 0)) :: st) := v_get (t := 7) (ci := 7) (N := 42) (k := 23) (Cn := RX7) (T := TX7) C hX.symm zm7 rfl rfl zinX7 (by decide) rfl fl_RX7_81 hd (v := (.inl (g 24007 0 0))) rfl kk
theorem pf_RX7_81 (C : Cx X p R s m args meth c cc nL RX7 cells slots) (hX : zfl X = true) {x : Int32} (hd : decode cc pc = .ok (.putfield 81, 3)) {K : zG → zR0} (hM : zw g 24007 0 0 x K = some res) (kk : ∀ g1, K g1 = some res → V X p l e R s m args below meth c nL cells slots Q g1 (pc + 3) L st) : V X p l e R s m args below meth c nL cells slots Q g pc L (.inl x :: .inr (.inl (7, 0)) :: st) := v_put (t := 7) (ci := 7) (N := 42) (k := 23) (Cn := RX7) (T := TX7) C tyX7 tyX7_ok nmX7 hX.symm zm7 rfl rfl zinX7 (by decide) rfl fl_RX7_81 rfl rfl rfl rfl hd (kk _ hM)
theorem gf_RX7_88 (C : Cx X p R s m args meth c cc nL RX7 cells slots) (hX : zfl X = true) (hd : decode cc pc = .ok (.getfield 88, 3)) (kk : V X p l e R s m args below meth c nL cells slots Q g (pc + 3) L ((.inl (g 23007 0 0)) :: st)) : V X p l e R s m args below meth c nL cells slots Q g pc L (.inr (.inl (7, 0)) :: st) := v_get (t := 7) (ci := 7) (N := 42) (k := 22) (Cn := RX7) (T := TX7) C hX.symm zm7 rfl rfl zinX7 (by decide) rfl fl_RX7_88 hd (v := (.inl (g 23007 0 0))) rfl kk
theorem pf_RX7_88 (C : Cx X p R s m args meth c cc nL RX7 cells slots) (hX : zfl X = true) {x : Int32} (hd : decode cc pc = .ok (.putfield 88, 3)) {K : zG → zR0} (hM : zw g 23007 0 0 x K = some res) (kk : ∀ g1, K g1 = some res → V X p l e R s m args below meth c nL cells slots Q g1 (pc + 3) L st) : V X p l e R s m args below meth c nL cells slots Q g pc L (.inl x :: .inr (.inl (7, 0)) :: st) := v_put (t := 7) (ci := 7) (N := 42) (k := 22) (Cn := RX7) (T := TX7) C tyX7 tyX7_ok nmX7 hX.symm zm7 rfl rfl zinX7 (by decide) rfl fl_RX7_88 rfl rfl rfl rfl hd (kk _ hM)
theorem gf_RX7_91 (C : Cx X p R s m args meth c cc nL RX7 cells slots) (hX : zfl X = true) (hd : decode cc pc = .ok (.getfield 91, 3)) (kk : V X p l e R s m args below meth c nL cells slots Q g (pc + 3) L ((.inl (g 25007 0 0)) :: st)) : V X p l e R s m args below meth c nL cells slots Q g pc L (.inr (.inl (7, 0)) :: st) := v_get (t := 7) (ci := 7) (N := 42) (k := 24) (Cn := RX7) (T := TX7) C hX.symm zm7 rfl rfl zinX7 (by decide) rfl fl_RX7_91 hd (v := (.inl (g 25007 0 0))) rfl kk
theorem pf_RX7_91 (C : Cx X p R s m args meth c cc nL RX7 cells slots) (hX : zfl X = true) {x : Int32} (hd : decode cc pc = .ok (.putfield 91, 3)) {K : zG → zR0} (hM : zw g 25007 0 0 x K = some res) (kk : ∀ g1, K g1 = some res → V X p l e R s m args below meth c nL cells slots Q g1 (pc + 3) L st) : V X p l e R s m args below meth c nL cells slots Q g pc L (.inl x :: .inr (.inl (7, 0)) :: st) := v_put (t := 7) (ci := 7) (N := 42) (k := 24) (Cn := RX7) (T := TX7) C tyX7 tyX7_ok nmX7 hX.symm zm7 rfl rfl zinX7 (by decide) rfl fl_RX7_91 rfl rfl rfl rfl hd (kk _ hM)
theorem gf_RX7_98 (C : Cx X p R s m args meth c cc nL RX7 cells slots) (hX : zfl X = true) (hd : decode cc pc = .ok (.getfield 98, 3)) (kk : V X p l e R s m args below meth c nL cells slots Q g (pc + 3) L ((.inl (g 26007 0 0)) :: st)) : V X p l e R s m args below meth c nL cells slots Q g pc L (.inr (.inl (7, 0)) :: st) := v_get (t := 7) (ci := 7) (N := 42) (k := 25) (Cn := RX7) (T := TX7) C hX.symm zm7 rfl rfl zinX7 (by decide) rfl fl_RX7_98 hd (v := (.inl (g 26007 0 0))) rfl kk
theorem pf_RX7_98 (C : Cx X p R s m args meth c cc nL RX7 cells slots) (hX : zfl X = true) {x : Int32} (hd : decode cc pc = .ok (.putfield 98, 3)) {K : zG → zR0} (hM : zw g 26007 0 0 x K = some res) (kk : ∀ g1, K g1 = some res → V X p l e R s m args below meth c nL cells slots Q g1 (pc + 3) L st) : V X p l e R s m args below meth c nL cells slots Q g pc L (.inl x :: .inr (.inl (7, 0)) :: st) := v_put (t := 7) (ci := 7) (N := 42) (k := 25) (Cn := RX7) (T := TX7) C tyX7 tyX7_ok nmX7 hX.symm zm7 rfl rfl zinX7 (by decide) rfl fl_RX7_98 rfl rfl rfl rfl hd (kk _ hM)
theorem gf_RX7_111 (C : Cx X p R s m args meth c cc nL RX7 cells slots) (hX : zfl X = true) (hd : decode cc pc = .ok (.getfield 111, 3)) (kk : V X p l e R s m args below meth c nL cells slots Q g (pc + 3) L ((.inl (g 27007 0 0)) :: st)) : V X p l e R s m args below meth c nL cells slots Q g pc L (.inr (.inl (7, 0)) :: st) := v_get (t := 7) (ci := 7) (N := 42) (k := 26) (Cn := RX7) (T := TX7) C hX.symm zm7 rfl rfl zinX7 (by decide) rfl fl_RX7_111 hd (v := (.inl (g 27007 0 0))) rfl kk
theorem pf_RX7_111 (C : Cx X p R s m args meth c cc nL RX7 cells slots) (hX : zfl X = true) {x : Int32} (hd : decode cc pc = .ok (.putfield 111, 3)) {K : zG → zR0} (hM : zw g 27007 0 0 x K = some res) (kk : ∀ g1, K g1 = some res → V X p l e R s m args below meth c nL cells slots Q g1 (pc + 3) L st) : V X p l e R s m args below meth c nL cells slots Q g pc L (.inl x :: .inr (.inl (7, 0)) :: st) := v_put (t := 7) (ci := 7) (N := 42) (k := 26) (Cn := RX7) (T := TX7) C tyX7 tyX7_ok nmX7 hX.symm zm7 rfl rfl zinX7 (by decide) rfl fl_RX7_111 rfl rfl rfl rfl hd (kk _ hM)
theorem gf_RX7_114 (C : Cx X p R s m args meth c cc nL RX7 cells slots) (hX : zfl X = true) (hd : decode cc pc = .ok (.getfield 114, 3)) (kk : V X p l e R s m args below meth c nL cells slots Q g (pc + 3) L ((.inl (g 28007 0 0)) :: st)) : V X p l e R s m args below meth c nL cells slots Q g pc L (.inr (.inl (7, 0)) :: st) := v_get (t := 7) (ci := 7) (N := 42) (k := 27) (Cn := RX7) (T := TX7) C hX.symm zm7 rfl rfl zinX7 (by decide) rfl fl_RX7_114 hd (v := (.inl (g 28007 0 0))) rfl kk
theorem pf_RX7_114 (C : Cx X p R s m args meth c cc nL RX7 cells slots) (hX : zfl X = true) {x : Int32} (hd : decode cc pc = .ok (.putfield 114, 3)) {K : zG → zR0} (hM : zw g 28007 0 0 x K = some res) (kk : ∀ g1, K g1 = some res → V X p l e R s m args below meth c nL cells slots Q g1 (pc + 3) L st) : V X p l e R s m args below meth c nL cells slots Q g pc L (.inl x :: .inr (.inl (7, 0)) :: st) := v_put (t := 7) (ci := 7) (N := 42) (k := 27) (Cn := RX7) (T := TX7) C tyX7 tyX7_ok nmX7 hX.symm zm7 rfl rfl zinX7 (by decide) rfl fl_RX7_114 rfl rfl rfl rfl hd (kk _ hM)
theorem gf_RX7_134 (C : Cx X p R s m args meth c cc nL RX7 cells slots) (hX : zfl X = true) (hd : decode cc pc = .ok (.getfield 134, 3)) (kk : V X p l e R s m args below meth c nL cells slots Q g (pc + 3) L ((.inl (g 29007 0 0)) :: st)) : V X p l e R s m args below meth c nL cells slots Q g pc L (.inr (.inl (7, 0)) :: st) := v_get (t := 7) (ci := 7) (N := 42) (k := 28) (Cn := RX7) (T := TX7) C hX.symm zm7 rfl rfl zinX7 (by decide) rfl fl_RX7_134 hd (v := (.inl (g 29007 0 0))) rfl kk
theorem pf_RX7_134 (C : Cx X p R s m args meth c cc nL RX7 cells slots) (hX : zfl X = true) {x : Int32} (hd : decode cc pc = .ok (.putfield 134, 3)) (hz : x = nI 0 ∨ x = nI 1) {K : zG → zR0} (hM : zw g 29007 0 0 x K = some res) (kk : ∀ g1, K g1 = some res → V X p l e R s m args below meth c nL cells slots Q g1 (pc + 3) L st) : V X p l e R s m args below meth c nL cells slots Q g pc L (.inl x :: .inr (.inl (7, 0)) :: st) := v_put (t := 7) (ci := 7) (N := 42) (k := 28) (Cn := RX7) (T := TX7) C tyX7 tyX7_ok nmX7 hX.symm zm7 rfl rfl zinX7 (by decide) rfl fl_RX7_134 rfl rfl (zbo_n hz) (zbo_f hz) hd (kk _ hM)
theorem gf_RX7_162 (C : Cx X p R s m args meth c cc nL RX7 cells slots) (hX : zfl X = true) (hd : decode cc pc = .ok (.getfield 162, 3)) (kk : V X p l e R s m args below meth c nL cells slots Q g (pc + 3) L ((.inl (g 10007 0 0)) :: st)) : V X p l e R s m args below meth c nL cells slots Q g pc L (.inr (.inl (7, 0)) :: st) := v_get (t := 7) (ci := 7) (N := 42) (k := 9) (Cn := RX7) (T := TX7) C hX.symm zm7 rfl rfl zinX7 (by decide) rfl fl_RX7_162 hd (v := (.inl (g 10007 0 0))) rfl kk
theorem pf_RX7_162 (C : Cx X p R s m args meth c cc nL RX7 cells slots) (hX : zfl X = true) {x : Int32} (hd : decode cc pc = .ok (.putfield 162, 3)) {K : zG → zR0} (hM : zw g 10007 0 0 x K = some res) (kk : ∀ g1, K g1 = some res → V X p l e R s m args below meth c nL cells slots Q g1 (pc + 3) L st) : V X p l e R s m args below meth c nL cells slots Q g pc L (.inl x :: .inr (.inl (7, 0)) :: st) := v_put (t := 7) (ci := 7) (N := 42) (k := 9) (Cn := RX7) (T := TX7) C tyX7 tyX7_ok nmX7 hX.symm zm7 rfl rfl zinX7 (by decide) rfl fl_RX7_162 rfl rfl rfl rfl hd (kk _ hM)
theorem gf_RX7_168 (C : Cx X p R s m args meth c cc nL RX7 cells slots) (hX : zfl X = true) (hd : decode cc pc = .ok (.getfield 168, 3)) (kk : V X p l e R s m args below meth c nL cells slots Q g (pc + 3) L ((.inl (g 30007 0 0)) :: st)) : V X p l e R s m args below meth c nL cells slots Q g pc L (.inr (.inl (7, 0)) :: st) := v_get (t := 7) (ci := 7) (N := 42) (k := 29) (Cn := RX7) (T := TX7) C hX.symm zm7 rfl rfl zinX7 (by decide) rfl fl_RX7_168 hd (v := (.inl (g 30007 0 0))) rfl kk
theorem pf_RX7_168 (C : Cx X p R s m args meth c cc nL RX7 cells slots) (hX : zfl X = true) {x : Int32} (hd : decode cc pc = .ok (.putfield 168, 3)) (hz : x = nI 0 ∨ x = nI 1) {K : zG → zR0} (hM : zw g 30007 0 0 x K = some res) (kk : ∀ g1, K g1 = some res → V X p l e R s m args below meth c nL cells slots Q g1 (pc + 3) L st) : V X p l e R s m args below meth c nL cells slots Q g pc L (.inl x :: .inr (.inl (7, 0)) :: st) := v_put (t := 7) (ci := 7) (N := 42) (k := 29) (Cn := RX7) (T := TX7) C tyX7 tyX7_ok nmX7 hX.symm zm7 rfl rfl zinX7 (by decide) rfl fl_RX7_168 rfl rfl (zbo_n hz) (zbo_f hz) hd (kk _ hM)
theorem gf_RX7_217 (C : Cx X p R s m args meth c cc nL RX7 cells slots) (hX : zfl X = true) (hd : decode cc pc = .ok (.getfield 217, 3)) (kk : V X p l e R s m args below meth c nL cells slots Q g (pc + 3) L ((.inl (g 3007 0 0)) :: st)) : V X p l e R s m args below meth c nL cells slots Q g pc L (.inr (.inl (7, 0)) :: st) := v_get (t := 7) (ci := 7) (N := 42) (k := 2) (Cn := RX7) (T := TX7) C hX.symm zm7 rfl rfl zinX7 (by decide) rfl fl_RX7_217 hd (v := (.inl (g 3007 0 0))) rfl kk
theorem pf_RX7_217 (C : Cx X p R s m args meth c cc nL RX7 cells slots) (hX : zfl X = true) {x : Int32} (hd : decode cc pc = .ok (.putfield 217, 3)) {K : zG → zR0} (hM : zw g 3007 0 0 x K = some res) (kk : ∀ g1, K g1 = some res → V X p l e R s m args below meth c nL cells slots Q g1 (pc + 3) L st) : V X p l e R s m args below meth c nL cells slots Q g pc L (.inl x :: .inr (.inl (7, 0)) :: st) := v_put (t := 7) (ci := 7) (N := 42) (k := 2) (Cn := RX7) (T := TX7) C tyX7 tyX7_ok nmX7 hX.symm zm7 rfl rfl zinX7 (by decide) rfl fl_RX7_217 rfl rfl rfl rfl hd (kk _ hM)
theorem gf_RX7_223 (C : Cx X p R s m args meth c cc nL RX7 cells slots) (hX : zfl X = true) (hd : decode cc pc = .ok (.getfield 223, 3)) (kk : V X p l e R s m args below meth c nL cells slots Q g (pc + 3) L ((.inl (g 9007 0 0)) :: st)) : V X p l e R s m args below meth c nL cells slots Q g pc L (.inr (.inl (7, 0)) :: st) := v_get (t := 7) (ci := 7) (N := 42) (k := 8) (Cn := RX7) (T := TX7) C hX.symm zm7 rfl rfl zinX7 (by decide) rfl fl_RX7_223 hd (v := (.inl (g 9007 0 0))) rfl kk
theorem pf_RX7_223 (C : Cx X p R s m args meth c cc nL RX7 cells slots) (hX : zfl X = true) {x : Int32} (hd : decode cc pc = .ok (.putfield 223, 3)) {K : zG → zR0} (hM : zw g 9007 0 0 x K = some res) (kk : ∀ g1, K g1 = some res → V X p l e R s m args below meth c nL cells slots Q g1 (pc + 3) L st) : V X p l e R s m args below meth c nL cells slots Q g pc L (.inl x :: .inr (.inl (7, 0)) :: st) := v_put (t := 7) (ci := 7) (N := 42) (k := 8) (Cn := RX7) (T := TX7) C tyX7 tyX7_ok nmX7 hX.symm zm7 rfl rfl zinX7 (by decide) rfl fl_RX7_223 rfl rfl rfl rfl hd (kk _ hM)
theorem gf_RX7_226 (C : Cx X p R s m args meth c cc nL RX7 cells slots) (hX : zfl X = true) (hd : decode cc pc = .ok (.getfield 226, 3)) (kk : V X p l e R s m args below meth c nL cells slots Q g (pc + 3) L ((.inl (g 21007 0 0)) :: st)) : V X p l e R s m args below meth c nL cells slots Q g pc L (.inr (.inl (7, 0)) :: st) := v_get (t := 7) (ci := 7) (N := 42) (k := 20) (Cn := RX7) (T := TX7) C hX.symm zm7 rfl rfl zinX7 (by decide) rfl fl_RX7_226 hd (v := (.inl (g 21007 0 0))) rfl kk
theorem pf_RX7_226 (C : Cx X p R s m args meth c cc nL RX7 cells slots) (hX : zfl X = true) {x : Int32} (hd : decode cc pc = .ok (.putfield 226, 3)) (hz : x = nI 0 ∨ x = nI 1) {K : zG → zR0} (hM : zw g 21007 0 0 x K = some res) (kk : ∀ g1, K g1 = some res → V X p l e R s m args below meth c nL cells slots Q g1 (pc + 3) L st) : V X p l e R s m args below meth c nL cells slots Q g pc L (.inl x :: .inr (.inl (7, 0)) :: st) := v_put (t := 7) (ci := 7) (N := 42) (k := 20) (Cn := RX7) (T := TX7) C tyX7 tyX7_ok nmX7 hX.symm zm7 rfl rfl zinX7 (by decide) rfl fl_RX7_226 rfl rfl (zbo_n hz) (zbo_f hz) hd (kk _ hM)
theorem gf_RX7_229 (C : Cx X p R s m args meth c cc nL RX7 cells slots) (hX : zfl X = true) (hd : decode cc pc = .ok (.getfield 229, 3)) (kk : V X p l e R s m args below meth c nL cells slots Q g (pc + 3) L ((.inl (g 34007 0 0)) :: st)) : V X p l e R s m args below meth c nL cells slots Q g pc L (.inr (.inl (7, 0)) :: st) := v_get (t := 7) (ci := 7) (N := 42) (k := 33) (Cn := RX7) (T := TX7) C hX.symm zm7 rfl rfl zinX7 (by decide) rfl fl_RX7_229 hd (v := (.inl (g 34007 0 0))) rfl kk
theorem pf_RX7_229 (C : Cx X p R s m args meth c cc nL RX7 cells slots) (hX : zfl X = true) {x : Int32} (hd : decode cc pc = .ok (.putfield 229, 3)) (hz : x = nI 0 ∨ x = nI 1) {K : zG → zR0} (hM : zw g 34007 0 0 x K = some res) (kk : ∀ g1, K g1 = some res → V X p l e R s m args below meth c nL cells slots Q g1 (pc + 3) L st) : V X p l e R s m args below meth c nL cells slots Q g pc L (.inl x :: .inr (.inl (7, 0)) :: st) := v_put (t := 7) (ci := 7) (N := 42) (k := 33) (Cn := RX7) (T := TX7) C tyX7 tyX7_ok nmX7 hX.symm zm7 rfl rfl zinX7 (by decide) rfl fl_RX7_229 rfl rfl (zbo_n hz) (zbo_f hz) hd (kk _ hM)
theorem gf_RX7_238 (C : Cx X p R s m args meth c cc nL RX7 cells slots) (hX : zfl X = true) (hd : decode cc pc = .ok (.getfield 238, 3)) (kk : V X p l e R s m args below meth c nL cells slots Q g (pc + 3) L ((.inl (g 35007 0 0)) :: st)) : V X p l e R s m args below meth c nL cells slots Q g pc L (.inr (.inl (7, 0)) :: st) := v_get (t := 7) (ci := 7) (N := 42) (k := 34) (Cn := RX7) (T := TX7) C hX.symm zm7 rfl rfl zinX7 (by decide) rfl fl_RX7_238 hd (v := (.inl (g 35007 0 0))) rfl kk
theorem pf_RX7_238 (C : Cx X p R s m args meth c cc nL RX7 cells slots) (hX : zfl X = true) {x : Int32} (hd : decode cc pc = .ok (.putfield 238, 3)) {K : zG → zR0} (hM : zw g 35007 0 0 x K = some res) (kk : ∀ g1, K g1 = some res → V X p l e R s m args below meth c nL cells slots Q g1 (pc + 3) L st) : V X p l e R s m args below meth c nL cells slots Q g pc L (.inl x :: .inr (.inl (7, 0)) :: st) := v_put (t := 7) (ci := 7) (N := 42) (k := 34) (Cn := RX7) (T := TX7) C tyX7 tyX7_ok nmX7 hX.symm zm7 rfl rfl zinX7 (by decide) rfl fl_RX7_238 rfl rfl rfl rfl hd (kk _ hM)
theorem gf_RX7_240 (C : Cx X p R s m args meth c cc nL RX7 cells slots) (hX : zfl X = true) (hd : decode cc pc = .ok (.getfield 240, 3)) (kk : V X p l e R s m args below meth c nL cells slots Q g (pc + 3) L ((.inl (g 36007 0 0)) :: st)) : V X p l e R s m args below meth c nL cells slots Q g pc L (.inr (.inl (7, 0)) :: st) := v_get (t := 7) (ci := 7) (N := 42) (k := 35) (Cn := RX7) (T := TX7) C hX.symm zm7 rfl rfl zinX7 (by decide) rfl fl_RX7_240 hd (v := (.inl (g 36007 0 0))) rfl kk
theorem pf_RX7_240 (C : Cx X p R s m args meth c cc nL RX7 cells slots) (hX : zfl X = true) {x : Int32} (hd : decode cc pc = .ok (.putfield 240, 3)) {K : zG → zR0} (hM : zw g 36007 0 0 x K = some res) (kk : ∀ g1, K g1 = some res → V X p l e R s m args below meth c nL cells slots Q g1 (pc + 3) L st) : V X p l e R s m args below meth c nL cells slots Q g pc L (.inl x :: .inr (.inl (7, 0)) :: st) := v_put (t := 7) (ci := 7) (N := 42) (k := 35) (Cn := RX7) (T := TX7) C tyX7 tyX7_ok nmX7 hX.symm zm7 rfl rfl zinX7 (by decide) rfl fl_RX7_240 rfl rfl rfl rfl hd (kk _ hM)
theorem gf_RX7_242 (C : Cx X p R s m args meth c cc nL RX7 cells slots) (hX : zfl X = true) (hd : decode cc pc = .ok (.getfield 242, 3)) (kk : V X p l e R s m args below meth c nL cells slots Q g (pc + 3) L ((.inl (g 37007 0 0)) :: st)) : V X p l e R s m args below meth c nL cells slots Q g pc L (.inr (.inl (7, 0)) :: st) := v_get (t := 7) (ci := 7) (N := 42) (k := 36) (Cn := RX7) (T := TX7) C hX.symm zm7 rfl rfl zinX7 (by decide) rfl fl_RX7_242 hd (v := (.inl (g 37007 0 0))) rfl kk
theorem pf_RX7_242 (C : Cx X p R s m args meth c cc nL RX7 cells slots) (hX : zfl X = true) {x : Int32} (hd : decode cc pc = .ok (.putfield 242, 3)) {K : zG → zR0} (hM : zw g 37007 0 0 x K = some res) (kk : ∀ g1, K g1 = some res → V X p l e R s m args below meth c nL cells slots Q g1 (pc + 3) L st) : V X p l e R s m args below meth c nL cells slots Q g pc L (.inl x :: .inr (.inl (7, 0)) :: st) := v_put (t := 7) (ci := 7) (N := 42) (k := 36) (Cn := RX7) (T := TX7) C tyX7 tyX7_ok nmX7 hX.symm zm7 rfl rfl zinX7 (by decide) rfl fl_RX7_242 rfl rfl rfl rfl hd (kk _ hM)
theorem gf_RX7_254 (C : Cx X p R s m args meth c cc nL RX7 cells slots) (hX : zfl X = true) (hd : decode cc pc = .ok (.getfield 254, 3)) (kk : V X p l e R s m args below meth c nL cells slots Q g (pc + 3) L ((.inl (g 38007 0 0)) :: st)) : V X p l e R s m args below meth c nL cells slots Q g pc L (.inr (.inl (7, 0)) :: st) := v_get (t := 7) (ci := 7) (N := 42) (k := 37) (Cn := RX7) (T := TX7) C hX.symm zm7 rfl rfl zinX7 (by decide) rfl fl_RX7_254 hd (v := (.inl (g 38007 0 0))) rfl kk
theorem pf_RX7_254 (C : Cx X p R s m args meth c cc nL RX7 cells slots) (hX : zfl X = true) {x : Int32} (hd : decode cc pc = .ok (.putfield 254, 3)) {K : zG → zR0} (hM : zw g 38007 0 0 x K = some res) (kk : ∀ g1, K g1 = some res → V X p l e R s m args below meth c nL cells slots Q g1 (pc + 3) L st) : V X p l e R s m args below meth c nL cells slots Q g pc L (.inl x :: .inr (.inl (7, 0)) :: st) := v_put (t := 7) (ci := 7) (N := 42) (k := 37) (Cn := RX7) (T := TX7) C tyX7 tyX7_ok nmX7 hX.symm zm7 rfl rfl zinX7 (by decide) rfl fl_RX7_254 rfl rfl rfl rfl hd (kk _ hM)
theorem gf_RX7_317 (C : Cx X p R s m args meth c cc nL RX7 cells slots) (hX : zfl X = true) (hd : decode cc pc = .ok (.getfield 317, 3)) (kk : V X p l e R s m args below meth c nL cells slots Q g (pc + 3) L ((.inl (g 41007 0 0)) :: st)) : V X p l e R s m args below meth c nL cells slots Q g pc L (.inr (.inl (7, 0)) :: st) := v_get (t := 7) (ci := 7) (N := 42) (k := 40) (Cn := RX7) (T := TX7) C hX.symm zm7 rfl rfl zinX7 (by decide) rfl fl_RX7_317 hd (v := (.inl (g 41007 0 0))) rfl kk
theorem pf_RX7_317 (C : Cx X p R s m args meth c cc nL RX7 cells slots) (hX : zfl X = true) {x : Int32} (hd : decode cc pc = .ok (.putfield 317, 3)) {K : zG → zR0} (hM : zw g 41007 0 0 x K = some res) (kk : ∀ g1, K g1 = some res → V X p l e R s m args below meth c nL cells slots Q g1 (pc + 3) L st) : V X p l e R s m args below meth c nL cells slots Q g pc L (.inl x :: .inr (.inl (7, 0)) :: st) := v_put (t := 7) (ci := 7) (N := 42) (k := 40) (Cn := RX7) (T := TX7) C tyX7 tyX7_ok nmX7 hX.symm zm7 rfl rfl zinX7 (by decide) rfl fl_RX7_317 rfl rfl rfl rfl hd (kk _ hM)
theorem gf_RX7_320 (C : Cx X p R s m args meth c cc nL RX7 cells slots) (hX : zfl X = true) (hd : decode cc pc = .ok (.getfield 320, 3)) (kk : V X p l e R s m args below meth c nL cells slots Q g (pc + 3) L ((.inl (g 40007 0 0)) :: st)) : V X p l e R s m args below meth c nL cells slots Q g pc L (.inr (.inl (7, 0)) :: st) := v_get (t := 7) (ci := 7) (N := 42) (k := 39) (Cn := RX7) (T := TX7) C hX.symm zm7 rfl rfl zinX7 (by decide) rfl fl_RX7_320 hd (v := (.inl (g 40007 0 0))) rfl kk
theorem pf_RX7_320 (C : Cx X p R s m args meth c cc nL RX7 cells slots) (hX : zfl X = true) {x : Int32} (hd : decode cc pc = .ok (.putfield 320, 3)) {K : zG → zR0} (hM : zw g 40007 0 0 x K = some res) (kk : ∀ g1, K g1 = some res → V X p l e R s m args below meth c nL cells slots Q g1 (pc + 3) L st) : V X p l e R s m args below meth c nL cells slots Q g pc L (.inl x :: .inr (.inl (7, 0)) :: st) := v_put (t := 7) (ci := 7) (N := 42) (k := 39) (Cn := RX7) (T := TX7) C tyX7 tyX7_ok nmX7 hX.symm zm7 rfl rfl zinX7 (by decide) rfl fl_RX7_320 rfl rfl rfl rfl hd (kk _ hM)
theorem gf_RX7_344 (C : Cx X p R s m args meth c cc nL RX7 cells slots) (hX : zfl X = true) (hd : decode cc pc = .ok (.getfield 344, 3)) (kk : V X p l e R s m args below meth c nL cells slots Q g (pc + 3) L ((.inl (g 42007 0 0)) :: st)) : V X p l e R s m args below meth c nL cells slots Q g pc L (.inr (.inl (7, 0)) :: st) := v_get (t := 7) (ci := 7) (N := 42) (k := 41) (Cn := RX7) (T := TX7) C hX.symm zm7 rfl rfl zinX7 (by decide) rfl fl_RX7_344 hd (v := (.inl (g 42007 0 0))) rfl kk
theorem pf_RX7_344 (C : Cx X p R s m args meth c cc nL RX7 cells slots) (hX : zfl X = true) {x : Int32} (hd : decode cc pc = .ok (.putfield 344, 3)) {K : zG → zR0} (hM : zw g 42007 0 0 x K = some res) (kk : ∀ g1, K g1 = some res → V X p l e R s m args below meth c nL cells slots Q g1 (pc + 3) L st) : V X p l e R s m args below meth c nL cells slots Q g pc L (.inl x :: .inr (.inl (7, 0)) :: st) := v_put (t := 7) (ci := 7) (N := 42) (k := 41) (Cn := RX7) (T := TX7) C tyX7 tyX7_ok nmX7 hX.symm zm7 rfl rfl zinX7 (by decide) rfl fl_RX7_344 rfl rfl rfl rfl hd (kk _ hM)
theorem ia_10 (C : Cx X p R s m args meth c cc nL own cells slots) (hX : zfl X = false) {j : Int32} {A : zR0} (hd : decode cc pc = .ok (.iaload, 1)) (hM : zi j 900 A = some res) (kk : A = some res → zin j 900 = true → V X p l e R s m args below meth c nL cells slots Q g (pc + 1) L (.inl (g 10 0 j.toNatClampNeg) :: st)) : V X p l e R s m args below meth c nL cells slots Q g pc L (.inl j :: .inr (.inl (10, 0)) :: st) := by
  obtain ⟨h1, h2⟩ := zi_elim hM
  exact v_iald C hX.symm zm10 rfl h1 hd (kk h2 h1)
theorem ia_11 (C : Cx X p R s m args meth c cc nL own cells slots) (hX : zfl X = false) {i : Nat} (hq : i < 2) {j : Int32} {A : zR0} (hd : decode cc pc = .ok (.iaload, 1)) (hM : zi j 4 A = some res) (kk : A = some res → zin j 4 = true → V X p l e R s m args below meth c nL cells slots Q g (pc + 1) L (.inl (g 11 i j.toNatClampNeg) :: st)) : V X p l e R s m args below meth c nL cells slots Q g pc L (.inl j :: .inr (.inl (11, i)) :: st) := by
  obtain ⟨h1, h2⟩ := zi_elim hM
  exact v_iald C hX.symm (zm11 hq) rfl h1 hd (kk h2 h1)
theorem ia_12 (C : Cx X p R s m args meth c cc nL own cells slots) (hX : zfl X = false) {i : Nat} (hq : i < 2) {j : Int32} {A : zR0} (hd : decode cc pc = .ok (.iaload, 1)) (hM : zi j 96 A = some res) (kk : A = some res → zin j 96 = true → V X p l e R s m args below meth c nL cells slots Q g (pc + 1) L (.inl (g 12 i j.toNatClampNeg) :: st)) : V X p l e R s m args below meth c nL cells slots Q g pc L (.inl j :: .inr (.inl (12, i)) :: st) := by
  obtain ⟨h1, h2⟩ := zi_elim hM
  exact v_iald C hX.symm (zm12 hq) rfl h1 hd (kk h2 h1)
theorem ia_13 (C : Cx X p R s m args meth c cc nL own cells slots) (hX : zfl X = false) {i : Nat} (hq : i < 2) {j : Int32} {A : zR0} (hd : decode cc pc = .ok (.iaload, 1)) (hM : zi j 96 A = some res) (kk : A = some res → zin j 96 = true → V X p l e R s m args below meth c nL cells slots Q g (pc + 1) L (.inl (g 13 i j.toNatClampNeg) :: st)) : V X p l e R s m args below meth c nL cells slots Q g pc L (.inl j :: .inr (.inl (13, i)) :: st) := by
  obtain ⟨h1, h2⟩ := zi_elim hM
  exact v_iald C hX.symm (zm13 hq) rfl h1 hd (kk h2 h1)
theorem ia_14 (C : Cx X p R s m args meth c cc nL own cells slots) (hX : zfl X = false) {i : Nat} (hq : i < 2) {j : Int32} {A : zR0} (hd : decode cc pc = .ok (.baload, 1)) (hM : zi j 96 A = some res) (kk : A = some res → zin j 96 = true → V X p l e R s m args below meth c nL cells slots Q g (pc + 1) L (.inl (g 14 i j.toNatClampNeg) :: st)) : V X p l e R s m args below meth c nL cells slots Q g pc L (.inl j :: .inr (.inl (14, i)) :: st) := by
  obtain ⟨h1, h2⟩ := zi_elim hM
  exact v_zald C hX.symm (zm14 hq) rfl h1 hd (kk h2 h1)
theorem ia_15 (C : Cx X p R s m args meth c cc nL own cells slots) (hX : zfl X = false) {i : Nat} (hq : i < 2) {j : Int32} {A : zR0} (hd : decode cc pc = .ok (.iaload, 1)) (hM : zi j 64 A = some res) (kk : A = some res → zin j 64 = true → V X p l e R s m args below meth c nL cells slots Q g (pc + 1) L (.inl (g 15 i j.toNatClampNeg) :: st)) : V X p l e R s m args below meth c nL cells slots Q g pc L (.inl j :: .inr (.inl (15, i)) :: st) := by
  obtain ⟨h1, h2⟩ := zi_elim hM
  exact v_iald C hX.symm (zm15 hq) rfl h1 hd (kk h2 h1)
theorem ia_16 (C : Cx X p R s m args meth c cc nL own cells slots) (hX : zfl X = false) {i : Nat} (hq : i < 2) {j : Int32} {A : zR0} (hd : decode cc pc = .ok (.baload, 1)) (hM : zi j 64 A = some res) (kk : A = some res → zin j 64 = true → V X p l e R s m args below meth c nL cells slots Q g (pc + 1) L (.inl (g 16 i j.toNatClampNeg) :: st)) : V X p l e R s m args below meth c nL cells slots Q g pc L (.inl j :: .inr (.inl (16, i)) :: st) := by
  obtain ⟨h1, h2⟩ := zi_elim hM
  exact v_zald C hX.symm (zm16 hq) rfl h1 hd (kk h2 h1)
theorem ia_17 (C : Cx X p R s m args meth c cc nL own cells slots) (hX : zfl X = false) {i : Nat} (hq : i < 3) {j : Int32} {A : zR0} (hd : decode cc pc = .ok (.iaload, 1)) (hM : zi j 68 A = some res) (kk : A = some res → zin j 68 = true → V X p l e R s m args below meth c nL cells slots Q g (pc + 1) L (.inl (g 17 i j.toNatClampNeg) :: st)) : V X p l e R s m args below meth c nL cells slots Q g pc L (.inl j :: .inr (.inl (17, i)) :: st) := by
  obtain ⟨h1, h2⟩ := zi_elim hM
  exact v_iald C hX.symm (zm17 hq) rfl h1 hd (kk h2 h1)
theorem ia_20 (C : Cx X p R s m args meth c cc nL own cells slots) (hX : zfl X = false) {i : Nat} (hq : i < 3) {j : Int32} {A : zR0} (hd : decode cc pc = .ok (.iaload, 1)) (hM : zi j 3 A = some res) (kk : A = some res → zin j 3 = true → V X p l e R s m args below meth c nL cells slots Q g (pc + 1) L (.inl (g 20 i j.toNatClampNeg) :: st)) : V X p l e R s m args below meth c nL cells slots Q g pc L (.inl j :: .inr (.inl (20, i)) :: st) := by
  obtain ⟨h1, h2⟩ := zi_elim hM
  exact v_iald C hX.symm (zm20 hq) rfl h1 hd (kk h2 h1)
theorem ia_21 (C : Cx X p R s m args meth c cc nL own cells slots) (hX : zfl X = false) {i : Nat} (hq : i < 3) {j : Int32} {A : zR0} (hd : decode cc pc = .ok (.iaload, 1)) (hM : zi j 192 A = some res) (kk : A = some res → zin j 192 = true → V X p l e R s m args below meth c nL cells slots Q g (pc + 1) L (.inl (g 21 i j.toNatClampNeg) :: st)) : V X p l e R s m args below meth c nL cells slots Q g pc L (.inl j :: .inr (.inl (21, i)) :: st) := by
  obtain ⟨h1, h2⟩ := zi_elim hM
  exact v_iald C hX.symm (zm21 hq) rfl h1 hd (kk h2 h1)
theorem ia_22 (C : Cx X p R s m args meth c cc nL own cells slots) (hX : zfl X = false) {i : Nat} (hq : i < 12) {j : Int32} {A : zR0} (hd : decode cc pc = .ok (.iaload, 1)) (hM : zi j 16 A = some res) (kk : A = some res → zin j 16 = true → V X p l e R s m args below meth c nL cells slots Q g (pc + 1) L (.inl (g 22 i j.toNatClampNeg) :: st)) : V X p l e R s m args below meth c nL cells slots Q g pc L (.inl j :: .inr (.inl (22, i)) :: st) := by
  obtain ⟨h1, h2⟩ := zi_elim hM
  exact v_iald C hX.symm (zm22 hq) rfl h1 hd (kk h2 h1)
theorem ia_23 (C : Cx X p R s m args meth c cc nL own cells slots) (hX : zfl X = false) {i : Nat} (hq : i < 12) {j : Int32} {A : zR0} (hd : decode cc pc = .ok (.iaload, 1)) (hM : zi j 16 A = some res) (kk : A = some res → zin j 16 = true → V X p l e R s m args below meth c nL cells slots Q g (pc + 1) L (.inl (g 23 i j.toNatClampNeg) :: st)) : V X p l e R s m args below meth c nL cells slots Q g pc L (.inl j :: .inr (.inl (23, i)) :: st) := by
  obtain ⟨h1, h2⟩ := zi_elim hM
  exact v_iald C hX.symm (zm23 hq) rfl h1 hd (kk h2 h1)
theorem ia_24 (C : Cx X p R s m args meth c cc nL own cells slots) (hX : zfl X = false) {i : Nat} (hq : i < 12) {j : Int32} {A : zR0} (hd : decode cc pc = .ok (.baload, 1)) (hM : zi j 16 A = some res) (kk : A = some res → zin j 16 = true → V X p l e R s m args below meth c nL cells slots Q g (pc + 1) L (.inl (g 24 i j.toNatClampNeg) :: st)) : V X p l e R s m args below meth c nL cells slots Q g pc L (.inl j :: .inr (.inl (24, i)) :: st) := by
  obtain ⟨h1, h2⟩ := zi_elim hM
  exact v_zald C hX.symm (zm24 hq) rfl h1 hd (kk h2 h1)
theorem ia_25 (C : Cx X p R s m args meth c cc nL own cells slots) (hX : zfl X = false) {i : Nat} (hq : i < 12) {j : Int32} {A : zR0} (hd : decode cc pc = .ok (.baload, 1)) (hM : zi j 16 A = some res) (kk : A = some res → zin j 16 = true → V X p l e R s m args below meth c nL cells slots Q g (pc + 1) L (.inl (g 25 i j.toNatClampNeg) :: st)) : V X p l e R s m args below meth c nL cells slots Q g pc L (.inl j :: .inr (.inl (25, i)) :: st) := by
  obtain ⟨h1, h2⟩ := zi_elim hM
  exact v_zald C hX.symm (zm25 hq) rfl h1 hd (kk h2 h1)
theorem ia_26 (C : Cx X p R s m args meth c cc nL own cells slots) (hX : zfl X = false) {i : Nat} (hq : i < 12) {j : Int32} {A : zR0} (hd : decode cc pc = .ok (.iaload, 1)) (hM : zi j 16 A = some res) (kk : A = some res → zin j 16 = true → V X p l e R s m args below meth c nL cells slots Q g (pc + 1) L (.inl (g 26 i j.toNatClampNeg) :: st)) : V X p l e R s m args below meth c nL cells slots Q g pc L (.inl j :: .inr (.inl (26, i)) :: st) := by
  obtain ⟨h1, h2⟩ := zi_elim hM
  exact v_iald C hX.symm (zm26 hq) rfl h1 hd (kk h2 h1)
theorem ia_27 (C : Cx X p R s m args meth c cc nL own cells slots) (hX : zfl X = false) {i : Nat} (hq : i < 12) {j : Int32} {A : zR0} (hd : decode cc pc = .ok (.iaload, 1)) (hM : zi j 64 A = some res) (kk : A = some res → zin j 64 = true → V X p l e R s m args below meth c nL cells slots Q g (pc + 1) L (.inl (g 27 i j.toNatClampNeg) :: st)) : V X p l e R s m args below meth c nL cells slots Q g pc L (.inl j :: .inr (.inl (27, i)) :: st) := by
  obtain ⟨h1, h2⟩ := zi_elim hM
  exact v_iald C hX.symm (zm27 hq) rfl h1 hd (kk h2 h1)
theorem ia_28 (C : Cx X p R s m args meth c cc nL own cells slots) (hX : zfl X = false) {i : Nat} (hq : i < 12) {j : Int32} {A : zR0} (hd : decode cc pc = .ok (.iaload, 1)) (hM : zi j 7 A = some res) (kk : A = some res → zin j 7 = true → V X p l e R s m args below meth c nL cells slots Q g (pc + 1) L (.inl (g 28 i j.toNatClampNeg) :: st)) : V X p l e R s m args below meth c nL cells slots Q g pc L (.inl j :: .inr (.inl (28, i)) :: st) := by
  obtain ⟨h1, h2⟩ := zi_elim hM
  exact v_iald C hX.symm (zm28 hq) rfl h1 hd (kk h2 h1)
theorem ia_29 (C : Cx X p R s m args meth c cc nL own cells slots) (hX : zfl X = false) {j : Int32} {A : zR0} (hd : decode cc pc = .ok (.iaload, 1)) (hM : zi j 64 A = some res) (kk : A = some res → zin j 64 = true → V X p l e R s m args below meth c nL cells slots Q g (pc + 1) L (.inl (g 29 0 j.toNatClampNeg) :: st)) : V X p l e R s m args below meth c nL cells slots Q g pc L (.inl j :: .inr (.inl (29, 0)) :: st) := by
  obtain ⟨h1, h2⟩ := zi_elim hM
  exact v_iald C hX.symm zm29 rfl h1 hd (kk h2 h1)
theorem ia_30 (C : Cx X p R s m args meth c cc nL own cells slots) (hX : zfl X = true) {j : Int32} {A : zR0} (hd : decode cc pc = .ok (.iaload, 1)) (hM : zi j 900 A = some res) (kk : A = some res → zin j 900 = true → V X p l e R s m args below meth c nL cells slots Q g (pc + 1) L (.inl (g 30 0 j.toNatClampNeg) :: st)) : V X p l e R s m args below meth c nL cells slots Q g pc L (.inl j :: .inr (.inl (30, 0)) :: st) := by
  obtain ⟨h1, h2⟩ := zi_elim hM
  exact v_iald C hX.symm zm30 rfl h1 hd (kk h2 h1)
theorem ia_31 (C : Cx X p R s m args meth c cc nL own cells slots) (hX : zfl X = true) {j : Int32} {A : zR0} (hd : decode cc pc = .ok (.iaload, 1)) (hM : zi j 6 A = some res) (kk : A = some res → zin j 6 = true → V X p l e R s m args below meth c nL cells slots Q g (pc + 1) L (.inl (g 31 0 j.toNatClampNeg) :: st)) : V X p l e R s m args below meth c nL cells slots Q g pc L (.inl j :: .inr (.inl (31, 0)) :: st) := by
  obtain ⟨h1, h2⟩ := zi_elim hM
  exact v_iald C hX.symm zm31 rfl h1 hd (kk h2 h1)
theorem ia_32 (C : Cx X p R s m args meth c cc nL own cells slots) (hX : zfl X = true) {j : Int32} {A : zR0} (hd : decode cc pc = .ok (.iaload, 1)) (hM : zi j 6 A = some res) (kk : A = some res → zin j 6 = true → V X p l e R s m args below meth c nL cells slots Q g (pc + 1) L (.inl (g 32 0 j.toNatClampNeg) :: st)) : V X p l e R s m args below meth c nL cells slots Q g pc L (.inl j :: .inr (.inl (32, 0)) :: st) := by
  obtain ⟨h1, h2⟩ := zi_elim hM
  exact v_iald C hX.symm zm32 rfl h1 hd (kk h2 h1)
theorem ia_33 (C : Cx X p R s m args meth c cc nL own cells slots) (hX : zfl X = true) {j : Int32} {A : zR0} (hd : decode cc pc = .ok (.iaload, 1)) (hM : zi j 64 A = some res) (kk : A = some res → zin j 64 = true → V X p l e R s m args below meth c nL cells slots Q g (pc + 1) L (.inl (g 33 0 j.toNatClampNeg) :: st)) : V X p l e R s m args below meth c nL cells slots Q g pc L (.inl j :: .inr (.inl (33, 0)) :: st) := by
  obtain ⟨h1, h2⟩ := zi_elim hM
  exact v_iald C hX.symm zm33 rfl h1 hd (kk h2 h1)
theorem ia_34 (C : Cx X p R s m args meth c cc nL own cells slots) (hX : zfl X = true) {j : Int32} {A : zR0} (hd : decode cc pc = .ok (.iaload, 1)) (hM : zi j 64 A = some res) (kk : A = some res → zin j 64 = true → V X p l e R s m args below meth c nL cells slots Q g (pc + 1) L (.inl (g 34 0 j.toNatClampNeg) :: st)) : V X p l e R s m args below meth c nL cells slots Q g pc L (.inl j :: .inr (.inl (34, 0)) :: st) := by
  obtain ⟨h1, h2⟩ := zi_elim hM
  exact v_iald C hX.symm zm34 rfl h1 hd (kk h2 h1)
theorem ia_35 (C : Cx X p R s m args meth c cc nL own cells slots) (hX : zfl X = true) {j : Int32} {A : zR0} (hd : decode cc pc = .ok (.iaload, 1)) (hM : zi j 4 A = some res) (kk : A = some res → zin j 4 = true → V X p l e R s m args below meth c nL cells slots Q g (pc + 1) L (.inl (g 35 0 j.toNatClampNeg) :: st)) : V X p l e R s m args below meth c nL cells slots Q g pc L (.inl j :: .inr (.inl (35, 0)) :: st) := by
  obtain ⟨h1, h2⟩ := zi_elim hM
  exact v_iald C hX.symm zm35 rfl h1 hd (kk h2 h1)
theorem ia_36 (C : Cx X p R s m args meth c cc nL own cells slots) (hX : zfl X = true) {j : Int32} {A : zR0} (hd : decode cc pc = .ok (.iaload, 1)) (hM : zi j 4 A = some res) (kk : A = some res → zin j 4 = true → V X p l e R s m args below meth c nL cells slots Q g (pc + 1) L (.inl (g 36 0 j.toNatClampNeg) :: st)) : V X p l e R s m args below meth c nL cells slots Q g pc L (.inl j :: .inr (.inl (36, 0)) :: st) := by
  obtain ⟨h1, h2⟩ := zi_elim hM
  exact v_iald C hX.symm zm36 rfl h1 hd (kk h2 h1)
theorem ia_37 (C : Cx X p R s m args meth c cc nL own cells slots) (hX : zfl X = true) {j : Int32} {A : zR0} (hd : decode cc pc = .ok (.iaload, 1)) (hM : zi j 96 A = some res) (kk : A = some res → zin j 96 = true → V X p l e R s m args below meth c nL cells slots Q g (pc + 1) L (.inl (g 37 0 j.toNatClampNeg) :: st)) : V X p l e R s m args below meth c nL cells slots Q g pc L (.inl j :: .inr (.inl (37, 0)) :: st) := by
  obtain ⟨h1, h2⟩ := zi_elim hM
  exact v_iald C hX.symm zm37 rfl h1 hd (kk h2 h1)
theorem ia_38 (C : Cx X p R s m args meth c cc nL own cells slots) (hX : zfl X = true) {j : Int32} {A : zR0} (hd : decode cc pc = .ok (.iaload, 1)) (hM : zi j 96 A = some res) (kk : A = some res → zin j 96 = true → V X p l e R s m args below meth c nL cells slots Q g (pc + 1) L (.inl (g 38 0 j.toNatClampNeg) :: st)) : V X p l e R s m args below meth c nL cells slots Q g pc L (.inl j :: .inr (.inl (38, 0)) :: st) := by
  obtain ⟨h1, h2⟩ := zi_elim hM
  exact v_iald C hX.symm zm38 rfl h1 hd (kk h2 h1)
theorem ia_39 (C : Cx X p R s m args meth c cc nL own cells slots) (hX : zfl X = true) {j : Int32} {A : zR0} (hd : decode cc pc = .ok (.iaload, 1)) (hM : zi j 96 A = some res) (kk : A = some res → zin j 96 = true → V X p l e R s m args below meth c nL cells slots Q g (pc + 1) L (.inl (g 39 0 j.toNatClampNeg) :: st)) : V X p l e R s m args below meth c nL cells slots Q g pc L (.inl j :: .inr (.inl (39, 0)) :: st) := by
  obtain ⟨h1, h2⟩ := zi_elim hM
  exact v_iald C hX.symm zm39 rfl h1 hd (kk h2 h1)
theorem ia_40 (C : Cx X p R s m args meth c cc nL own cells slots) (hX : zfl X = true) {j : Int32} {A : zR0} (hd : decode cc pc = .ok (.iaload, 1)) (hM : zi j 96 A = some res) (kk : A = some res → zin j 96 = true → V X p l e R s m args below meth c nL cells slots Q g (pc + 1) L (.inl (g 40 0 j.toNatClampNeg) :: st)) : V X p l e R s m args below meth c nL cells slots Q g pc L (.inl j :: .inr (.inl (40, 0)) :: st) := by
  obtain ⟨h1, h2⟩ := zi_elim hM
  exact v_iald C hX.symm zm40 rfl h1 hd (kk h2 h1)
theorem ia_41 (C : Cx X p R s m args meth c cc nL own cells slots) (hX : zfl X = true) {j : Int32} {A : zR0} (hd : decode cc pc = .ok (.iaload, 1)) (hM : zi j 96 A = some res) (kk : A = some res → zin j 96 = true → V X p l e R s m args below meth c nL cells slots Q g (pc + 1) L (.inl (g 41 0 j.toNatClampNeg) :: st)) : V X p l e R s m args below meth c nL cells slots Q g pc L (.inl j :: .inr (.inl (41, 0)) :: st) := by
  obtain ⟨h1, h2⟩ := zi_elim hM
  exact v_iald C hX.symm zm41 rfl h1 hd (kk h2 h1)
theorem ia_42 (C : Cx X p R s m args meth c cc nL own cells slots) (hX : zfl X = true) {j : Int32} {A : zR0} (hd : decode cc pc = .ok (.iaload, 1)) (hM : zi j 96 A = some res) (kk : A = some res → zin j 96 = true → V X p l e R s m args below meth c nL cells slots Q g (pc + 1) L (.inl (g 42 0 j.toNatClampNeg) :: st)) : V X p l e R s m args below meth c nL cells slots Q g pc L (.inl j :: .inr (.inl (42, 0)) :: st) := by
  obtain ⟨h1, h2⟩ := zi_elim hM
  exact v_iald C hX.symm zm42 rfl h1 hd (kk h2 h1)
theorem ia_43 (C : Cx X p R s m args meth c cc nL own cells slots) (hX : zfl X = true) {j : Int32} {A : zR0} (hd : decode cc pc = .ok (.iaload, 1)) (hM : zi j 2766 A = some res) (kk : A = some res → zin j 2766 = true → V X p l e R s m args below meth c nL cells slots Q g (pc + 1) L (.inl (g 43 0 j.toNatClampNeg) :: st)) : V X p l e R s m args below meth c nL cells slots Q g pc L (.inl j :: .inr (.inl (43, 0)) :: st) := by
  obtain ⟨h1, h2⟩ := zi_elim hM
  exact v_iald C hX.symm zm43 rfl h1 hd (kk h2 h1)
theorem ia_44 (C : Cx X p R s m args meth c cc nL own cells slots) (hX : zfl X = true) {j : Int32} {A : zR0} (hd : decode cc pc = .ok (.iaload, 1)) (hM : zi j 2766 A = some res) (kk : A = some res → zin j 2766 = true → V X p l e R s m args below meth c nL cells slots Q g (pc + 1) L (.inl (g 44 0 j.toNatClampNeg) :: st)) : V X p l e R s m args below meth c nL cells slots Q g pc L (.inl j :: .inr (.inl (44, 0)) :: st) := by
  obtain ⟨h1, h2⟩ := zi_elim hM
  exact v_iald C hX.symm zm44 rfl h1 hd (kk h2 h1)
theorem ia_45 (C : Cx X p R s m args meth c cc nL own cells slots) (hX : zfl X = true) {j : Int32} {A : zR0} (hd : decode cc pc = .ok (.iaload, 1)) (hM : zi j 2766 A = some res) (kk : A = some res → zin j 2766 = true → V X p l e R s m args below meth c nL cells slots Q g (pc + 1) L (.inl (g 45 0 j.toNatClampNeg) :: st)) : V X p l e R s m args below meth c nL cells slots Q g pc L (.inl j :: .inr (.inl (45, 0)) :: st) := by
  obtain ⟨h1, h2⟩ := zi_elim hM
  exact v_iald C hX.symm zm45 rfl h1 hd (kk h2 h1)
theorem ia_46 (C : Cx X p R s m args meth c cc nL own cells slots) (hX : zfl X = true) {j : Int32} {A : zR0} (hd : decode cc pc = .ok (.iaload, 1)) (hM : zi j 64 A = some res) (kk : A = some res → zin j 64 = true → V X p l e R s m args below meth c nL cells slots Q g (pc + 1) L (.inl (g 46 0 j.toNatClampNeg) :: st)) : V X p l e R s m args below meth c nL cells slots Q g pc L (.inl j :: .inr (.inl (46, 0)) :: st) := by
  obtain ⟨h1, h2⟩ := zi_elim hM
  exact v_iald C hX.symm zm46 rfl h1 hd (kk h2 h1)
theorem is_10 (C : Cx X p R s m args meth c cc nL own cells slots) (hX : zfl X = false) {j x : Int32} {K : zG → zR0} (hd : decode cc pc = .ok (.iastore, 1)) (hM : zi j 900 (zw g 10 0 j.toNatClampNeg x K) = some res) (kk : ∀ g1, K g1 = some res → V X p l e R s m args below meth c nL cells slots Q g1 (pc + 1) L st) : V X p l e R s m args below meth c nL cells slots Q g pc L (.inl x :: .inl j :: .inr (.inl (10, 0)) :: st) := by
  obtain ⟨h1, h2⟩ := zi_elim hM
  exact v_iast C hX.symm zm10 rfl h1 hd (kk _ h2)
theorem is_11 (C : Cx X p R s m args meth c cc nL own cells slots) (hX : zfl X = false) {i : Nat} (hq : i < 2) {j x : Int32} {K : zG → zR0} (hd : decode cc pc = .ok (.iastore, 1)) (hM : zi j 4 (zw g 11 i j.toNatClampNeg x K) = some res) (kk : ∀ g1, K g1 = some res → V X p l e R s m args below meth c nL cells slots Q g1 (pc + 1) L st) : V X p l e R s m args below meth c nL cells slots Q g pc L (.inl x :: .inl j :: .inr (.inl (11, i)) :: st) := by
  obtain ⟨h1, h2⟩ := zi_elim hM
  exact v_iast C hX.symm (zm11 hq) rfl h1 hd (kk _ h2)
theorem is_12 (C : Cx X p R s m args meth c cc nL own cells slots) (hX : zfl X = false) {i : Nat} (hq : i < 2) {j x : Int32} {K : zG → zR0} (hd : decode cc pc = .ok (.iastore, 1)) (hM : zi j 96 (zw g 12 i j.toNatClampNeg x K) = some res) (kk : ∀ g1, K g1 = some res → V X p l e R s m args below meth c nL cells slots Q g1 (pc + 1) L st) : V X p l e R s m args below meth c nL cells slots Q g pc L (.inl x :: .inl j :: .inr (.inl (12, i)) :: st) := by
  obtain ⟨h1, h2⟩ := zi_elim hM
  exact v_iast C hX.symm (zm12 hq) rfl h1 hd (kk _ h2)
theorem is_13 (C : Cx X p R s m args meth c cc nL own cells slots) (hX : zfl X = false) {i : Nat} (hq : i < 2) {j x : Int32} {K : zG → zR0} (hd : decode cc pc = .ok (.iastore, 1)) (hM : zi j 96 (zw g 13 i j.toNatClampNeg x K) = some res) (kk : ∀ g1, K g1 = some res → V X p l e R s m args below meth c nL cells slots Q g1 (pc + 1) L st) : V X p l e R s m args below meth c nL cells slots Q g pc L (.inl x :: .inl j :: .inr (.inl (13, i)) :: st) := by
  obtain ⟨h1, h2⟩ := zi_elim hM
  exact v_iast C hX.symm (zm13 hq) rfl h1 hd (kk _ h2)
theorem is_14 (C : Cx X p R s m args meth c cc nL own cells slots) (hX : zfl X = false) {i : Nat} (hq : i < 2) {j x y : Int32} (hy : vp_nar .boolean x = y) {K : zG → zR0} (hd : decode cc pc = .ok (.bastore, 1)) (hM : zi j 96 (zw g 14 i j.toNatClampNeg y K) = some res) (kk : ∀ g1, K g1 = some res → V X p l e R s m args below meth c nL cells slots Q g1 (pc + 1) L st) : V X p l e R s m args below meth c nL cells slots Q g pc L (.inl x :: .inl j :: .inr (.inl (14, i)) :: st) := by
  obtain ⟨h1, h2⟩ := zi_elim hM
  exact v_zast C hX.symm (zm14 hq) rfl h1 hy hd (kk _ h2)
theorem is_15 (C : Cx X p R s m args meth c cc nL own cells slots) (hX : zfl X = false) {i : Nat} (hq : i < 2) {j x : Int32} {K : zG → zR0} (hd : decode cc pc = .ok (.iastore, 1)) (hM : zi j 64 (zw g 15 i j.toNatClampNeg x K) = some res) (kk : ∀ g1, K g1 = some res → V X p l e R s m args below meth c nL cells slots Q g1 (pc + 1) L st) : V X p l e R s m args below meth c nL cells slots Q g pc L (.inl x :: .inl j :: .inr (.inl (15, i)) :: st) := by
  obtain ⟨h1, h2⟩ := zi_elim hM
  exact v_iast C hX.symm (zm15 hq) rfl h1 hd (kk _ h2)
theorem is_16 (C : Cx X p R s m args meth c cc nL own cells slots) (hX : zfl X = false) {i : Nat} (hq : i < 2) {j x y : Int32} (hy : vp_nar .boolean x = y) {K : zG → zR0} (hd : decode cc pc = .ok (.bastore, 1)) (hM : zi j 64 (zw g 16 i j.toNatClampNeg y K) = some res) (kk : ∀ g1, K g1 = some res → V X p l e R s m args below meth c nL cells slots Q g1 (pc + 1) L st) : V X p l e R s m args below meth c nL cells slots Q g pc L (.inl x :: .inl j :: .inr (.inl (16, i)) :: st) := by
  obtain ⟨h1, h2⟩ := zi_elim hM
  exact v_zast C hX.symm (zm16 hq) rfl h1 hy hd (kk _ h2)
theorem is_17 (C : Cx X p R s m args meth c cc nL own cells slots) (hX : zfl X = false) {i : Nat} (hq : i < 3) {j x : Int32} {K : zG → zR0} (hd : decode cc pc = .ok (.iastore, 1)) (hM : zi j 68 (zw g 17 i j.toNatClampNeg x K) = some res) (kk : ∀ g1, K g1 = some res → V X p l e R s m args below meth c nL cells slots Q g1 (pc + 1) L st) : V X p l e R s m args below meth c nL cells slots Q g pc L (.inl x :: .inl j :: .inr (.inl (17, i)) :: st) := by
  obtain ⟨h1, h2⟩ := zi_elim hM
  exact v_iast C hX.symm (zm17 hq) rfl h1 hd (kk _ h2)
theorem is_20 (C : Cx X p R s m args meth c cc nL own cells slots) (hX : zfl X = false) {i : Nat} (hq : i < 3) {j x : Int32} {K : zG → zR0} (hd : decode cc pc = .ok (.iastore, 1)) (hM : zi j 3 (zw g 20 i j.toNatClampNeg x K) = some res) (kk : ∀ g1, K g1 = some res → V X p l e R s m args below meth c nL cells slots Q g1 (pc + 1) L st) : V X p l e R s m args below meth c nL cells slots Q g pc L (.inl x :: .inl j :: .inr (.inl (20, i)) :: st) := by
  obtain ⟨h1, h2⟩ := zi_elim hM
  exact v_iast C hX.symm (zm20 hq) rfl h1 hd (kk _ h2)
theorem is_21 (C : Cx X p R s m args meth c cc nL own cells slots) (hX : zfl X = false) {i : Nat} (hq : i < 3) {j x : Int32} {K : zG → zR0} (hd : decode cc pc = .ok (.iastore, 1)) (hM : zi j 192 (zw g 21 i j.toNatClampNeg x K) = some res) (kk : ∀ g1, K g1 = some res → V X p l e R s m args below meth c nL cells slots Q g1 (pc + 1) L st) : V X p l e R s m args below meth c nL cells slots Q g pc L (.inl x :: .inl j :: .inr (.inl (21, i)) :: st) := by
  obtain ⟨h1, h2⟩ := zi_elim hM
  exact v_iast C hX.symm (zm21 hq) rfl h1 hd (kk _ h2)
theorem is_22 (C : Cx X p R s m args meth c cc nL own cells slots) (hX : zfl X = false) {i : Nat} (hq : i < 12) {j x : Int32} {K : zG → zR0} (hd : decode cc pc = .ok (.iastore, 1)) (hM : zi j 16 (zw g 22 i j.toNatClampNeg x K) = some res) (kk : ∀ g1, K g1 = some res → V X p l e R s m args below meth c nL cells slots Q g1 (pc + 1) L st) : V X p l e R s m args below meth c nL cells slots Q g pc L (.inl x :: .inl j :: .inr (.inl (22, i)) :: st) := by
  obtain ⟨h1, h2⟩ := zi_elim hM
  exact v_iast C hX.symm (zm22 hq) rfl h1 hd (kk _ h2)
theorem is_23 (C : Cx X p R s m args meth c cc nL own cells slots) (hX : zfl X = false) {i : Nat} (hq : i < 12) {j x : Int32} {K : zG → zR0} (hd : decode cc pc = .ok (.iastore, 1)) (hM : zi j 16 (zw g 23 i j.toNatClampNeg x K) = some res) (kk : ∀ g1, K g1 = some res → V X p l e R s m args below meth c nL cells slots Q g1 (pc + 1) L st) : V X p l e R s m args below meth c nL cells slots Q g pc L (.inl x :: .inl j :: .inr (.inl (23, i)) :: st) := by
  obtain ⟨h1, h2⟩ := zi_elim hM
  exact v_iast C hX.symm (zm23 hq) rfl h1 hd (kk _ h2)
theorem is_24 (C : Cx X p R s m args meth c cc nL own cells slots) (hX : zfl X = false) {i : Nat} (hq : i < 12) {j x y : Int32} (hy : vp_nar .boolean x = y) {K : zG → zR0} (hd : decode cc pc = .ok (.bastore, 1)) (hM : zi j 16 (zw g 24 i j.toNatClampNeg y K) = some res) (kk : ∀ g1, K g1 = some res → V X p l e R s m args below meth c nL cells slots Q g1 (pc + 1) L st) : V X p l e R s m args below meth c nL cells slots Q g pc L (.inl x :: .inl j :: .inr (.inl (24, i)) :: st) := by
  obtain ⟨h1, h2⟩ := zi_elim hM
  exact v_zast C hX.symm (zm24 hq) rfl h1 hy hd (kk _ h2)
theorem is_25 (C : Cx X p R s m args meth c cc nL own cells slots) (hX : zfl X = false) {i : Nat} (hq : i < 12) {j x y : Int32} (hy : vp_nar .boolean x = y) {K : zG → zR0} (hd : decode cc pc = .ok (.bastore, 1)) (hM : zi j 16 (zw g 25 i j.toNatClampNeg y K) = some res) (kk : ∀ g1, K g1 = some res → V X p l e R s m args below meth c nL cells slots Q g1 (pc + 1) L st) : V X p l e R s m args below meth c nL cells slots Q g pc L (.inl x :: .inl j :: .inr (.inl (25, i)) :: st) := by
  obtain ⟨h1, h2⟩ := zi_elim hM
  exact v_zast C hX.symm (zm25 hq) rfl h1 hy hd (kk _ h2)
theorem is_26 (C : Cx X p R s m args meth c cc nL own cells slots) (hX : zfl X = false) {i : Nat} (hq : i < 12) {j x : Int32} {K : zG → zR0} (hd : decode cc pc = .ok (.iastore, 1)) (hM : zi j 16 (zw g 26 i j.toNatClampNeg x K) = some res) (kk : ∀ g1, K g1 = some res → V X p l e R s m args below meth c nL cells slots Q g1 (pc + 1) L st) : V X p l e R s m args below meth c nL cells slots Q g pc L (.inl x :: .inl j :: .inr (.inl (26, i)) :: st) := by
  obtain ⟨h1, h2⟩ := zi_elim hM
  exact v_iast C hX.symm (zm26 hq) rfl h1 hd (kk _ h2)
theorem is_27 (C : Cx X p R s m args meth c cc nL own cells slots) (hX : zfl X = false) {i : Nat} (hq : i < 12) {j x : Int32} {K : zG → zR0} (hd : decode cc pc = .ok (.iastore, 1)) (hM : zi j 64 (zw g 27 i j.toNatClampNeg x K) = some res) (kk : ∀ g1, K g1 = some res → V X p l e R s m args below meth c nL cells slots Q g1 (pc + 1) L st) : V X p l e R s m args below meth c nL cells slots Q g pc L (.inl x :: .inl j :: .inr (.inl (27, i)) :: st) := by
  obtain ⟨h1, h2⟩ := zi_elim hM
  exact v_iast C hX.symm (zm27 hq) rfl h1 hd (kk _ h2)
theorem is_28 (C : Cx X p R s m args meth c cc nL own cells slots) (hX : zfl X = false) {i : Nat} (hq : i < 12) {j x : Int32} {K : zG → zR0} (hd : decode cc pc = .ok (.iastore, 1)) (hM : zi j 7 (zw g 28 i j.toNatClampNeg x K) = some res) (kk : ∀ g1, K g1 = some res → V X p l e R s m args below meth c nL cells slots Q g1 (pc + 1) L st) : V X p l e R s m args below meth c nL cells slots Q g pc L (.inl x :: .inl j :: .inr (.inl (28, i)) :: st) := by
  obtain ⟨h1, h2⟩ := zi_elim hM
  exact v_iast C hX.symm (zm28 hq) rfl h1 hd (kk _ h2)
theorem is_29 (C : Cx X p R s m args meth c cc nL own cells slots) (hX : zfl X = false) {j x : Int32} {K : zG → zR0} (hd : decode cc pc = .ok (.iastore, 1)) (hM : zi j 64 (zw g 29 0 j.toNatClampNeg x K) = some res) (kk : ∀ g1, K g1 = some res → V X p l e R s m args below meth c nL cells slots Q g1 (pc + 1) L st) : V X p l e R s m args below meth c nL cells slots Q g pc L (.inl x :: .inl j :: .inr (.inl (29, 0)) :: st) := by
  obtain ⟨h1, h2⟩ := zi_elim hM
  exact v_iast C hX.symm zm29 rfl h1 hd (kk _ h2)
theorem is_30 (C : Cx X p R s m args meth c cc nL own cells slots) (hX : zfl X = true) {j x : Int32} {K : zG → zR0} (hd : decode cc pc = .ok (.iastore, 1)) (hM : zi j 900 (zw g 30 0 j.toNatClampNeg x K) = some res) (kk : ∀ g1, K g1 = some res → V X p l e R s m args below meth c nL cells slots Q g1 (pc + 1) L st) : V X p l e R s m args below meth c nL cells slots Q g pc L (.inl x :: .inl j :: .inr (.inl (30, 0)) :: st) := by
  obtain ⟨h1, h2⟩ := zi_elim hM
  exact v_iast C hX.symm zm30 rfl h1 hd (kk _ h2)
theorem is_31 (C : Cx X p R s m args meth c cc nL own cells slots) (hX : zfl X = true) {j x : Int32} {K : zG → zR0} (hd : decode cc pc = .ok (.iastore, 1)) (hM : zi j 6 (zw g 31 0 j.toNatClampNeg x K) = some res) (kk : ∀ g1, K g1 = some res → V X p l e R s m args below meth c nL cells slots Q g1 (pc + 1) L st) : V X p l e R s m args below meth c nL cells slots Q g pc L (.inl x :: .inl j :: .inr (.inl (31, 0)) :: st) := by
  obtain ⟨h1, h2⟩ := zi_elim hM
  exact v_iast C hX.symm zm31 rfl h1 hd (kk _ h2)
theorem is_32 (C : Cx X p R s m args meth c cc nL own cells slots) (hX : zfl X = true) {j x : Int32} {K : zG → zR0} (hd : decode cc pc = .ok (.iastore, 1)) (hM : zi j 6 (zw g 32 0 j.toNatClampNeg x K) = some res) (kk : ∀ g1, K g1 = some res → V X p l e R s m args below meth c nL cells slots Q g1 (pc + 1) L st) : V X p l e R s m args below meth c nL cells slots Q g pc L (.inl x :: .inl j :: .inr (.inl (32, 0)) :: st) := by
  obtain ⟨h1, h2⟩ := zi_elim hM
  exact v_iast C hX.symm zm32 rfl h1 hd (kk _ h2)
theorem is_33 (C : Cx X p R s m args meth c cc nL own cells slots) (hX : zfl X = true) {j x : Int32} {K : zG → zR0} (hd : decode cc pc = .ok (.iastore, 1)) (hM : zi j 64 (zw g 33 0 j.toNatClampNeg x K) = some res) (kk : ∀ g1, K g1 = some res → V X p l e R s m args below meth c nL cells slots Q g1 (pc + 1) L st) : V X p l e R s m args below meth c nL cells slots Q g pc L (.inl x :: .inl j :: .inr (.inl (33, 0)) :: st) := by
  obtain ⟨h1, h2⟩ := zi_elim hM
  exact v_iast C hX.symm zm33 rfl h1 hd (kk _ h2)
theorem is_34 (C : Cx X p R s m args meth c cc nL own cells slots) (hX : zfl X = true) {j x : Int32} {K : zG → zR0} (hd : decode cc pc = .ok (.iastore, 1)) (hM : zi j 64 (zw g 34 0 j.toNatClampNeg x K) = some res) (kk : ∀ g1, K g1 = some res → V X p l e R s m args below meth c nL cells slots Q g1 (pc + 1) L st) : V X p l e R s m args below meth c nL cells slots Q g pc L (.inl x :: .inl j :: .inr (.inl (34, 0)) :: st) := by
  obtain ⟨h1, h2⟩ := zi_elim hM
  exact v_iast C hX.symm zm34 rfl h1 hd (kk _ h2)
theorem is_35 (C : Cx X p R s m args meth c cc nL own cells slots) (hX : zfl X = true) {j x : Int32} {K : zG → zR0} (hd : decode cc pc = .ok (.iastore, 1)) (hM : zi j 4 (zw g 35 0 j.toNatClampNeg x K) = some res) (kk : ∀ g1, K g1 = some res → V X p l e R s m args below meth c nL cells slots Q g1 (pc + 1) L st) : V X p l e R s m args below meth c nL cells slots Q g pc L (.inl x :: .inl j :: .inr (.inl (35, 0)) :: st) := by
  obtain ⟨h1, h2⟩ := zi_elim hM
  exact v_iast C hX.symm zm35 rfl h1 hd (kk _ h2)
theorem is_36 (C : Cx X p R s m args meth c cc nL own cells slots) (hX : zfl X = true) {j x : Int32} {K : zG → zR0} (hd : decode cc pc = .ok (.iastore, 1)) (hM : zi j 4 (zw g 36 0 j.toNatClampNeg x K) = some res) (kk : ∀ g1, K g1 = some res → V X p l e R s m args below meth c nL cells slots Q g1 (pc + 1) L st) : V X p l e R s m args below meth c nL cells slots Q g pc L (.inl x :: .inl j :: .inr (.inl (36, 0)) :: st) := by
  obtain ⟨h1, h2⟩ := zi_elim hM
  exact v_iast C hX.symm zm36 rfl h1 hd (kk _ h2)
theorem is_37 (C : Cx X p R s m args meth c cc nL own cells slots) (hX : zfl X = true) {j x : Int32} {K : zG → zR0} (hd : decode cc pc = .ok (.iastore, 1)) (hM : zi j 96 (zw g 37 0 j.toNatClampNeg x K) = some res) (kk : ∀ g1, K g1 = some res → V X p l e R s m args below meth c nL cells slots Q g1 (pc + 1) L st) : V X p l e R s m args below meth c nL cells slots Q g pc L (.inl x :: .inl j :: .inr (.inl (37, 0)) :: st) := by
  obtain ⟨h1, h2⟩ := zi_elim hM
  exact v_iast C hX.symm zm37 rfl h1 hd (kk _ h2)
theorem is_38 (C : Cx X p R s m args meth c cc nL own cells slots) (hX : zfl X = true) {j x : Int32} {K : zG → zR0} (hd : decode cc pc = .ok (.iastore, 1)) (hM : zi j 96 (zw g 38 0 j.toNatClampNeg x K) = some res) (kk : ∀ g1, K g1 = some res → V X p l e R s m args below meth c nL cells slots Q g1 (pc + 1) L st) : V X p l e R s m args below meth c nL cells slots Q g pc L (.inl x :: .inl j :: .inr (.inl (38, 0)) :: st) := by
  obtain ⟨h1, h2⟩ := zi_elim hM
  exact v_iast C hX.symm zm38 rfl h1 hd (kk _ h2)
theorem is_39 (C : Cx X p R s m args meth c cc nL own cells slots) (hX : zfl X = true) {j x : Int32} {K : zG → zR0} (hd : decode cc pc = .ok (.iastore, 1)) (hM : zi j 96 (zw g 39 0 j.toNatClampNeg x K) = some res) (kk : ∀ g1, K g1 = some res → V X p l e R s m args below meth c nL cells slots Q g1 (pc + 1) L st) : V X p l e R s m args below meth c nL cells slots Q g pc L (.inl x :: .inl j :: .inr (.inl (39, 0)) :: st) := by
  obtain ⟨h1, h2⟩ := zi_elim hM
  exact v_iast C hX.symm zm39 rfl h1 hd (kk _ h2)
theorem is_40 (C : Cx X p R s m args meth c cc nL own cells slots) (hX : zfl X = true) {j x : Int32} {K : zG → zR0} (hd : decode cc pc = .ok (.iastore, 1)) (hM : zi j 96 (zw g 40 0 j.toNatClampNeg x K) = some res) (kk : ∀ g1, K g1 = some res → V X p l e R s m args below meth c nL cells slots Q g1 (pc + 1) L st) : V X p l e R s m args below meth c nL cells slots Q g pc L (.inl x :: .inl j :: .inr (.inl (40, 0)) :: st) := by
  obtain ⟨h1, h2⟩ := zi_elim hM
  exact v_iast C hX.symm zm40 rfl h1 hd (kk _ h2)
theorem is_41 (C : Cx X p R s m args meth c cc nL own cells slots) (hX : zfl X = true) {j x : Int32} {K : zG → zR0} (hd : decode cc pc = .ok (.iastore, 1)) (hM : zi j 96 (zw g 41 0 j.toNatClampNeg x K) = some res) (kk : ∀ g1, K g1 = some res → V X p l e R s m args below meth c nL cells slots Q g1 (pc + 1) L st) : V X p l e R s m args below meth c nL cells slots Q g pc L (.inl x :: .inl j :: .inr (.inl (41, 0)) :: st) := by
  obtain ⟨h1, h2⟩ := zi_elim hM
  exact v_iast C hX.symm zm41 rfl h1 hd (kk _ h2)
theorem is_42 (C : Cx X p R s m args meth c cc nL own cells slots) (hX : zfl X = true) {j x : Int32} {K : zG → zR0} (hd : decode cc pc = .ok (.iastore, 1)) (hM : zi j 96 (zw g 42 0 j.toNatClampNeg x K) = some res) (kk : ∀ g1, K g1 = some res → V X p l e R s m args below meth c nL cells slots Q g1 (pc + 1) L st) : V X p l e R s m args below meth c nL cells slots Q g pc L (.inl x :: .inl j :: .inr (.inl (42, 0)) :: st) := by
  obtain ⟨h1, h2⟩ := zi_elim hM
  exact v_iast C hX.symm zm42 rfl h1 hd (kk _ h2)
theorem is_43 (C : Cx X p R s m args meth c cc nL own cells slots) (hX : zfl X = true) {j x : Int32} {K : zG → zR0} (hd : decode cc pc = .ok (.iastore, 1)) (hM : zi j 2766 (zw g 43 0 j.toNatClampNeg x K) = some res) (kk : ∀ g1, K g1 = some res → V X p l e R s m args below meth c nL cells slots Q g1 (pc + 1) L st) : V X p l e R s m args below meth c nL cells slots Q g pc L (.inl x :: .inl j :: .inr (.inl (43, 0)) :: st) := by
  obtain ⟨h1, h2⟩ := zi_elim hM
  exact v_iast C hX.symm zm43 rfl h1 hd (kk _ h2)
theorem is_44 (C : Cx X p R s m args meth c cc nL own cells slots) (hX : zfl X = true) {j x : Int32} {K : zG → zR0} (hd : decode cc pc = .ok (.iastore, 1)) (hM : zi j 2766 (zw g 44 0 j.toNatClampNeg x K) = some res) (kk : ∀ g1, K g1 = some res → V X p l e R s m args below meth c nL cells slots Q g1 (pc + 1) L st) : V X p l e R s m args below meth c nL cells slots Q g pc L (.inl x :: .inl j :: .inr (.inl (44, 0)) :: st) := by
  obtain ⟨h1, h2⟩ := zi_elim hM
  exact v_iast C hX.symm zm44 rfl h1 hd (kk _ h2)
theorem is_45 (C : Cx X p R s m args meth c cc nL own cells slots) (hX : zfl X = true) {j x : Int32} {K : zG → zR0} (hd : decode cc pc = .ok (.iastore, 1)) (hM : zi j 2766 (zw g 45 0 j.toNatClampNeg x K) = some res) (kk : ∀ g1, K g1 = some res → V X p l e R s m args below meth c nL cells slots Q g1 (pc + 1) L st) : V X p l e R s m args below meth c nL cells slots Q g pc L (.inl x :: .inl j :: .inr (.inl (45, 0)) :: st) := by
  obtain ⟨h1, h2⟩ := zi_elim hM
  exact v_iast C hX.symm zm45 rfl h1 hd (kk _ h2)
theorem is_46 (C : Cx X p R s m args meth c cc nL own cells slots) (hX : zfl X = true) {j x : Int32} {K : zG → zR0} (hd : decode cc pc = .ok (.iastore, 1)) (hM : zi j 64 (zw g 46 0 j.toNatClampNeg x K) = some res) (kk : ∀ g1, K g1 = some res → V X p l e R s m args below meth c nL cells slots Q g1 (pc + 1) L st) : V X p l e R s m args below meth c nL cells slots Q g pc L (.inl x :: .inl j :: .inr (.inl (46, 0)) :: st) := by
  obtain ⟨h1, h2⟩ := zi_elim hM
  exact v_iast C hX.symm zm46 rfl h1 hd (kk _ h2)
theorem aa_18 (C : Cx X p R s m args meth c cc nL own cells slots) (hX : zfl X = false) {i : Nat} (hq : i < 3) {j : Int32} {A : zR0} (hd : decode cc pc = .ok (.aaload, 1)) (hM : zi j 4 A = some res) (kk : A = some res → zin j 4 = true → V X p l e R s m args below meth c nL cells slots Q g (pc + 1) L (.inr (.inl (4, 4 * i + j.toNatClampNeg)) :: st)) : V X p l e R s m args below meth c nL cells slots Q g pc L (.inl j :: .inr (.inl (18, i)) :: st) := by
  obtain ⟨h1, h2⟩ := zi_elim hM
  exact v_aald C 2 hX.symm (zm18 hq) rfl rfl h1 hd (kk h2 h1)
theorem aa_19 (C : Cx X p R s m args meth c cc nL own cells slots) (hX : zfl X = false) {i : Nat} (hq : i < 3) {j : Int32} {A : zR0} (hd : decode cc pc = .ok (.aaload, 1)) (hM : zi j 4 A = some res) (kk : A = some res → zin j 4 = true → V X p l e R s m args below meth c nL cells slots Q g (pc + 1) L (.inr (.inl (5, 4 * i + j.toNatClampNeg)) :: st)) : V X p l e R s m args below meth c nL cells slots Q g pc L (.inl j :: .inr (.inl (19, i)) :: st) := by
  obtain ⟨h1, h2⟩ := zi_elim hM
  exact v_aald C 3 hX.symm (zm19 hq) rfl rfl h1 hd (kk h2 h1)
end ZV3
end
