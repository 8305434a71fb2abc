-- ===== PART A: goes FIRST, ahead of the names: the tables' words, and 'selects' of the private methods out of them =====
/-- a private method of a class that the tables say can be made, by its rows of tables_1 -/
def lw_okq (q : MethodName × Nat) : Prop := (q.1.cls ≠ "java/lang/invoke/MethodHandle" ∧ q.1.cls ≠ "java/lang/invoke/VarHandle") ∧ Cond.instantiable q.1.cls q.2 ∈ tables_1 ∧ Cond.privateMethod q.1 ∈ tables_1 ∧ Cond.instanceMethod q.1 ∈ tables_1
theorem lw_p0 : lw_okq (⟨"KindSayings", "startOver", "()V"⟩, 8) := ⟨⟨by decide +kernel, by decide +kernel⟩, List.mem_of_getElem? (i := 13) (by decide +kernel), List.mem_of_getElem? (i := 229) (by decide +kernel), List.mem_of_getElem? (i := 230) (by decide +kernel)⟩
theorem lw_p1 : lw_okq (⟨"KindSayings", "sortCount", "()I"⟩, 8) := ⟨⟨by decide +kernel, by decide +kernel⟩, List.mem_of_getElem? (i := 13) (by decide +kernel), List.mem_of_getElem? (i := 245) (by decide +kernel), List.mem_of_getElem? (i := 246) (by decide +kernel)⟩
theorem lw_p2 : lw_okq (⟨"KindSayings", "isSort", "(I)Z"⟩, 8) := ⟨⟨by decide +kernel, by decide +kernel⟩, List.mem_of_getElem? (i := 13) (by decide +kernel), List.mem_of_getElem? (i := 297) (by decide +kernel), List.mem_of_getElem? (i := 298) (by decide +kernel)⟩
theorem lw_p3 : lw_okq (⟨"KindSayings", "thingsAtHand", "()I"⟩, 8) := ⟨⟨by decide +kernel, by decide +kernel⟩, List.mem_of_getElem? (i := 13) (by decide +kernel), List.mem_of_getElem? (i := 301) (by decide +kernel), List.mem_of_getElem? (i := 302) (by decide +kernel)⟩
theorem lw_p4 : lw_okq (⟨"KindSayings", "sayingAt", "(I)LKindSayings$Saying;"⟩, 8) := ⟨⟨by decide +kernel, by decide +kernel⟩, List.mem_of_getElem? (i := 13) (by decide +kernel), List.mem_of_getElem? (i := 309) (by decide +kernel), List.mem_of_getElem? (i := 310) (by decide +kernel)⟩
theorem lw_p5 : lw_okq (⟨"KindSayings", "sumAtHand", "(LKindSayings$Saying;)I"⟩, 8) := ⟨⟨by decide +kernel, by decide +kernel⟩, List.mem_of_getElem? (i := 13) (by decide +kernel), List.mem_of_getElem? (i := 313) (by decide +kernel), List.mem_of_getElem? (i := 314) (by decide +kernel)⟩
theorem lw_p6 : lw_okq (⟨"KindSayings$Saying", "isTrueUnturned", "(III)Z"⟩, 6) := ⟨⟨by decide +kernel, by decide +kernel⟩, List.mem_of_getElem? (i := 64) (by decide +kernel), List.mem_of_getElem? (i := 325) (by decide +kernel), List.mem_of_getElem? (i := 326) (by decide +kernel)⟩
theorem lw_p7 : lw_okq (⟨"KindSayings$Tokens", "byteAt", "(I)I"⟩, 7) := ⟨⟨by decide +kernel, by decide +kernel⟩, List.mem_of_getElem? (i := 29) (by decide +kernel), List.mem_of_getElem? (i := 365) (by decide +kernel), List.mem_of_getElem? (i := 366) (by decide +kernel)⟩
theorem lw_p8 : lw_okq (⟨"KindSayings$Tokens", "takeWord", "()V"⟩, 7) := ⟨⟨by decide +kernel, by decide +kernel⟩, List.mem_of_getElem? (i := 29) (by decide +kernel), List.mem_of_getElem? (i := 372) (by decide +kernel), List.mem_of_getElem? (i := 373) (by decide +kernel)⟩
theorem lw_p9 : lw_okq (⟨"KindSayings$Tokens", "takeNumber", "()V"⟩, 7) := ⟨⟨by decide +kernel, by decide +kernel⟩, List.mem_of_getElem? (i := 29) (by decide +kernel), List.mem_of_getElem? (i := 381) (by decide +kernel), List.mem_of_getElem? (i := 382) (by decide +kernel)⟩
theorem lw_p10 : lw_okq (⟨"KindSayings$Tokens", "takeSign", "(I)V"⟩, 7) := ⟨⟨by decide +kernel, by decide +kernel⟩, List.mem_of_getElem? (i := 29) (by decide +kernel), List.mem_of_getElem? (i := 388) (by decide +kernel), List.mem_of_getElem? (i := 389) (by decide +kernel)⟩
theorem lw_p11 : lw_okq (⟨"KindSayings$Reader", "readHead", "()V"⟩, 6) := ⟨⟨by decide +kernel, by decide +kernel⟩, List.mem_of_getElem? (i := 23) (by decide +kernel), List.mem_of_getElem? (i := 392) (by decide +kernel), List.mem_of_getElem? (i := 393) (by decide +kernel)⟩
theorem lw_p12 : lw_okq (⟨"KindSayings$Reader", "fail", "()V"⟩, 6) := ⟨⟨by decide +kernel, by decide +kernel⟩, List.mem_of_getElem? (i := 23) (by decide +kernel), List.mem_of_getElem? (i := 397) (by decide +kernel), List.mem_of_getElem? (i := 398) (by decide +kernel)⟩
theorem lw_p13 : lw_okq (⟨"KindSayings$Reader", "pass", "(I)V"⟩, 6) := ⟨⟨by decide +kernel, by decide +kernel⟩, List.mem_of_getElem? (i := 23) (by decide +kernel), List.mem_of_getElem? (i := 401) (by decide +kernel), List.mem_of_getElem? (i := 402) (by decide +kernel)⟩
theorem lw_p14 : lw_okq (⟨"KindSayings$Reader", "readNumber", "()V"⟩, 6) := ⟨⟨by decide +kernel, by decide +kernel⟩, List.mem_of_getElem? (i := 23) (by decide +kernel), List.mem_of_getElem? (i := 405) (by decide +kernel), List.mem_of_getElem? (i := 406) (by decide +kernel)⟩
theorem lw_p15 : lw_okq (⟨"KindSayings$Reader", "readSide", "()I"⟩, 6) := ⟨⟨by decide +kernel, by decide +kernel⟩, List.mem_of_getElem? (i := 23) (by decide +kernel), List.mem_of_getElem? (i := 409) (by decide +kernel), List.mem_of_getElem? (i := 410) (by decide +kernel)⟩
def lw_privs_1 : List (MethodName × Nat) := [(⟨"KindSayings", "startOver", "()V"⟩, 8), (⟨"KindSayings", "sortCount", "()I"⟩, 8), (⟨"KindSayings", "isSort", "(I)Z"⟩, 8), (⟨"KindSayings", "thingsAtHand", "()I"⟩, 8), (⟨"KindSayings", "sayingAt", "(I)LKindSayings$Saying;"⟩, 8), (⟨"KindSayings", "sumAtHand", "(LKindSayings$Saying;)I"⟩, 8), (⟨"KindSayings$Saying", "isTrueUnturned", "(III)Z"⟩, 6), (⟨"KindSayings$Tokens", "byteAt", "(I)I"⟩, 7), (⟨"KindSayings$Tokens", "takeWord", "()V"⟩, 7), (⟨"KindSayings$Tokens", "takeNumber", "()V"⟩, 7), (⟨"KindSayings$Tokens", "takeSign", "(I)V"⟩, 7), (⟨"KindSayings$Reader", "readHead", "()V"⟩, 6), (⟨"KindSayings$Reader", "fail", "()V"⟩, 6), (⟨"KindSayings$Reader", "pass", "(I)V"⟩, 6), (⟨"KindSayings$Reader", "readNumber", "()V"⟩, 6), (⟨"KindSayings$Reader", "readSide", "()I"⟩, 6)]
theorem lw_r1 : ∀ q ∈ lw_privs_1, lw_okq q := List.forall_mem_cons.mpr ⟨lw_p0, List.forall_mem_cons.mpr ⟨lw_p1, List.forall_mem_cons.mpr ⟨lw_p2, List.forall_mem_cons.mpr ⟨lw_p3, List.forall_mem_cons.mpr ⟨lw_p4, List.forall_mem_cons.mpr ⟨lw_p5, List.forall_mem_cons.mpr ⟨lw_p6, List.forall_mem_cons.mpr ⟨lw_p7, List.forall_mem_cons.mpr ⟨lw_p8, List.forall_mem_cons.mpr ⟨lw_p9, List.forall_mem_cons.mpr ⟨lw_p10, List.forall_mem_cons.mpr ⟨lw_p11, List.forall_mem_cons.mpr ⟨lw_p12, List.forall_mem_cons.mpr ⟨lw_p13, List.forall_mem_cons.mpr ⟨lw_p14, List.forall_mem_cons.mpr ⟨lw_p15, fun _ h => absurd h List.not_mem_nil⟩⟩⟩⟩⟩⟩⟩⟩⟩⟩⟩⟩⟩⟩⟩⟩
theorem lw_p16 : lw_okq (⟨"KindSayings$Reader", "readUnion", "(I)I"⟩, 6) := ⟨⟨by decide +kernel, by decide +kernel⟩, List.mem_of_getElem? (i := 23) (by decide +kernel), List.mem_of_getElem? (i := 413) (by decide +kernel), List.mem_of_getElem? (i := 414) (by decide +kernel)⟩
theorem lw_p17 : lw_okq (⟨"KindSayings$Reader", "readMeet", "(I)I"⟩, 6) := ⟨⟨by decide +kernel, by decide +kernel⟩, List.mem_of_getElem? (i := 23) (by decide +kernel), List.mem_of_getElem? (i := 417) (by decide +kernel), List.mem_of_getElem? (i := 418) (by decide +kernel)⟩
theorem lw_p18 : lw_okq (⟨"KindSayings$Reader", "readPart", "(I)I"⟩, 6) := ⟨⟨by decide +kernel, by decide +kernel⟩, List.mem_of_getElem? (i := 23) (by decide +kernel), List.mem_of_getElem? (i := 421) (by decide +kernel), List.mem_of_getElem? (i := 422) (by decide +kernel)⟩
theorem lw_p19 : lw_okq (⟨"KindSayings$Reader", "isPart", "(III)Z"⟩, 6) := ⟨⟨by decide +kernel, by decide +kernel⟩, List.mem_of_getElem? (i := 23) (by decide +kernel), List.mem_of_getElem? (i := 425) (by decide +kernel), List.mem_of_getElem? (i := 426) (by decide +kernel)⟩
theorem lw_p20 : lw_okq (⟨"KindSayings$Reader", "factTold", "(II)I"⟩, 6) := ⟨⟨by decide +kernel, by decide +kernel⟩, List.mem_of_getElem? (i := 23) (by decide +kernel), List.mem_of_getElem? (i := 431) (by decide +kernel), List.mem_of_getElem? (i := 432) (by decide +kernel)⟩
theorem lw_p21 : lw_okq (⟨"KindSayings", "freshHeaps", "()LKindSayings$Heaps;"⟩, 8) := ⟨⟨by decide +kernel, by decide +kernel⟩, List.mem_of_getElem? (i := 13) (by decide +kernel), List.mem_of_getElem? (i := 451) (by decide +kernel), List.mem_of_getElem? (i := 452) (by decide +kernel)⟩
theorem lw_p22 : lw_okq (⟨"KindSayings$Heaps", "mark", "(LKindSayings$Saying;I)V"⟩, 10) := ⟨⟨by decide +kernel, by decide +kernel⟩, List.mem_of_getElem? (i := 122) (by decide +kernel), List.mem_of_getElem? (i := 466) (by decide +kernel), List.mem_of_getElem? (i := 467) (by decide +kernel)⟩
theorem lw_p23 : lw_okq (⟨"KindSayings$Walk", "fillFrom", "(II)V"⟩, 6) := ⟨⟨by decide +kernel, by decide +kernel⟩, List.mem_of_getElem? (i := 128) (by decide +kernel), List.mem_of_getElem? (i := 485) (by decide +kernel), List.mem_of_getElem? (i := 486) (by decide +kernel)⟩
theorem lw_p24 : lw_okq (⟨"KindSayings$Heaps", "fillHeaps", "()V"⟩, 10) := ⟨⟨by decide +kernel, by decide +kernel⟩, List.mem_of_getElem? (i := 122) (by decide +kernel), List.mem_of_getElem? (i := 489) (by decide +kernel), List.mem_of_getElem? (i := 490) (by decide +kernel)⟩
theorem lw_p25 : lw_okq (⟨"KindSayings$Heaps", "addTogether", "()V"⟩, 10) := ⟨⟨by decide +kernel, by decide +kernel⟩, List.mem_of_getElem? (i := 122) (by decide +kernel), List.mem_of_getElem? (i := 493) (by decide +kernel), List.mem_of_getElem? (i := 494) (by decide +kernel)⟩
theorem lw_p26 : lw_okq (⟨"KindSayings", "isSortOrEvery", "(I)Z"⟩, 8) := ⟨⟨by decide +kernel, by decide +kernel⟩, List.mem_of_getElem? (i := 13) (by decide +kernel), List.mem_of_getElem? (i := 505) (by decide +kernel), List.mem_of_getElem? (i := 506) (by decide +kernel)⟩
theorem lw_p27 : lw_okq (⟨"KindSayings", "isFact", "(III)Z"⟩, 8) := ⟨⟨by decide +kernel, by decide +kernel⟩, List.mem_of_getElem? (i := 13) (by decide +kernel), List.mem_of_getElem? (i := 579) (by decide +kernel), List.mem_of_getElem? (i := 580) (by decide +kernel)⟩
theorem lw_p28 : lw_okq (⟨"KindSayings", "work", "(I)V"⟩, 8) := ⟨⟨by decide +kernel, by decide +kernel⟩, List.mem_of_getElem? (i := 13) (by decide +kernel), List.mem_of_getElem? (i := 583) (by decide +kernel), List.mem_of_getElem? (i := 584) (by decide +kernel)⟩
theorem lw_p29 : lw_okq (⟨"KindSayings$Proof", "isSame", "(I)Z"⟩, 8) := ⟨⟨by decide +kernel, by decide +kernel⟩, List.mem_of_getElem? (i := 196) (by decide +kernel), List.mem_of_getElem? (i := 592) (by decide +kernel), List.mem_of_getElem? (i := 593) (by decide +kernel)⟩
theorem lw_p30 : lw_okq (⟨"KindSayings$Proof", "isOfKinds", "(I)Z"⟩, 8) := ⟨⟨by decide +kernel, by decide +kernel⟩, List.mem_of_getElem? (i := 196) (by decide +kernel), List.mem_of_getElem? (i := 596) (by decide +kernel), List.mem_of_getElem? (i := 597) (by decide +kernel)⟩
theorem lw_p31 : lw_okq (⟨"KindSayings$Proof", "isTold", "(I)Z"⟩, 8) := ⟨⟨by decide +kernel, by decide +kernel⟩, List.mem_of_getElem? (i := 196) (by decide +kernel), List.mem_of_getElem? (i := 600) (by decide +kernel), List.mem_of_getElem? (i := 601) (by decide +kernel)⟩
def lw_privs_2 : List (MethodName × Nat) := [(⟨"KindSayings$Reader", "readUnion", "(I)I"⟩, 6), (⟨"KindSayings$Reader", "readMeet", "(I)I"⟩, 6), (⟨"KindSayings$Reader", "readPart", "(I)I"⟩, 6), (⟨"KindSayings$Reader", "isPart", "(III)Z"⟩, 6), (⟨"KindSayings$Reader", "factTold", "(II)I"⟩, 6), (⟨"KindSayings", "freshHeaps", "()LKindSayings$Heaps;"⟩, 8), (⟨"KindSayings$Heaps", "mark", "(LKindSayings$Saying;I)V"⟩, 10), (⟨"KindSayings$Walk", "fillFrom", "(II)V"⟩, 6), (⟨"KindSayings$Heaps", "fillHeaps", "()V"⟩, 10), (⟨"KindSayings$Heaps", "addTogether", "()V"⟩, 10), (⟨"KindSayings", "isSortOrEvery", "(I)Z"⟩, 8), (⟨"KindSayings", "isFact", "(III)Z"⟩, 8), (⟨"KindSayings", "work", "(I)V"⟩, 8), (⟨"KindSayings$Proof", "isSame", "(I)Z"⟩, 8), (⟨"KindSayings$Proof", "isOfKinds", "(I)Z"⟩, 8), (⟨"KindSayings$Proof", "isTold", "(I)Z"⟩, 8)]
theorem lw_r2 : ∀ q ∈ lw_privs_2, lw_okq q := List.forall_mem_cons.mpr ⟨lw_p16, List.forall_mem_cons.mpr ⟨lw_p17, List.forall_mem_cons.mpr ⟨lw_p18, List.forall_mem_cons.mpr ⟨lw_p19, List.forall_mem_cons.mpr ⟨lw_p20, List.forall_mem_cons.mpr ⟨lw_p21, List.forall_mem_cons.mpr ⟨lw_p22, List.forall_mem_cons.mpr ⟨lw_p23, List.forall_mem_cons.mpr ⟨lw_p24, List.forall_mem_cons.mpr ⟨lw_p25, List.forall_mem_cons.mpr ⟨lw_p26, List.forall_mem_cons.mpr ⟨lw_p27, List.forall_mem_cons.mpr ⟨lw_p28, List.forall_mem_cons.mpr ⟨lw_p29, List.forall_mem_cons.mpr ⟨lw_p30, List.forall_mem_cons.mpr ⟨lw_p31, fun _ h => absurd h List.not_mem_nil⟩⟩⟩⟩⟩⟩⟩⟩⟩⟩⟩⟩⟩⟩⟩⟩
theorem lw_p32 : lw_okq (⟨"KindSayings$Proof", "factsAhead", "(I)J"⟩, 8) := ⟨⟨by decide +kernel, by decide +kernel⟩, List.mem_of_getElem? (i := 196) (by decide +kernel), List.mem_of_getElem? (i := 604) (by decide +kernel), List.mem_of_getElem? (i := 605) (by decide +kernel)⟩
theorem lw_p33 : lw_okq (⟨"KindSayings$Proof", "isAnyComing", "(I)Z"⟩, 8) := ⟨⟨by decide +kernel, by decide +kernel⟩, List.mem_of_getElem? (i := 196) (by decide +kernel), List.mem_of_getElem? (i := 608) (by decide +kernel), List.mem_of_getElem? (i := 609) (by decide +kernel)⟩
theorem lw_p34 : lw_okq (⟨"KindSayings$Proof", "leastMood", "(I)I"⟩, 8) := ⟨⟨by decide +kernel, by decide +kernel⟩, List.mem_of_getElem? (i := 196) (by decide +kernel), List.mem_of_getElem? (i := 612) (by decide +kernel), List.mem_of_getElem? (i := 613) (by decide +kernel)⟩
theorem lw_p35 : lw_okq (⟨"KindSayings$Proof", "isShowing", "(III)Z"⟩, 8) := ⟨⟨by decide +kernel, by decide +kernel⟩, List.mem_of_getElem? (i := 196) (by decide +kernel), List.mem_of_getElem? (i := 618) (by decide +kernel), List.mem_of_getElem? (i := 619) (by decide +kernel)⟩
theorem lw_p36 : lw_okq (⟨"KindSayings$Proof", "isShownOf", "(II)Z"⟩, 8) := ⟨⟨by decide +kernel, by decide +kernel⟩, List.mem_of_getElem? (i := 196) (by decide +kernel), List.mem_of_getElem? (i := 627) (by decide +kernel), List.mem_of_getElem? (i := 628) (by decide +kernel)⟩
theorem lw_p37 : lw_okq (⟨"KindSayings", "everyFact", "()J"⟩, 8) := ⟨⟨by decide +kernel, by decide +kernel⟩, List.mem_of_getElem? (i := 13) (by decide +kernel), List.mem_of_getElem? (i := 675) (by decide +kernel), List.mem_of_getElem? (i := 676) (by decide +kernel)⟩
theorem lw_p38 : lw_okq (⟨"KindSayings", "plainSayings", "()I"⟩, 8) := ⟨⟨by decide +kernel, by decide +kernel⟩, List.mem_of_getElem? (i := 13) (by decide +kernel), List.mem_of_getElem? (i := 684) (by decide +kernel), List.mem_of_getElem? (i := 685) (by decide +kernel)⟩
theorem lw_p39 : lw_okq (⟨"KindSayingsModel", "begins", "()V"⟩, 29) := ⟨⟨by decide +kernel, by decide +kernel⟩, List.mem_of_getElem? (i := 688) (by decide +kernel), List.mem_of_getElem? (i := 694) (by decide +kernel), List.mem_of_getElem? (i := 695) (by decide +kernel)⟩
theorem lw_p40 : lw_okq (⟨"KindSayingsModel", "of", "(I)I"⟩, 29) := ⟨⟨by decide +kernel, by decide +kernel⟩, List.mem_of_getElem? (i := 688) (by decide +kernel), List.mem_of_getElem? (i := 698) (by decide +kernel), List.mem_of_getElem? (i := 699) (by decide +kernel)⟩
theorem lw_p41 : lw_okq (⟨"KindSayingsModel", "sorts", "()I"⟩, 29) := ⟨⟨by decide +kernel, by decide +kernel⟩, List.mem_of_getElem? (i := 688) (by decide +kernel), List.mem_of_getElem? (i := 702) (by decide +kernel), List.mem_of_getElem? (i := 703) (by decide +kernel)⟩
theorem lw_p42 : lw_okq (⟨"KindSayingsModel", "loads", "()V"⟩, 29) := ⟨⟨by decide +kernel, by decide +kernel⟩, List.mem_of_getElem? (i := 688) (by decide +kernel), List.mem_of_getElem? (i := 809) (by decide +kernel), List.mem_of_getElem? (i := 810) (by decide +kernel)⟩
theorem lw_p43 : lw_okq (⟨"KindSayingsModel", "takes", "()V"⟩, 29) := ⟨⟨by decide +kernel, by decide +kernel⟩, List.mem_of_getElem? (i := 688) (by decide +kernel), List.mem_of_getElem? (i := 813) (by decide +kernel), List.mem_of_getElem? (i := 814) (by decide +kernel)⟩
theorem lw_p44 : lw_okq (⟨"KindSayingsModel", "isSo", "(I[I)Z"⟩, 29) := ⟨⟨by decide +kernel, by decide +kernel⟩, List.mem_of_getElem? (i := 688) (by decide +kernel), List.mem_of_getElem? (i := 817) (by decide +kernel), List.mem_of_getElem? (i := 818) (by decide +kernel)⟩
theorem lw_p45 : lw_okq (⟨"KindSayingsModel", "sizeOf", "(I[I)I"⟩, 29) := ⟨⟨by decide +kernel, by decide +kernel⟩, List.mem_of_getElem? (i := 688) (by decide +kernel), List.mem_of_getElem? (i := 821) (by decide +kernel), List.mem_of_getElem? (i := 822) (by decide +kernel)⟩
theorem lw_p46 : lw_okq (⟨"KindSayingsModel", "isFact", "(III)Z"⟩, 29) := ⟨⟨by decide +kernel, by decide +kernel⟩, List.mem_of_getElem? (i := 688) (by decide +kernel), List.mem_of_getElem? (i := 826) (by decide +kernel), List.mem_of_getElem? (i := 827) (by decide +kernel)⟩
theorem lw_p47 : lw_okq (⟨"KindSayingsModel", "all", "([I)I"⟩, 29) := ⟨⟨by decide +kernel, by decide +kernel⟩, List.mem_of_getElem? (i := 688) (by decide +kernel), List.mem_of_getElem? (i := 834) (by decide +kernel), List.mem_of_getElem? (i := 835) (by decide +kernel)⟩
def lw_privs_3 : List (MethodName × Nat) := [(⟨"KindSayings$Proof", "factsAhead", "(I)J"⟩, 8), (⟨"KindSayings$Proof", "isAnyComing", "(I)Z"⟩, 8), (⟨"KindSayings$Proof", "leastMood", "(I)I"⟩, 8), (⟨"KindSayings$Proof", "isShowing", "(III)Z"⟩, 8), (⟨"KindSayings$Proof", "isShownOf", "(II)Z"⟩, 8), (⟨"KindSayings", "everyFact", "()J"⟩, 8), (⟨"KindSayings", "plainSayings", "()I"⟩, 8), (⟨"KindSayingsModel", "begins", "()V"⟩, 29), (⟨"KindSayingsModel", "of", "(I)I"⟩, 29), (⟨"KindSayingsModel", "sorts", "()I"⟩, 29), (⟨"KindSayingsModel", "loads", "()V"⟩, 29), (⟨"KindSayingsModel", "takes", "()V"⟩, 29), (⟨"KindSayingsModel", "isSo", "(I[I)Z"⟩, 29), (⟨"KindSayingsModel", "sizeOf", "(I[I)I"⟩, 29), (⟨"KindSayingsModel", "isFact", "(III)Z"⟩, 29), (⟨"KindSayingsModel", "all", "([I)I"⟩, 29)]
theorem lw_r3 : ∀ q ∈ lw_privs_3, lw_okq q := List.forall_mem_cons.mpr ⟨lw_p32, List.forall_mem_cons.mpr ⟨lw_p33, List.forall_mem_cons.mpr ⟨lw_p34, List.forall_mem_cons.mpr ⟨lw_p35, List.forall_mem_cons.mpr ⟨lw_p36, List.forall_mem_cons.mpr ⟨lw_p37, List.forall_mem_cons.mpr ⟨lw_p38, List.forall_mem_cons.mpr ⟨lw_p39, List.forall_mem_cons.mpr ⟨lw_p40, List.forall_mem_cons.mpr ⟨lw_p41, List.forall_mem_cons.mpr ⟨lw_p42, List.forall_mem_cons.mpr ⟨lw_p43, List.forall_mem_cons.mpr ⟨lw_p44, List.forall_mem_cons.mpr ⟨lw_p45, List.forall_mem_cons.mpr ⟨lw_p46, List.forall_mem_cons.mpr ⟨lw_p47, fun _ h => absurd h List.not_mem_nil⟩⟩⟩⟩⟩⟩⟩⟩⟩⟩⟩⟩⟩⟩⟩⟩
theorem lw_p48 : lw_okq (⟨"KindSayingsModel", "advances", "()V"⟩, 29) := ⟨⟨by decide +kernel, by decide +kernel⟩, List.mem_of_getElem? (i := 688) (by decide +kernel), List.mem_of_getElem? (i := 862) (by decide +kernel), List.mem_of_getElem? (i := 863) (by decide +kernel)⟩
theorem lw_p49 : lw_okq (⟨"KindSayingsModel", "byteAt", "(I)I"⟩, 29) := ⟨⟨by decide +kernel, by decide +kernel⟩, List.mem_of_getElem? (i := 688) (by decide +kernel), List.mem_of_getElem? (i := 866) (by decide +kernel), List.mem_of_getElem? (i := 867) (by decide +kernel)⟩
theorem lw_p50 : lw_okq (⟨"KindSayingsModel", "fails", "()V"⟩, 29) := ⟨⟨by decide +kernel, by decide +kernel⟩, List.mem_of_getElem? (i := 688) (by decide +kernel), List.mem_of_getElem? (i := 880) (by decide +kernel), List.mem_of_getElem? (i := 881) (by decide +kernel)⟩
theorem lw_p51 : lw_okq (⟨"KindSayingsModel", "isWell", "()Z"⟩, 29) := ⟨⟨by decide +kernel, by decide +kernel⟩, List.mem_of_getElem? (i := 688) (by decide +kernel), List.mem_of_getElem? (i := 884) (by decide +kernel), List.mem_of_getElem? (i := 885) (by decide +kernel)⟩
theorem lw_p52 : lw_okq (⟨"KindSayingsModel", "side", "()I"⟩, 29) := ⟨⟨by decide +kernel, by decide +kernel⟩, List.mem_of_getElem? (i := 688) (by decide +kernel), List.mem_of_getElem? (i := 888) (by decide +kernel), List.mem_of_getElem? (i := 889) (by decide +kernel)⟩
theorem lw_p53 : lw_okq (⟨"KindSayingsModel", "isSign", "(I)Z"⟩, 29) := ⟨⟨by decide +kernel, by decide +kernel⟩, List.mem_of_getElem? (i := 688) (by decide +kernel), List.mem_of_getElem? (i := 892) (by decide +kernel), List.mem_of_getElem? (i := 893) (by decide +kernel)⟩
theorem lw_p54 : lw_okq (⟨"KindSayingsModel", "isKindSign", "()Z"⟩, 29) := ⟨⟨by decide +kernel, by decide +kernel⟩, List.mem_of_getElem? (i := 688) (by decide +kernel), List.mem_of_getElem? (i := 896) (by decide +kernel), List.mem_of_getElem? (i := 897) (by decide +kernel)⟩
theorem lw_p55 : lw_okq (⟨"KindSayingsModel", "hasOpen", "(I)Z"⟩, 29) := ⟨⟨by decide +kernel, by decide +kernel⟩, List.mem_of_getElem? (i := 688) (by decide +kernel), List.mem_of_getElem? (i := 903) (by decide +kernel), List.mem_of_getElem? (i := 904) (by decide +kernel)⟩
theorem lw_p56 : lw_okq (⟨"KindSayingsModel", "every", "()I"⟩, 29) := ⟨⟨by decide +kernel, by decide +kernel⟩, List.mem_of_getElem? (i := 688) (by decide +kernel), List.mem_of_getElem? (i := 907) (by decide +kernel), List.mem_of_getElem? (i := 908) (by decide +kernel)⟩
theorem lw_p57 : lw_okq (⟨"KindSayingsModel", "canBe", "(I)I"⟩, 29) := ⟨⟨by decide +kernel, by decide +kernel⟩, List.mem_of_getElem? (i := 688) (by decide +kernel), List.mem_of_getElem? (i := 922) (by decide +kernel), List.mem_of_getElem? (i := 923) (by decide +kernel)⟩
theorem lw_p58 : lw_okq (⟨"KindSayingsModel", "firstOf", "(II)I"⟩, 29) := ⟨⟨by decide +kernel, by decide +kernel⟩, List.mem_of_getElem? (i := 688) (by decide +kernel), List.mem_of_getElem? (i := 933) (by decide +kernel), List.mem_of_getElem? (i := 934) (by decide +kernel)⟩
theorem lw_p59 : lw_okq (⟨"KindSayingsModel", "told", "(II)I"⟩, 29) := ⟨⟨by decide +kernel, by decide +kernel⟩, List.mem_of_getElem? (i := 688) (by decide +kernel), List.mem_of_getElem? (i := 937) (by decide +kernel), List.mem_of_getElem? (i := 938) (by decide +kernel)⟩
theorem lw_p60 : lw_okq (⟨"KindSayingsModel", "isAsked", "(IIII)Z"⟩, 29) := ⟨⟨by decide +kernel, by decide +kernel⟩, List.mem_of_getElem? (i := 688) (by decide +kernel), List.mem_of_getElem? (i := 980) (by decide +kernel), List.mem_of_getElem? (i := 981) (by decide +kernel)⟩
theorem lw_p61 : lw_okq (⟨"KindSayingsModel", "shows", "(I)V"⟩, 29) := ⟨⟨by decide +kernel, by decide +kernel⟩, List.mem_of_getElem? (i := 688) (by decide +kernel), List.mem_of_getElem? (i := 984) (by decide +kernel), List.mem_of_getElem? (i := 985) (by decide +kernel)⟩
theorem lw_p62 : lw_okq (⟨"KindSayingsModel", "isTold", "(II)Z"⟩, 29) := ⟨⟨by decide +kernel, by decide +kernel⟩, List.mem_of_getElem? (i := 688) (by decide +kernel), List.mem_of_getElem? (i := 988) (by decide +kernel), List.mem_of_getElem? (i := 989) (by decide +kernel)⟩
theorem lw_p63 : lw_okq (⟨"KindSayingsModel", "isShown", "(IIIII)Z"⟩, 29) := ⟨⟨by decide +kernel, by decide +kernel⟩, List.mem_of_getElem? (i := 688) (by decide +kernel), List.mem_of_getElem? (i := 992) (by decide +kernel), List.mem_of_getElem? (i := 993) (by decide +kernel)⟩
def lw_privs_4 : List (MethodName × Nat) := [(⟨"KindSayingsModel", "advances", "()V"⟩, 29), (⟨"KindSayingsModel", "byteAt", "(I)I"⟩, 29), (⟨"KindSayingsModel", "fails", "()V"⟩, 29), (⟨"KindSayingsModel", "isWell", "()Z"⟩, 29), (⟨"KindSayingsModel", "side", "()I"⟩, 29), (⟨"KindSayingsModel", "isSign", "(I)Z"⟩, 29), (⟨"KindSayingsModel", "isKindSign", "()Z"⟩, 29), (⟨"KindSayingsModel", "hasOpen", "(I)Z"⟩, 29), (⟨"KindSayingsModel", "every", "()I"⟩, 29), (⟨"KindSayingsModel", "canBe", "(I)I"⟩, 29), (⟨"KindSayingsModel", "firstOf", "(II)I"⟩, 29), (⟨"KindSayingsModel", "told", "(II)I"⟩, 29), (⟨"KindSayingsModel", "isAsked", "(IIII)Z"⟩, 29), (⟨"KindSayingsModel", "shows", "(I)V"⟩, 29), (⟨"KindSayingsModel", "isTold", "(II)Z"⟩, 29), (⟨"KindSayingsModel", "isShown", "(IIIII)Z"⟩, 29)]
theorem lw_r4 : ∀ q ∈ lw_privs_4, lw_okq q := List.forall_mem_cons.mpr ⟨lw_p48, List.forall_mem_cons.mpr ⟨lw_p49, List.forall_mem_cons.mpr ⟨lw_p50, List.forall_mem_cons.mpr ⟨lw_p51, List.forall_mem_cons.mpr ⟨lw_p52, List.forall_mem_cons.mpr ⟨lw_p53, List.forall_mem_cons.mpr ⟨lw_p54, List.forall_mem_cons.mpr ⟨lw_p55, List.forall_mem_cons.mpr ⟨lw_p56, List.forall_mem_cons.mpr ⟨lw_p57, List.forall_mem_cons.mpr ⟨lw_p58, List.forall_mem_cons.mpr ⟨lw_p59, List.forall_mem_cons.mpr ⟨lw_p60, List.forall_mem_cons.mpr ⟨lw_p61, List.forall_mem_cons.mpr ⟨lw_p62, List.forall_mem_cons.mpr ⟨lw_p63, fun _ h => absurd h List.not_mem_nil⟩⟩⟩⟩⟩⟩⟩⟩⟩⟩⟩⟩⟩⟩⟩⟩
theorem lw_p64 : lw_okq (⟨"KindSayingsModel", "isBy", "(II)Z"⟩, 29) := ⟨⟨by decide +kernel, by decide +kernel⟩, List.mem_of_getElem? (i := 688) (by decide +kernel), List.mem_of_getElem? (i := 996) (by decide +kernel), List.mem_of_getElem? (i := 997) (by decide +kernel)⟩
def lw_privs_5 : List (MethodName × Nat) := [(⟨"KindSayingsModel", "isBy", "(II)Z"⟩, 29)]
theorem lw_r5 : ∀ q ∈ lw_privs_5, lw_okq q := List.forall_mem_cons.mpr ⟨lw_p64, fun _ h => absurd h List.not_mem_nil⟩
def lw_privs : List (MethodName × Nat) := lw_privs_1 ++ (lw_privs_2 ++ (lw_privs_3 ++ (lw_privs_4 ++ (lw_privs_5))))
def lw_tbl : List Cond := k2_sels lw_privs ++ tables_1
theorem lw_privs_ok : ∀ q ∈ lw_privs, lw_okq q := by
  show ∀ q ∈ lw_privs_1 ++ (lw_privs_2 ++ (lw_privs_3 ++ (lw_privs_4 ++ (lw_privs_5)))), lw_okq q
  exact List.forall_mem_append.mpr ⟨lw_r1, List.forall_mem_append.mpr ⟨lw_r2, List.forall_mem_append.mpr ⟨lw_r3, List.forall_mem_append.mpr ⟨lw_r4, lw_r5⟩⟩⟩⟩
def RX0 : String := "KindSayings$Heaps"
def TX0 : u_T := fun k => match k with
  | 0 => ("KindSayings$Heaps", "walk", "LKindSayings$Walk;", true)
  | 1 => ("KindSayings$Heaps", "many", "[I", true)
  | 2 => ("KindSayings$Heaps", "firsts", "[I", true)
  | 3 => ("KindSayings$Heaps", "together", "[I", true)
  | 4 => ("KindSayings$Heaps", "witness", "[J", true)
  | 5 => ("KindSayings$Heaps", "marks", "[C", false)
  | 6 => ("KindSayings$Heaps", "sorts", "I", false)
  | 7 => ("KindSayings$Heaps", "most", "I", false)
  | 8 => ("KindSayings$Heaps", "total", "I", false)
  | _ => ("KindSayings$Heaps", "stale", "I", false)
def tyX0 : Nat → FieldType := fun k => match k with
  | 0 => .object "KindSayings$Walk"
  | 1 => .array .int
  | 2 => .array .int
  | 3 => .array .int
  | 4 => .array .long
  | 5 => .array .char
  | 6 => .int
  | 7 => .int
  | 8 => .int
  | _ => .int
abbrev wsX00 : List Cond := u_ws RX0 TX0 10
theorem nmX0 : ∀ a, a < 10 → ∀ b, b < 10 → a ≠ b → (TX0 a).2.1 ≠ (TX0 b).2.1 := by decide +kernel
theorem tyX0_ok : ∀ k, k < 10 → parseFieldDescriptor (TX0 k).2.2.1 = some (tyX0 k) := by decide +kernel
abbrev cX0_init : ByteArray := prog_2_method_1_code
def yX0_init : MethodName := ⟨RX0, "<init>", "()V"⟩
abbrev cX0_witnessOf : ByteArray := prog_2_method_2_code
def yX0_witnessOf : MethodName := ⟨RX0, "witnessOf", "(I)J"⟩
abbrev cX0_shape : ByteArray := prog_2_method_3_code
def yX0_shape : MethodName := ⟨RX0, "shape", "(II)V"⟩
abbrev cX0_refresh : ByteArray := prog_2_method_4_code
def yX0_refresh : MethodName := ⟨RX0, "refresh", "([LKindSayings$Saying;)V"⟩
abbrev cX0_likes : ByteArray := prog_2_method_5_code
def yX0_likes : MethodName := ⟨RX0, "likes", "([LKindSayings$Saying;LKindSayings$Saying;)I"⟩
abbrev cX0_mark : ByteArray := prog_2_method_6_code
def yX0_mark : MethodName := ⟨RX0, "mark", "(LKindSayings$Saying;I)V"⟩
abbrev cX0_fillHeaps : ByteArray := prog_2_method_7_code
def yX0_fillHeaps : MethodName := ⟨RX0, "fillHeaps", "()V"⟩
abbrev cX0_addTogether : ByteArray := prog_2_method_8_code
def yX0_addTogether : MethodName := ⟨RX0, "addTogether", "()V"⟩
abbrev cX0_worldsOf : ByteArray := prog_2_method_9_code
def yX0_worldsOf : MethodName := ⟨RX0, "worldsOf", "(I)I"⟩
abbrev cX0_isFollowing : ByteArray := prog_2_method_10_code
def yX0_isFollowing : MethodName := ⟨RX0, "isFollowing", "(II)Z"⟩
abbrev cX0_firstWorld : ByteArray := prog_2_method_11_code
def yX0_firstWorld : MethodName := ⟨RX0, "firstWorld", "(II)I"⟩
abbrev cX0_heapsOf : ByteArray := prog_2_method_12_code
def yX0_heapsOf : MethodName := ⟨RX0, "heapsOf", "(I)I"⟩
abbrev cX0_fewestClashing : ByteArray := prog_2_method_13_code
def yX0_fewestClashing : MethodName := ⟨RX0, "fewestClashing", "(I)I"⟩
abbrev cX0_thingsIn : ByteArray := prog_2_method_14_code
def yX0_thingsIn : MethodName := ⟨RX0, "thingsIn", "(II)I"⟩
abbrev cX0_rowsOf : ByteArray := prog_2_method_15_code
def yX0_rowsOf : MethodName := ⟨RX0, "rowsOf", "(II)I"⟩
abbrev cX0_choose : ByteArray := prog_2_method_16_code
def yX0_choose : MethodName := ⟨RX0, "choose", "(II)I"⟩
abbrev cX0_factsOf : ByteArray := prog_2_method_17_code
def yX0_factsOf : MethodName := ⟨RX0, "factsOf", "(I)J"⟩
def RX1 : String := "KindSayings$Proof"
def TX1 : u_T := fun k => match k with
  | 0 => ("KindSayings$Proof", "roundOf", "[I", true)
  | 1 => ("KindSayings$Proof", "told", "J", false)
  | 2 => ("KindSayings$Proof", "ahead", "J", false)
  | 3 => ("KindSayings$Proof", "moods", "I", false)
  | 4 => ("KindSayings$Proof", "kinds", "I", false)
  | 5 => ("KindSayings$Proof", "firstFact", "I", false)
  | 6 => ("KindSayings$Proof", "secondFact", "I", false)
  | _ => ("KindSayings$Proof", "lastRound", "I", false)
def tyX1 : Nat → FieldType := fun k => match k with
  | 0 => .array .int
  | 1 => .long
  | 2 => .long
  | 3 => .int
  | 4 => .int
  | 5 => .int
  | 6 => .int
  | _ => .int
abbrev wsX10 : List Cond := u_ws RX1 TX1 8
theorem nmX1 : ∀ a, a < 8 → ∀ b, b < 8 → a ≠ b → (TX1 a).2.1 ≠ (TX1 b).2.1 := by decide +kernel
theorem tyX1_ok : ∀ k, k < 8 → parseFieldDescriptor (TX1 k).2.2.1 = some (tyX1 k) := by decide +kernel
abbrev cX1_init : ByteArray := prog_3_method_1_code
def yX1_init : MethodName := ⟨RX1, "<init>", "()V"⟩
abbrev cX1_work : ByteArray := prog_3_method_2_code
def yX1_work : MethodName := ⟨RX1, "work", "(JII)V"⟩
abbrev cX1_isAnyComing : ByteArray := prog_3_method_3_code
def yX1_isAnyComing : MethodName := ⟨RX1, "isAnyComing", "(I)Z"⟩
abbrev cX1_isTold : ByteArray := prog_3_method_4_code
def yX1_isTold : MethodName := ⟨RX1, "isTold", "(I)Z"⟩
abbrev cX1_isOfKinds : ByteArray := prog_3_method_5_code
def yX1_isOfKinds : MethodName := ⟨RX1, "isOfKinds", "(I)Z"⟩
abbrev cX1_isSame : ByteArray := prog_3_method_6_code
def yX1_isSame : MethodName := ⟨RX1, "isSame", "(I)Z"⟩
abbrev cX1_roundAt : ByteArray := prog_3_method_7_code
def yX1_roundAt : MethodName := ⟨RX1, "roundAt", "(I)I"⟩
abbrev cX1_facts : ByteArray := prog_3_method_8_code
def yX1_facts : MethodName := ⟨RX1, "facts", "()J"⟩
abbrev cX1_factsAhead : ByteArray := prog_3_method_9_code
def yX1_factsAhead : MethodName := ⟨RX1, "factsAhead", "(I)J"⟩
abbrev cX1_step : ByteArray := prog_3_method_10_code
def yX1_step : MethodName := ⟨RX1, "step", "(II)I"⟩
abbrev cX1_leastMood : ByteArray := prog_3_method_11_code
def yX1_leastMood : MethodName := ⟨RX1, "leastMood", "(I)I"⟩
abbrev cX1_isShowing : ByteArray := prog_3_method_12_code
def yX1_isShowing : MethodName := ⟨RX1, "isShowing", "(III)Z"⟩
abbrev cX1_isShownOf : ByteArray := prog_3_method_13_code
def yX1_isShownOf : MethodName := ⟨RX1, "isShownOf", "(II)Z"⟩
def RX2 : String := "KindSayings$Reader"
def TX2 : u_T := fun k => match k with
  | 0 => ("KindSayings$Reader", "tokens", "LKindSayings$Tokens;", true)
  | 1 => ("KindSayings$Reader", "draft", "LKindSayings$Saying;", true)
  | 2 => ("KindSayings$Reader", "kinds", "I", false)
  | 3 => ("KindSayings$Reader", "parts", "I", false)
  | 4 => ("KindSayings$Reader", "fault", "I", false)
  | _ => ("KindSayings$Reader", "loneKind", "I", false)
def tyX2 : Nat → FieldType := fun k => match k with
  | 0 => .object "KindSayings$Tokens"
  | 1 => .object "KindSayings$Saying"
  | 2 => .int
  | 3 => .int
  | 4 => .int
  | _ => .int
abbrev wsX20 : List Cond := u_ws RX2 TX2 6
theorem nmX2 : ∀ a, a < 6 → ∀ b, b < 6 → a ≠ b → (TX2 a).2.1 ≠ (TX2 b).2.1 := by decide +kernel
theorem tyX2_ok : ∀ k, k < 6 → parseFieldDescriptor (TX2 k).2.2.1 = some (tyX2 k) := by decide +kernel
abbrev cX2_init : ByteArray := prog_4_method_1_code
def yX2_init : MethodName := ⟨RX2, "<init>", "()V"⟩
abbrev cX2_readDraft : ByteArray := prog_4_method_2_code
def yX2_readDraft : MethodName := ⟨RX2, "readDraft", "(I)I"⟩
abbrev cX2_readHead : ByteArray := prog_4_method_3_code
def yX2_readHead : MethodName := ⟨RX2, "readHead", "()V"⟩
abbrev cX2_readNumber : ByteArray := prog_4_method_4_code
def yX2_readNumber : MethodName := ⟨RX2, "readNumber", "()V"⟩
abbrev cX2_readSide : ByteArray := prog_4_method_5_code
def yX2_readSide : MethodName := ⟨RX2, "readSide", "()I"⟩
abbrev cX2_readUnion : ByteArray := prog_4_method_6_code
def yX2_readUnion : MethodName := ⟨RX2, "readUnion", "(I)I"⟩
abbrev cX2_readMeet : ByteArray := prog_4_method_7_code
def yX2_readMeet : MethodName := ⟨RX2, "readMeet", "(I)I"⟩
abbrev cX2_readPart : ByteArray := prog_4_method_8_code
def yX2_readPart : MethodName := ⟨RX2, "readPart", "(I)I"⟩
abbrev cX2_isPart : ByteArray := prog_4_method_9_code
def yX2_isPart : MethodName := ⟨RX2, "isPart", "(III)Z"⟩
abbrev cX2_pass : ByteArray := prog_4_method_10_code
def yX2_pass : MethodName := ⟨RX2, "pass", "(I)V"⟩
abbrev cX2_fail : ByteArray := prog_4_method_11_code
def yX2_fail : MethodName := ⟨RX2, "fail", "()V"⟩
abbrev cX2_factTold : ByteArray := prog_4_method_12_code
def yX2_factTold : MethodName := ⟨RX2, "factTold", "(II)I"⟩
def RX3 : String := "KindSayings$Saying"
def TX3 : u_T := fun k => match k with
  | 0 => ("KindSayings$Saying", "word", "I", false)
  | 1 => ("KindSayings$Saying", "number", "I", false)
  | 2 => ("KindSayings$Saying", "first", "I", false)
  | 3 => ("KindSayings$Saying", "second", "I", false)
  | 4 => ("KindSayings$Saying", "fact", "I", false)
  | _ => ("KindSayings$Saying", "turned", "Z", false)
def tyX3 : Nat → FieldType := fun k => match k with
  | 0 => .int
  | 1 => .int
  | 2 => .int
  | 3 => .int
  | 4 => .int
  | _ => .boolean
abbrev wsX30 : List Cond := u_ws RX3 TX3 6
theorem nmX3 : ∀ a, a < 6 → ∀ b, b < 6 → a ≠ b → (TX3 a).2.1 ≠ (TX3 b).2.1 := by decide +kernel
theorem tyX3_ok : ∀ k, k < 6 → parseFieldDescriptor (TX3 k).2.2.1 = some (tyX3 k) := by decide +kernel
abbrev cX3_init : ByteArray := prog_5_method_1_code
def yX3_init : MethodName := ⟨RX3, "<init>", "()V"⟩
abbrev cX3_becomeFirst : ByteArray := prog_5_method_2_code
def yX3_becomeFirst : MethodName := ⟨RX3, "becomeFirst", "(I)V"⟩
abbrev cX3_become : ByteArray := prog_5_method_3_code
def yX3_become : MethodName := ⟨RX3, "become", "(LKindSayings$Saying;)V"⟩
abbrev cX3_isLike : ByteArray := prog_5_method_4_code
def yX3_isLike : MethodName := ⟨RX3, "isLike", "(LKindSayings$Saying;)Z"⟩
abbrev cX3_weight : ByteArray := prog_5_method_5_code
def yX3_weight : MethodName := ⟨RX3, "weight", "(I)I"⟩
abbrev cX3_isTrue : ByteArray := prog_5_method_6_code
def yX3_isTrue : MethodName := ⟨RX3, "isTrue", "(I)Z"⟩
abbrev cX3_isTrueUnturned : ByteArray := prog_5_method_7_code
def yX3_isTrueUnturned : MethodName := ⟨RX3, "isTrueUnturned", "(III)Z"⟩
def RX4 : String := "KindSayings$Tokens"
def TX4 : u_T := fun k => match k with
  | 0 => ("KindSayings$Tokens", "text", "[C", true)
  | 1 => ("KindSayings$Tokens", "length", "I", false)
  | 2 => ("KindSayings$Tokens", "token", "I", false)
  | 3 => ("KindSayings$Tokens", "value", "I", false)
  | 4 => ("KindSayings$Tokens", "start", "I", false)
  | 5 => ("KindSayings$Tokens", "passed", "I", false)
  | _ => ("KindSayings$Tokens", "end", "I", false)
def tyX4 : Nat → FieldType := fun k => match k with
  | 0 => .array .char
  | 1 => .int
  | 2 => .int
  | 3 => .int
  | 4 => .int
  | 5 => .int
  | _ => .int
abbrev wsX40 : List Cond := u_ws RX4 TX4 7
theorem nmX4 : ∀ a, a < 7 → ∀ b, b < 7 → a ≠ b → (TX4 a).2.1 ≠ (TX4 b).2.1 := by decide +kernel
theorem tyX4_ok : ∀ k, k < 7 → parseFieldDescriptor (TX4 k).2.2.1 = some (tyX4 k) := by decide +kernel
abbrev cX4_init : ByteArray := prog_6_method_1_code
def yX4_init : MethodName := ⟨RX4, "<init>", "()V"⟩
abbrev cX4_append : ByteArray := prog_6_method_2_code
def yX4_append : MethodName := ⟨RX4, "append", "(JI)V"⟩
abbrev cX4_begin : ByteArray := prog_6_method_3_code
def yX4_begin : MethodName := ⟨RX4, "begin", "()V"⟩
abbrev cX4_advance : ByteArray := prog_6_method_4_code
def yX4_advance : MethodName := ⟨RX4, "advance", "()V"⟩
abbrev cX4_takeWord : ByteArray := prog_6_method_5_code
def yX4_takeWord : MethodName := ⟨RX4, "takeWord", "()V"⟩
abbrev cX4_takeNumber : ByteArray := prog_6_method_6_code
def yX4_takeNumber : MethodName := ⟨RX4, "takeNumber", "()V"⟩
abbrev cX4_takeSign : ByteArray := prog_6_method_7_code
def yX4_takeSign : MethodName := ⟨RX4, "takeSign", "(I)V"⟩
abbrev cX4_byteAt : ByteArray := prog_6_method_8_code
def yX4_byteAt : MethodName := ⟨RX4, "byteAt", "(I)I"⟩
abbrev cX4_isLetter : ByteArray := prog_6_method_9_code
def yX4_isLetter : MethodName := ⟨RX4, "isLetter", "(I)Z"⟩
abbrev cX4_isFigure : ByteArray := prog_6_method_10_code
def yX4_isFigure : MethodName := ⟨RX4, "isFigure", "(I)Z"⟩
def RX5 : String := "KindSayings$Walk"
def TX5 : u_T := fun k => match k with
  | 0 => ("KindSayings$Walk", "sortOf", "[I", true)
  | 1 => ("KindSayings$Walk", "weights", "[I", true)
  | 2 => ("KindSayings$Walk", "sums", "[I", true)
  | 3 => ("KindSayings$Walk", "sorts", "I", false)
  | 4 => ("KindSayings$Walk", "most", "I", false)
  | _ => ("KindSayings$Walk", "things", "I", false)
def tyX5 : Nat → FieldType := fun k => match k with
  | 0 => .array .int
  | 1 => .array .int
  | 2 => .array .int
  | 3 => .int
  | 4 => .int
  | _ => .int
abbrev wsX50 : List Cond := u_ws RX5 TX5 6
theorem nmX5 : ∀ a, a < 6 → ∀ b, b < 6 → a ≠ b → (TX5 a).2.1 ≠ (TX5 b).2.1 := by decide +kernel
theorem tyX5_ok : ∀ k, k < 6 → parseFieldDescriptor (TX5 k).2.2.1 = some (tyX5 k) := by decide +kernel
abbrev cX5_init : ByteArray := prog_7_method_1_code
def yX5_init : MethodName := ⟨RX5, "<init>", "()V"⟩
abbrev cX5_begin : ByteArray := prog_7_method_2_code
def yX5_begin : MethodName := ⟨RX5, "begin", "(IILKindSayings$Saying;)V"⟩
abbrev cX5_advance : ByteArray := prog_7_method_3_code
def yX5_advance : MethodName := ⟨RX5, "advance", "()Z"⟩
abbrev cX5_fillFrom : ByteArray := prog_7_method_4_code
def yX5_fillFrom : MethodName := ⟨RX5, "fillFrom", "(II)V"⟩
abbrev cX5_sum : ByteArray := prog_7_method_5_code
def yX5_sum : MethodName := ⟨RX5, "sum", "()I"⟩
abbrev cX5_witnessed : ByteArray := prog_7_method_6_code
def yX5_witnessed : MethodName := ⟨RX5, "witnessed", "([J)J"⟩
def RX6 : String := "KindSayings"
def TX6 : u_T := fun k => match k with
  | 0 => ("KindSayings", "sayings", "[LKindSayings$Saying;", true)
  | 1 => ("KindSayings", "worldThings", "[I", true)
  | 2 => ("KindSayings", "reader", "LKindSayings$Reader;", true)
  | 3 => ("KindSayings", "heapTable", "LKindSayings$Heaps;", true)
  | 4 => ("KindSayings", "proof", "LKindSayings$Proof;", true)
  | 5 => ("KindSayings", "kindCount", "I", false)
  | 6 => ("KindSayings", "mostThings", "I", false)
  | _ => ("KindSayings", "moodBits", "I", false)
def tyX6 : Nat → FieldType := fun k => match k with
  | 0 => .array (.object "KindSayings$Saying")
  | 1 => .array .int
  | 2 => .object "KindSayings$Reader"
  | 3 => .object "KindSayings$Heaps"
  | 4 => .object "KindSayings$Proof"
  | 5 => .int
  | 6 => .int
  | _ => .int
abbrev wsX60 : List Cond := u_ws RX6 TX6 8
theorem nmX6 : ∀ a, a < 8 → ∀ b, b < 8 → a ≠ b → (TX6 a).2.1 ≠ (TX6 b).2.1 := by decide +kernel
theorem tyX6_ok : ∀ k, k < 8 → parseFieldDescriptor (TX6 k).2.2.1 = some (tyX6 k) := by decide +kernel
abbrev cX6_init : ByteArray := prog_1_method_1_code
def yX6_init : MethodName := ⟨RX6, "<init>", "()V"⟩
abbrev cX6_kinds : ByteArray := prog_1_method_2_code
def yX6_kinds : MethodName := ⟨RX6, "kinds", "(I)I"⟩
abbrev cX6_most : ByteArray := prog_1_method_3_code
def yX6_most : MethodName := ⟨RX6, "most", "(I)I"⟩
abbrev cX6_worlds : ByteArray := prog_1_method_4_code
def yX6_worlds : MethodName := ⟨RX6, "worlds", "()I"⟩
abbrev cX6_put : ByteArray := prog_1_method_5_code
def yX6_put : MethodName := ⟨RX6, "put", "(II)I"⟩
abbrev cX6_holds : ByteArray := prog_1_method_6_code
def yX6_holds : MethodName := ⟨RX6, "holds", "(I)I"⟩
abbrev cX6_size : ByteArray := prog_1_method_7_code
def yX6_size : MethodName := ⟨RX6, "size", "(II)I"⟩
abbrev cX6_type : ByteArray := prog_1_method_8_code
def yX6_type : MethodName := ⟨RX6, "type", "(JI)I"⟩
abbrev cX6_clear : ByteArray := prog_1_method_9_code
def yX6_clear : MethodName := ⟨RX6, "clear", "()I"⟩
abbrev cX6_read : ByteArray := prog_1_method_10_code
def yX6_read : MethodName := ⟨RX6, "read", "(I)I"⟩
abbrev cX6_about : ByteArray := prog_1_method_11_code
def yX6_about : MethodName := ⟨RX6, "about", "(II)I"⟩
abbrev cX6_can : ByteArray := prog_1_method_12_code
def yX6_can : MethodName := ⟨RX6, "can", "(I)I"⟩
abbrev cX6_least : ByteArray := prog_1_method_13_code
def yX6_least : MethodName := ⟨RX6, "least", "(II)I"⟩
abbrev cX6_follows : ByteArray := prog_1_method_14_code
def yX6_follows : MethodName := ⟨RX6, "follows", "(II)I"⟩
abbrev cX6_against : ByteArray := prog_1_method_15_code
def yX6_against : MethodName := ⟨RX6, "against", "(III)I"⟩
abbrev cX6_unsaid : ByteArray := prog_1_method_16_code
def yX6_unsaid : MethodName := ⟨RX6, "unsaid", "(I)I"⟩
abbrev cX6_clash : ByteArray := prog_1_method_17_code
def yX6_clash : MethodName := ⟨RX6, "clash", "(II)I"⟩
abbrev cX6_ask : ByteArray := prog_1_method_18_code
def yX6_ask : MethodName := ⟨RX6, "ask", "(I)I"⟩
abbrev cX6_heaps : ByteArray := prog_1_method_19_code
def yX6_heaps : MethodName := ⟨RX6, "heaps", "(I)I"⟩
abbrev cX6_twin : ByteArray := prog_1_method_20_code
def yX6_twin : MethodName := ⟨RX6, "twin", "(I)I"⟩
abbrev cX6_moods : ByteArray := prog_1_method_21_code
def yX6_moods : MethodName := ⟨RX6, "moods", "(I)I"⟩
abbrev cX6_round : ByteArray := prog_1_method_22_code
def yX6_round : MethodName := ⟨RX6, "round", "(IIII)I"⟩
abbrev cX6_by : ByteArray := prog_1_method_23_code
def yX6_by : MethodName := ⟨RX6, "by", "(IIIII)I"⟩
abbrev cX6_shown : ByteArray := prog_1_method_24_code
def yX6_shown : MethodName := ⟨RX6, "shown", "(II)I"⟩
abbrev cX6_count : ByteArray := prog_1_method_25_code
def yX6_count : MethodName := ⟨RX6, "count", "(I)I"⟩
abbrev cX6_startOver : ByteArray := prog_1_method_26_code
def yX6_startOver : MethodName := ⟨RX6, "startOver", "()V"⟩
abbrev cX6_sayingAt : ByteArray := prog_1_method_27_code
def yX6_sayingAt : MethodName := ⟨RX6, "sayingAt", "(I)LKindSayings$Saying;"⟩
abbrev cX6_sortCount : ByteArray := prog_1_method_28_code
def yX6_sortCount : MethodName := ⟨RX6, "sortCount", "()I"⟩
abbrev cX6_isSort : ByteArray := prog_1_method_29_code
def yX6_isSort : MethodName := ⟨RX6, "isSort", "(I)Z"⟩
abbrev cX6_isSortOrEvery : ByteArray := prog_1_method_30_code
def yX6_isSortOrEvery : MethodName := ⟨RX6, "isSortOrEvery", "(I)Z"⟩
abbrev cX6_isFact : ByteArray := prog_1_method_31_code
def yX6_isFact : MethodName := ⟨RX6, "isFact", "(III)Z"⟩
abbrev cX6_thingsAtHand : ByteArray := prog_1_method_32_code
def yX6_thingsAtHand : MethodName := ⟨RX6, "thingsAtHand", "()I"⟩
abbrev cX6_sumAtHand : ByteArray := prog_1_method_33_code
def yX6_sumAtHand : MethodName := ⟨RX6, "sumAtHand", "(LKindSayings$Saying;)I"⟩
abbrev cX6_freshHeaps : ByteArray := prog_1_method_34_code
def yX6_freshHeaps : MethodName := ⟨RX6, "freshHeaps", "()LKindSayings$Heaps;"⟩
abbrev cX6_work : ByteArray := prog_1_method_35_code
def yX6_work : MethodName := ⟨RX6, "work", "(I)V"⟩
abbrev cX6_plainSayings : ByteArray := prog_1_method_36_code
def yX6_plainSayings : MethodName := ⟨RX6, "plainSayings", "()I"⟩
abbrev cX6_everyFact : ByteArray := prog_1_method_37_code
def yX6_everyFact : MethodName := ⟨RX6, "everyFact", "()J"⟩
abbrev cX6_isSet : ByteArray := prog_1_method_38_code
def yX6_isSet : MethodName := ⟨RX6, "isSet", "(I)Z"⟩
abbrev cX6_has : ByteArray := prog_1_method_39_code
def yX6_has : MethodName := ⟨RX6, "has", "(II)Z"⟩
abbrev cX6_bit : ByteArray := prog_1_method_40_code
def yX6_bit : MethodName := ⟨RX6, "bit", "(Z)I"⟩
abbrev cX6_factNumber : ByteArray := prog_1_method_41_code
def yX6_factNumber : MethodName := ⟨RX6, "factNumber", "(III)I"⟩
abbrev cX6_isQuarrel : ByteArray := prog_1_method_42_code
def yX6_isQuarrel : MethodName := ⟨RX6, "isQuarrel", "(J)Z"⟩
abbrev cX6_sortsOfKind : ByteArray := prog_1_method_43_code
def yX6_sortsOfKind : MethodName := ⟨RX6, "sortsOfKind", "(II)I"⟩
abbrev cX6_everySort : ByteArray := prog_1_method_44_code
def yX6_everySort : MethodName := ⟨RX6, "everySort", "(I)I"⟩
def RX7 : String := "KindSayingsModel"
def TX7 : u_T := fun k => match k with
  | 0 => ("KindSayingsModel", "thrown", "I", false)
  | 1 => ("KindSayingsModel", "k", "I", false)
  | 2 => ("KindSayingsModel", "n", "I", false)
  | 3 => ("KindSayingsModel", "moods", "I", false)
  | 4 => ("KindSayingsModel", "world", "[I", true)
  | 5 => ("KindSayingsModel", "text", "[I", true)
  | 6 => ("KindSayingsModel", "typed", "I", false)
  | 7 => ("KindSayingsModel", "next", "I", false)
  | 8 => ("KindSayingsModel", "token", "I", false)
  | 9 => ("KindSayingsModel", "place", "I", false)
  | 10 => ("KindSayingsModel", "value", "I", false)
  | 11 => ("KindSayingsModel", "fault", "I", false)
  | 12 => ("KindSayingsModel", "counted", "I", false)
  | 13 => ("KindSayingsModel", "saying", "[I", true)
  | 14 => ("KindSayingsModel", "values", "[I", true)
  | 15 => ("KindSayingsModel", "signs", "[I", true)
  | 16 => ("KindSayingsModel", "alone", "I", false)
  | 17 => ("KindSayingsModel", "isLoaded", "Z", false)
  | 18 => ("KindSayingsModel", "worlds", "I", false)
  | 19 => ("KindSayingsModel", "things", "[I", true)
  | 20 => ("KindSayingsModel", "many", "[I", true)
  | 21 => ("KindSayingsModel", "order", "[I", true)
  | 22 => ("KindSayingsModel", "firsts", "[I", true)
  | 23 => ("KindSayingsModel", "facts", "[J", true)
  | 24 => ("KindSayingsModel", "round", "[I", true)
  | 25 => ("KindSayingsModel", "rounds", "I", false)
  | 26 => ("KindSayingsModel", "byMood", "I", false)
  | 27 => ("KindSayingsModel", "byFirst", "I", false)
  | _ => ("KindSayingsModel", "bySecond", "I", false)
def tyX7 : Nat → FieldType := fun k => match k with
  | 0 => .int
  | 1 => .int
  | 2 => .int
  | 3 => .int
  | 4 => .array .int
  | 5 => .array .int
  | 6 => .int
  | 7 => .int
  | 8 => .int
  | 9 => .int
  | 10 => .int
  | 11 => .int
  | 12 => .int
  | 13 => .array .int
  | 14 => .array .int
  | 15 => .array .int
  | 16 => .int
  | 17 => .boolean
  | 18 => .int
  | 19 => .array .int
  | 20 => .array .int
  | 21 => .array .int
  | 22 => .array .int
  | 23 => .array .long
  | 24 => .array .int
  | 25 => .int
  | 26 => .int
  | 27 => .int
  | _ => .int
abbrev wsX70 : List Cond := u_ws RX7 TX7 29
theorem nmX7 : ∀ a, a < 29 → ∀ b, b < 29 → a ≠ b → (TX7 a).2.1 ≠ (TX7 b).2.1 := by decide +kernel
theorem tyX7_ok : ∀ k, k < 29 → parseFieldDescriptor (TX7 k).2.2.1 = some (tyX7 k) := by decide +kernel
abbrev cX7_init : ByteArray := prog_9_method_1_code
def yX7_init : MethodName := ⟨RX7, "<init>", "()V"⟩
abbrev cX7_in : ByteArray := prog_9_method_3_code
def yX7_in : MethodName := ⟨RX7, "in", "(III)Z"⟩
abbrev cX7_sorts : ByteArray := prog_9_method_4_code
def yX7_sorts : MethodName := ⟨RX7, "sorts", "()I"⟩
abbrev cX7_of : ByteArray := prog_9_method_5_code
def yX7_of : MethodName := ⟨RX7, "of", "(I)I"⟩
abbrev cX7_begins : ByteArray := prog_9_method_6_code
def yX7_begins : MethodName := ⟨RX7, "begins", "()V"⟩
abbrev cX7_isSaying : ByteArray := prog_9_method_7_code
def yX7_isSaying : MethodName := ⟨RX7, "isSaying", "(I)Z"⟩
abbrev cX7_isSet : ByteArray := prog_9_method_8_code
def yX7_isSet : MethodName := ⟨RX7, "isSet", "(I)Z"⟩
abbrev cX7_kinds : ByteArray := prog_9_method_9_code
def yX7_kinds : MethodName := ⟨RX7, "kinds", "(I)I"⟩
abbrev cX7_most : ByteArray := prog_9_method_10_code
def yX7_most : MethodName := ⟨RX7, "most", "(I)I"⟩
abbrev cX7_worlds : ByteArray := prog_9_method_11_code
def yX7_worlds : MethodName := ⟨RX7, "worlds", "()I"⟩
abbrev cX7_all : ByteArray := prog_9_method_12_code
def yX7_all : MethodName := ⟨RX7, "all", "([I)I"⟩
abbrev cX7_put : ByteArray := prog_9_method_13_code
def yX7_put : MethodName := ⟨RX7, "put", "(II)I"⟩
abbrev cX7_sizeOf : ByteArray := prog_9_method_14_code
def yX7_sizeOf : MethodName := ⟨RX7, "sizeOf", "(I[I)I"⟩
abbrev cX7_isSo : ByteArray := prog_9_method_15_code
def yX7_isSo : MethodName := ⟨RX7, "isSo", "(I[I)Z"⟩
abbrev cX7_holds : ByteArray := prog_9_method_16_code
def yX7_holds : MethodName := ⟨RX7, "holds", "(I)I"⟩
abbrev cX7_size : ByteArray := prog_9_method_17_code
def yX7_size : MethodName := ⟨RX7, "size", "(II)I"⟩
abbrev cX7_type : ByteArray := prog_9_method_18_code
def yX7_type : MethodName := ⟨RX7, "type", "(JI)I"⟩
abbrev cX7_clear : ByteArray := prog_9_method_19_code
def yX7_clear : MethodName := ⟨RX7, "clear", "()I"⟩
abbrev cX7_byteAt : ByteArray := prog_9_method_20_code
def yX7_byteAt : MethodName := ⟨RX7, "byteAt", "(I)I"⟩
abbrev cX7_add : ByteArray := prog_9_method_21_code
def yX7_add : MethodName := ⟨RX7, "add", "(JI)J"⟩
abbrev cX7_word : ByteArray := prog_9_method_22_code
def yX7_word : MethodName := ⟨RX7, "word", "(IIIII)J"⟩
abbrev cX7_wordOf : ByteArray := prog_9_method_23_code
def yX7_wordOf : MethodName := ⟨RX7, "wordOf", "(J)I"⟩
abbrev cX7_advances : ByteArray := prog_9_method_24_code
def yX7_advances : MethodName := ⟨RX7, "advances", "()V"⟩
abbrev cX7_isWell : ByteArray := prog_9_method_25_code
def yX7_isWell : MethodName := ⟨RX7, "isWell", "()Z"⟩
abbrev cX7_fails : ByteArray := prog_9_method_26_code
def yX7_fails : MethodName := ⟨RX7, "fails", "()V"⟩
abbrev cX7_isSign : ByteArray := prog_9_method_27_code
def yX7_isSign : MethodName := ⟨RX7, "isSign", "(I)Z"⟩
abbrev cX7_isKindSign : ByteArray := prog_9_method_28_code
def yX7_isKindSign : MethodName := ⟨RX7, "isKindSign", "()Z"⟩
abbrev cX7_every : ByteArray := prog_9_method_29_code
def yX7_every : MethodName := ⟨RX7, "every", "()I"⟩
abbrev cX7_side : ByteArray := prog_9_method_30_code
def yX7_side : MethodName := ⟨RX7, "side", "()I"⟩
abbrev cX7_hasOpen : ByteArray := prog_9_method_31_code
def yX7_hasOpen : MethodName := ⟨RX7, "hasOpen", "(I)Z"⟩
abbrev cX7_joins : ByteArray := prog_9_method_32_code
def yX7_joins : MethodName := ⟨RX7, "joins", "(III)I"⟩
abbrev cX7_read : ByteArray := prog_9_method_33_code
def yX7_read : MethodName := ⟨RX7, "read", "(I)I"⟩
abbrev cX7_about : ByteArray := prog_9_method_34_code
def yX7_about : MethodName := ⟨RX7, "about", "(II)I"⟩
abbrev cX7_isFact : ByteArray := prog_9_method_35_code
def yX7_isFact : MethodName := ⟨RX7, "isFact", "(III)Z"⟩
abbrev cX7_takes : ByteArray := prog_9_method_36_code
def yX7_takes : MethodName := ⟨RX7, "takes", "()V"⟩
abbrev cX7_loads : ByteArray := prog_9_method_37_code
def yX7_loads : MethodName := ⟨RX7, "loads", "()V"⟩
abbrev cX7_isIn : ByteArray := prog_9_method_38_code
def yX7_isIn : MethodName := ⟨RX7, "isIn", "(II)Z"⟩
abbrev cX7_canBe : ByteArray := prog_9_method_39_code
def yX7_canBe : MethodName := ⟨RX7, "canBe", "(I)I"⟩
abbrev cX7_can : ByteArray := prog_9_method_40_code
def yX7_can : MethodName := ⟨RX7, "can", "(I)I"⟩
abbrev cX7_firstOf : ByteArray := prog_9_method_41_code
def yX7_firstOf : MethodName := ⟨RX7, "firstOf", "(II)I"⟩
abbrev cX7_told : ByteArray := prog_9_method_42_code
def yX7_told : MethodName := ⟨RX7, "told", "(II)I"⟩
abbrev cX7_least : ByteArray := prog_9_method_43_code
def yX7_least : MethodName := ⟨RX7, "least", "(II)I"⟩
abbrev cX7_follows : ByteArray := prog_9_method_44_code
def yX7_follows : MethodName := ⟨RX7, "follows", "(II)I"⟩
abbrev cX7_against : ByteArray := prog_9_method_45_code
def yX7_against : MethodName := ⟨RX7, "against", "(III)I"⟩
abbrev cX7_unsaid : ByteArray := prog_9_method_46_code
def yX7_unsaid : MethodName := ⟨RX7, "unsaid", "(I)I"⟩
abbrev cX7_ones : ByteArray := prog_9_method_47_code
def yX7_ones : MethodName := ⟨RX7, "ones", "(I)I"⟩
abbrev cX7_clash : ByteArray := prog_9_method_48_code
def yX7_clash : MethodName := ⟨RX7, "clash", "(II)I"⟩
abbrev cX7_ask : ByteArray := prog_9_method_49_code
def yX7_ask : MethodName := ⟨RX7, "ask", "(I)I"⟩
abbrev cX7_heaps : ByteArray := prog_9_method_50_code
def yX7_heaps : MethodName := ⟨RX7, "heaps", "(I)I"⟩
abbrev cX7_twin : ByteArray := prog_9_method_51_code
def yX7_twin : MethodName := ⟨RX7, "twin", "(I)I"⟩
abbrev cX7_moods : ByteArray := prog_9_method_52_code
def yX7_moods : MethodName := ⟨RX7, "moods", "(I)I"⟩
abbrev cX7_isBy : ByteArray := prog_9_method_53_code
def yX7_isBy : MethodName := ⟨RX7, "isBy", "(II)Z"⟩
abbrev cX7_isShown : ByteArray := prog_9_method_54_code
def yX7_isShown : MethodName := ⟨RX7, "isShown", "(IIIII)Z"⟩
abbrev cX7_isTold : ByteArray := prog_9_method_55_code
def yX7_isTold : MethodName := ⟨RX7, "isTold", "(II)Z"⟩
abbrev cX7_shows : ByteArray := prog_9_method_56_code
def yX7_shows : MethodName := ⟨RX7, "shows", "(I)V"⟩
abbrev cX7_isAsked : ByteArray := prog_9_method_57_code
def yX7_isAsked : MethodName := ⟨RX7, "isAsked", "(IIII)Z"⟩
abbrev cX7_round : ByteArray := prog_9_method_58_code
def yX7_round : MethodName := ⟨RX7, "round", "(IIII)I"⟩
abbrev cX7_by : ByteArray := prog_9_method_59_code
def yX7_by : MethodName := ⟨RX7, "by", "(IIIII)I"⟩
abbrev cX7_shown : ByteArray := prog_9_method_60_code
def yX7_shown : MethodName := ⟨RX7, "shown", "(II)I"⟩
abbrev cX7_count : ByteArray := prog_9_method_61_code
def yX7_count : MethodName := ⟨RX7, "count", "(I)I"⟩
def RJ6 : String := "java/lang/Integer"
def TJ6 : u_T := fun k => match k with
  | _ => ("", "", "", false)
def tyJ6 : Nat → FieldType := fun k => match k with
  | _ => .int
abbrev wsJ60 : List Cond := u_ws RJ6 TJ6 0
abbrev cJ6_bitCount_0f7a4 : ByteArray := prog_10_method_49_code
def yJ6_bitCount_0f7a4 : MethodName := ⟨RJ6, "bitCount", "(I)I"⟩
def RJ13 : String := "java/lang/Long"
def TJ13 : u_T := fun k => match k with
  | _ => ("", "", "", false)
def tyJ13 : Nat → FieldType := fun k => match k with
  | _ => .int
abbrev wsJ130 : List Cond := u_ws RJ13 TJ13 0
abbrev cJ13_bitCount_95d88 : ByteArray := prog_11_method_50_code
def yJ13_bitCount_95d88 : MethodName := ⟨RJ13, "bitCount", "(J)I"⟩
def RJ9 : String := "java/lang/Math"
def TJ9 : u_T := fun k => match k with
  | _ => ("", "", "", false)
def tyJ9 : Nat → FieldType := fun k => match k with
  | _ => .int
abbrev wsJ90 : List Cond := u_ws RJ9 TJ9 0
abbrev cJ9_max_7cf53 : ByteArray := prog_12_method_65_code
def yJ9_max_7cf53 : MethodName := ⟨RJ9, "max", "(II)I"⟩
abbrev cJ9_min_7cf53 : ByteArray := prog_12_method_69_code
def yJ9_min_7cf53 : MethodName := ⟨RJ9, "min", "(II)I"⟩
def RL : String := "KindSayingsLaw"
abbrev cL_law : ByteArray := code
def yL_law : MethodName := ⟨RL, "law", "([I)Z"⟩
theorem inX0 : ∀ w ∈ wsX00, w ∈ lw_tbl := by decide +kernel
theorem inX1 : ∀ w ∈ wsX10, w ∈ lw_tbl := by decide +kernel
theorem inX2 : ∀ w ∈ wsX20, w ∈ lw_tbl := by decide +kernel
theorem inX3 : ∀ w ∈ wsX30, w ∈ lw_tbl := by decide +kernel
theorem inX4 : ∀ w ∈ wsX40, w ∈ lw_tbl := by decide +kernel
theorem inX5 : ∀ w ∈ wsX50, w ∈ lw_tbl := by decide +kernel
theorem inX6 : ∀ w ∈ wsX60, w ∈ lw_tbl := by decide +kernel
theorem inX7 : ∀ w ∈ wsX70, w ∈ lw_tbl := by decide +kernel
/-- the words that may be carried to a callee -/
def Gd : List Cond := lw_tbl.filter goodWord
theorem Gd_good : ∀ w ∈ Gd, goodWord w = true := fun w h => (List.mem_filter.mp h).2
theorem Gd_tbl : ∀ w ∈ Gd, w ∈ lw_tbl := fun w h => (List.mem_filter.mp h).1
theorem Gd_m {w : Cond} (h : w ∈ tables_1) (g : goodWord w = true) : w ∈ Gd := List.mem_filter.mpr ⟨List.mem_append_right _ h, g⟩
theorem Gd_0 (i : Nat) {w : Cond} (h : (k2_sels lw_privs)[i]? = some w) (g : goodWord w = true) : w ∈ Gd := List.mem_filter.mpr ⟨List.mem_append_left _ (List.mem_of_getElem? h), g⟩
theorem Gd_1 (i : Nat) {w : Cond} (h : tables_1_1[i]? = some w) (g : goodWord w = true) : w ∈ Gd := Gd_m (List.mem_append_left _ (List.mem_of_getElem? h)) g
theorem Gd_2 (i : Nat) {w : Cond} (h : tables_1_2[i]? = some w) (g : goodWord w = true) : w ∈ Gd := Gd_m (List.mem_append_right _ (List.mem_append_left _ (List.mem_of_getElem? h))) g
theorem Gd_3 (i : Nat) {w : Cond} (h : tables_1_3[i]? = some w) (g : goodWord w = true) : w ∈ Gd := Gd_m (List.mem_append_right _ (List.mem_append_right _ (List.mem_append_left _ (List.mem_of_getElem? h)))) g
theorem Gd_4 (i : Nat) {w : Cond} (h : tables_1_4[i]? = some w) (g : goodWord w = true) : w ∈ Gd := Gd_m (List.mem_append_right _ (List.mem_append_right _ (List.mem_append_right _ (List.mem_append_left _ (List.mem_of_getElem? h))))) g
theorem Gd_5 (i : Nat) {w : Cond} (h : tables_1_5[i]? = some w) (g : goodWord w = true) : w ∈ Gd := Gd_m (List.mem_append_right _ (List.mem_append_right _ (List.mem_append_right _ (List.mem_append_right _ (List.mem_of_getElem? h))))) g
theorem inG0 : ∀ w ∈ wsX00, w ∈ Gd := fun w h => List.mem_filter.mpr ⟨inX0 w h, (show ∀ w ∈ wsX00, goodWord w = true by decide +kernel) w h⟩
theorem inG1 : ∀ w ∈ wsX10, w ∈ Gd := fun w h => List.mem_filter.mpr ⟨inX1 w h, (show ∀ w ∈ wsX10, goodWord w = true by decide +kernel) w h⟩
theorem inG2 : ∀ w ∈ wsX20, w ∈ Gd := fun w h => List.mem_filter.mpr ⟨inX2 w h, (show ∀ w ∈ wsX20, goodWord w = true by decide +kernel) w h⟩
theorem inG3 : ∀ w ∈ wsX30, w ∈ Gd := fun w h => List.mem_filter.mpr ⟨inX3 w h, (show ∀ w ∈ wsX30, goodWord w = true by decide +kernel) w h⟩
theorem inG4 : ∀ w ∈ wsX40, w ∈ Gd := fun w h => List.mem_filter.mpr ⟨inX4 w h, (show ∀ w ∈ wsX40, goodWord w = true by decide +kernel) w h⟩
theorem inG5 : ∀ w ∈ wsX50, w ∈ Gd := fun w h => List.mem_filter.mpr ⟨inX5 w h, (show ∀ w ∈ wsX50, goodWord w = true by decide +kernel) w h⟩
theorem inG6 : ∀ w ∈ wsX60, w ∈ Gd := fun w h => List.mem_filter.mpr ⟨inX6 w h, (show ∀ w ∈ wsX60, goodWord w = true by decide +kernel) w h⟩
theorem inG7 : ∀ w ∈ wsX70, w ∈ Gd := fun w h => List.mem_filter.mpr ⟨inX7 w h, (show ∀ w ∈ wsX70, goodWord w = true by decide +kernel) w h⟩
