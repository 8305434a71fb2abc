section
-- ===== PART A: goes FIRST, ahead of the names: the tables' words, and 'selects' of the private methods out of them =====
/-- a private method of a class that the tables say can be made, by its rows of tables_1 -/
def lw_okq (q : MethodName × Nat) : Prop := (q.1.cls ≠ "java/lang/invoke/MethodHandle" ∧ q.1.cls ≠ "java/lang/invoke/VarHandle") ∧ Cond.instantiable q.1.cls q.2 ∈ tables_1 ∧ Cond.privateMethod q.1 ∈ tables_1 ∧ Cond.instanceMethod q.1 ∈ tables_1
theorem lw_p0 : lw_okq (⟨"KindSayings", "startOver", "()V"⟩, 8) := ⟨⟨by decide +kernel, by decide +kernel⟩, List.mem_of_getElem? (i := 13) (by decide +kernel), List.mem_of_getElem? (i := 229) (by decide +kernel), List.mem_of_getElem? (i := 230) (by decide +kernel)⟩
theorem lw_p1 : lw_okq (⟨"KindSayings", "sortCount", "()I"⟩, 8) := ⟨⟨by decide +kernel, by decide +kernel⟩, List.mem_of_getElem? (i := 13) (by decide +kernel), List.mem_of_getElem? (i := 245) (by decide +kernel), List.mem_of_getElem? (i := 246) (by decide +kernel)⟩
theorem lw_p2 : lw_okq (⟨"KindSayings", "isSort", "(I)Z"⟩, 8) := ⟨⟨by decide +kernel, by decide +kernel⟩, List.mem_of_getElem? (i := 13) (by decide +kernel), List.mem_of_getElem? (i := 297) (by decide +kernel), List.mem_of_getElem? (i := 298) (by decide +kernel)⟩
theorem lw_p3 : lw_okq (⟨"KindSayings", "thingsAtHand", "()I"⟩, 8) := ⟨⟨by decide +kernel, by decide +kernel⟩, List.mem_of_getElem? (i := 13) (by decide +kernel), List.mem_of_getElem? (i := 301) (by decide +kernel), List.mem_of_getElem? (i := 302) (by decide +kernel)⟩
theorem lw_p4 : lw_okq (⟨"KindSayings", "sayingAt", "(I)LKindSayings$Saying;"⟩, 8) := ⟨⟨by decide +kernel, by decide +kernel⟩, List.mem_of_getElem? (i := 13) (by decide +kernel), List.mem_of_getElem? (i := 309) (by decide +kernel), List.mem_of_getElem? (i := 310) (by decide +kernel)⟩
theorem lw_p5 : lw_okq (⟨"KindSayings", "sumAtHand", "(LKindSayings$Saying;)I"⟩, 8) := ⟨⟨by decide +kernel, by decide +kernel⟩, List.mem_of_getElem? (i := 13) (by decide +kernel), List.mem_of_getElem? (i := 313) (by decide +kernel), List.mem_of_getElem? (i := 314) (by decide +kernel)⟩
theorem lw_p6 : lw_okq (⟨"KindSayings$Saying", "isTrueUnturned", "(III)Z"⟩, 6) := ⟨⟨by decide +kernel, by decide +kernel⟩, List.mem_of_getElem? (i := 64) (by decide +kernel), List.mem_of_getElem? (i := 325) (by decide +kernel), List.mem_of_getElem? (i := 326) (by decide +kernel)⟩
theorem lw_p7 : lw_okq (⟨"KindSayings$Tokens", "byteAt", "(I)I"⟩, 7) := ⟨⟨by decide +kernel, by decide +kernel⟩, List.mem_of_getElem? (i := 29) (by decide +kernel), List.mem_of_getElem? (i := 365) (by decide +kernel), List.mem_of_getElem? (i := 366) (by decide +kernel)⟩
theorem lw_p8 : lw_okq (⟨"KindSayings$Tokens", "takeWord", "()V"⟩, 7) := ⟨⟨by decide +kernel, by decide +kernel⟩, List.mem_of_getElem? (i := 29) (by decide +kernel), List.mem_of_getElem? (i := 372) (by decide +kernel), List.mem_of_getElem? (i := 373) (by decide +kernel)⟩
theorem lw_p9 : lw_okq (⟨"KindSayings$Tokens", "takeNumber", "()V"⟩, 7) := ⟨⟨by decide +kernel, by decide +kernel⟩, List.mem_of_getElem? (i := 29) (by decide +kernel), List.mem_of_getElem? (i := 381) (by decide +kernel), List.mem_of_getElem? (i := 382) (by decide +kernel)⟩
theorem lw_p10 : lw_okq (⟨"KindSayings$Tokens", "takeSign", "(I)V"⟩, 7) := ⟨⟨by decide +kernel, by decide +kernel⟩, List.mem_of_getElem? (i := 29) (by decide +kernel), List.mem_of_getElem? (i := 388) (by decide +kernel), List.mem_of_getElem? (i := 389) (by decide +kernel)⟩
theorem lw_p11 : lw_okq (⟨"KindSayings$Reader", "readHead", "()V"⟩, 6) := ⟨⟨by decide +kernel, by decide +kernel⟩, List.mem_of_getElem? (i := 23) (by decide +kernel), List.mem_of_getElem? (i := 392) (by decide +kernel), List.mem_of_getElem? (i := 393) (by decide +kernel)⟩
theorem lw_p12 : lw_okq (⟨"KindSayings$Reader", "fail", "()V"⟩, 6) := ⟨⟨by decide +kernel, by decide +kernel⟩, List.mem_of_getElem? (i := 23) (by decide +kernel), List.mem_of_getElem? (i := 397) (by decide +kernel), List.mem_of_getElem? (i := 398) (by decide +kernel)⟩
theorem lw_p13 : lw_okq (⟨"KindSayings$Reader", "pass", "(I)V"⟩, 6) := ⟨⟨by decide +kernel, by decide +kernel⟩, List.mem_of_getElem? (i := 23) (by decide +kernel), List.mem_of_getElem? (i := 401) (by decide +kernel), List.mem_of_getElem? (i := 402) (by decide +kernel)⟩
theorem lw_p14 : lw_okq (⟨"KindSayings$Reader", "readNumber", "()V"⟩, 6) := ⟨⟨by decide +kernel, by decide +kernel⟩, List.mem_of_getElem? (i := 23) (by decide +kernel), List.mem_of_getElem? (i := 405) (by decide +kernel), List.mem_of_getElem? (i := 406) (by decide +kernel)⟩
theorem lw_p15 : lw_okq (⟨"KindSayings$Reader", "readSide", "()I"⟩, 6) := ⟨⟨by decide +kernel, by decide +kernel⟩, List.mem_of_getElem? (i := 23) (by decide +kernel), List.mem_of_getElem? (i := 409) (by decide +kernel), List.mem_of_getElem? (i := 410) (by decide +kernel)⟩
def lw_privs_1 : List (MethodName × Nat) := [(⟨"KindSayings", "startOver", "()V"⟩, 8), (⟨"KindSayings", "sortCount", "()I"⟩, 8), (⟨"KindSayings", "isSort", "(I)Z"⟩, 8), (⟨"KindSayings", "thingsAtHand", "()I"⟩, 8), (⟨"KindSayings", "sayingAt", "(I)LKindSayings$Saying;"⟩, 8), (⟨"KindSayings", "sumAtHand", "(LKindSayings$Saying;)I"⟩, 8), (⟨"KindSayings$Saying", "isTrueUnturned", "(III)Z"⟩, 6), (⟨"KindSayings$Tokens", "byteAt", "(I)I"⟩, 7), (⟨"KindSayings$Tokens", "takeWord", "()V"⟩, 7), (⟨"KindSayings$Tokens", "takeNumber", "()V"⟩, 7), (⟨"KindSayings$Tokens", "takeSign", "(I)V"⟩, 7), (⟨"KindSayings$Reader", "readHead", "()V"⟩, 6), (⟨"KindSayings$Reader", "fail", "()V"⟩, 6), (⟨"KindSayings$Reader", "pass", "(I)V"⟩, 6), (⟨"KindSayings$Reader", "readNumber", "()V"⟩, 6), (⟨"KindSayings$Reader", "readSide", "()I"⟩, 6)]
theorem lw_r1 : ∀ q ∈ lw_privs_1, lw_okq q := List.forall_mem_cons.mpr ⟨lw_p0, List.forall_mem_cons.mpr ⟨lw_p1, List.forall_mem_cons.mpr ⟨lw_p2, List.forall_mem_cons.mpr ⟨lw_p3, List.forall_mem_cons.mpr ⟨lw_p4, List.forall_mem_cons.mpr ⟨lw_p5, List.forall_mem_cons.mpr ⟨lw_p6, List.forall_mem_cons.mpr ⟨lw_p7, List.forall_mem_cons.mpr ⟨lw_p8, List.forall_mem_cons.mpr ⟨lw_p9, List.forall_mem_cons.mpr ⟨lw_p10, List.forall_mem_cons.mpr ⟨lw_p11, List.forall_mem_cons.mpr ⟨lw_p12, List.forall_mem_cons.mpr ⟨lw_p13, List.forall_mem_cons.mpr ⟨lw_p14, List.forall_mem_cons.mpr ⟨lw_p15, fun _ h => absurd h List.not_mem_nil⟩⟩⟩⟩⟩⟩⟩⟩⟩⟩⟩⟩⟩⟩⟩⟩
theorem lw_p16 : lw_okq (⟨"KindSayings$Reader", "readUnion", "(I)I"⟩, 6) := ⟨⟨by decide +kernel, by decide +kernel⟩, List.mem_of_getElem? (i := 23) (by decide +kernel), List.mem_of_getElem? (i := 413) (by decide +kernel), List.mem_of_getElem? (i := 414) (by decide +kernel)⟩
theorem lw_p17 : lw_okq (⟨"KindSayings$Reader", "readMeet", "(I)I"⟩, 6) := ⟨⟨by decide +kernel, by decide +kernel⟩, List.mem_of_getElem? (i := 23) (by decide +kernel), List.mem_of_getElem? (i := 417) (by decide +kernel), List.mem_of_getElem? (i := 418) (by decide +kernel)⟩
theorem lw_p18 : lw_okq (⟨"KindSayings$Reader", "readPart", "(I)I"⟩, 6) := ⟨⟨by decide +kernel, by decide +kernel⟩, List.mem_of_getElem? (i := 23) (by decide +kernel), List.mem_of_getElem? (i := 421) (by decide +kernel), List.mem_of_getElem? (i := 422) (by decide +kernel)⟩
theorem lw_p19 : lw_okq (⟨"KindSayings$Reader", "isPart", "(III)Z"⟩, 6) := ⟨⟨by decide +kernel, by decide +kernel⟩, List.mem_of_getElem? (i := 23) (by decide +kernel), List.mem_of_getElem? (i := 425) (by decide +kernel), List.mem_of_getElem? (i := 426) (by decide +kernel)⟩
theorem lw_p20 : lw_okq (⟨"KindSayings$Reader", "factTold", "(II)I"⟩, 6) := ⟨⟨by decide +kernel, by decide +kernel⟩, List.mem_of_getElem? (i := 23) (by decide +kernel), List.mem_of_getElem? (i := 431) (by decide +kernel), List.mem_of_getElem? (i := 432) (by decide +kernel)⟩
theorem lw_p21 : lw_okq (⟨"KindSayings", "freshHeaps", "()LKindSayings$Heaps;"⟩, 8) := ⟨⟨by decide +kernel, by decide +kernel⟩, List.mem_of_getElem? (i := 13) (by decide +kernel), List.mem_of_getElem? (i := 451) (by decide +kernel), List.mem_of_getElem? (i := 452) (by decide +kernel)⟩
theorem lw_p22 : lw_okq (⟨"KindSayings$Heaps", "mark", "(LKindSayings$Saying;I)V"⟩, 10) := ⟨⟨by decide +kernel, by decide +kernel⟩, List.mem_of_getElem? (i := 122) (by decide +kernel), List.mem_of_getElem? (i := 466) (by decide +kernel), List.mem_of_getElem? (i := 467) (by decide +kernel)⟩
theorem lw_p23 : lw_okq (⟨"KindSayings$Walk", "fillFrom", "(II)V"⟩, 6) := ⟨⟨by decide +kernel, by decide +kernel⟩, List.mem_of_getElem? (i := 128) (by decide +kernel), List.mem_of_getElem? (i := 485) (by decide +kernel), List.mem_of_getElem? (i := 486) (by decide +kernel)⟩
theorem lw_p24 : lw_okq (⟨"KindSayings$Heaps", "fillHeaps", "()V"⟩, 10) := ⟨⟨by decide +kernel, by decide +kernel⟩, List.mem_of_getElem? (i := 122) (by decide +kernel), List.mem_of_getElem? (i := 489) (by decide +kernel), List.mem_of_getElem? (i := 490) (by decide +kernel)⟩
theorem lw_p25 : lw_okq (⟨"KindSayings$Heaps", "addTogether", "()V"⟩, 10) := ⟨⟨by decide +kernel, by decide +kernel⟩, List.mem_of_getElem? (i := 122) (by decide +kernel), List.mem_of_getElem? (i := 493) (by decide +kernel), List.mem_of_getElem? (i := 494) (by decide +kernel)⟩
theorem lw_p26 : lw_okq (⟨"KindSayings", "isSortOrEvery", "(I)Z"⟩, 8) := ⟨⟨by decide +kernel, by decide +kernel⟩, List.mem_of_getElem? (i := 13) (by decide +kernel), List.mem_of_getElem? (i := 505) (by decide +kernel), List.mem_of_getElem? (i := 506) (by decide +kernel)⟩
theorem lw_p27 : lw_okq (⟨"KindSayings", "isFact", "(III)Z"⟩, 8) := ⟨⟨by decide +kernel, by decide +kernel⟩, List.mem_of_getElem? (i := 13) (by decide +kernel), List.mem_of_getElem? (i := 579) (by decide +kernel), List.mem_of_getElem? (i := 580) (by decide +kernel)⟩
theorem lw_p28 : lw_okq (⟨"KindSayings", "work", "(I)V"⟩, 8) := ⟨⟨by decide +kernel, by decide +kernel⟩, List.mem_of_getElem? (i := 13) (by decide +kernel), List.mem_of_getElem? (i := 583) (by decide +kernel), List.mem_of_getElem? (i := 584) (by decide +kernel)⟩
theorem lw_p29 : lw_okq (⟨"KindSayings$Proof", "isSame", "(I)Z"⟩, 8) := ⟨⟨by decide +kernel, by decide +kernel⟩, List.mem_of_getElem? (i := 196) (by decide +kernel), List.mem_of_getElem? (i := 592) (by decide +kernel), List.mem_of_getElem? (i := 593) (by decide +kernel)⟩
theorem lw_p30 : lw_okq (⟨"KindSayings$Proof", "isOfKinds", "(I)Z"⟩, 8) := ⟨⟨by decide +kernel, by decide +kernel⟩, List.mem_of_getElem? (i := 196) (by decide +kernel), List.mem_of_getElem? (i := 596) (by decide +kernel), List.mem_of_getElem? (i := 597) (by decide +kernel)⟩
theorem lw_p31 : lw_okq (⟨"KindSayings$Proof", "isTold", "(I)Z"⟩, 8) := ⟨⟨by decide +kernel, by decide +kernel⟩, List.mem_of_getElem? (i := 196) (by decide +kernel), List.mem_of_getElem? (i := 600) (by decide +kernel), List.mem_of_getElem? (i := 601) (by decide +kernel)⟩
def lw_privs_2 : List (MethodName × Nat) := [(⟨"KindSayings$Reader", "readUnion", "(I)I"⟩, 6), (⟨"KindSayings$Reader", "readMeet", "(I)I"⟩, 6), (⟨"KindSayings$Reader", "readPart", "(I)I"⟩, 6), (⟨"KindSayings$Reader", "isPart", "(III)Z"⟩, 6), (⟨"KindSayings$Reader", "factTold", "(II)I"⟩, 6), (⟨"KindSayings", "freshHeaps", "()LKindSayings$Heaps;"⟩, 8), (⟨"KindSayings$Heaps", "mark", "(LKindSayings$Saying;I)V"⟩, 10), (⟨"KindSayings$Walk", "fillFrom", "(II)V"⟩, 6), (⟨"KindSayings$Heaps", "fillHeaps", "()V"⟩, 10), (⟨"KindSayings$Heaps", "addTogether", "()V"⟩, 10), (⟨"KindSayings", "isSortOrEvery", "(I)Z"⟩, 8), (⟨"KindSayings", "isFact", "(III)Z"⟩, 8), (⟨"KindSayings", "work", "(I)V"⟩, 8), (⟨"KindSayings$Proof", "isSame", "(I)Z"⟩, 8), (⟨"KindSayings$Proof", "isOfKinds", "(I)Z"⟩, 8), (⟨"KindSayings$Proof", "isTold", "(I)Z"⟩, 8)]
theorem lw_r2 : ∀ q ∈ lw_privs_2, lw_okq q := List.forall_mem_cons.mpr ⟨lw_p16, List.forall_mem_cons.mpr ⟨lw_p17, List.forall_mem_cons.mpr ⟨lw_p18, List.forall_mem_cons.mpr ⟨lw_p19, List.forall_mem_cons.mpr ⟨lw_p20, List.forall_mem_cons.mpr ⟨lw_p21, List.forall_mem_cons.mpr ⟨lw_p22, List.forall_mem_cons.mpr ⟨lw_p23, List.forall_mem_cons.mpr ⟨lw_p24, List.forall_mem_cons.mpr ⟨lw_p25, List.forall_mem_cons.mpr ⟨lw_p26, List.forall_mem_cons.mpr ⟨lw_p27, List.forall_mem_cons.mpr ⟨lw_p28, List.forall_mem_cons.mpr ⟨lw_p29, List.forall_mem_cons.mpr ⟨lw_p30, List.forall_mem_cons.mpr ⟨lw_p31, fun _ h => absurd h List.not_mem_nil⟩⟩⟩⟩⟩⟩⟩⟩⟩⟩⟩⟩⟩⟩⟩⟩
theorem lw_p32 : lw_okq (⟨"KindSayings$Proof", "factsAhead", "(I)J"⟩, 8) := ⟨⟨by decide +kernel, by decide +kernel⟩, List.mem_of_getElem? (i := 196) (by decide +kernel), List.mem_of_getElem? (i := 604) (by decide +kernel), List.mem_of_getElem? (i := 605) (by decide +kernel)⟩
theorem lw_p33 : lw_okq (⟨"KindSayings$Proof", "isAnyComing", "(I)Z"⟩, 8) := ⟨⟨by decide +kernel, by decide +kernel⟩, List.mem_of_getElem? (i := 196) (by decide +kernel), List.mem_of_getElem? (i := 608) (by decide +kernel), List.mem_of_getElem? (i := 609) (by decide +kernel)⟩
theorem lw_p34 : lw_okq (⟨"KindSayings$Proof", "leastMood", "(I)I"⟩, 8) := ⟨⟨by decide +kernel, by decide +kernel⟩, List.mem_of_getElem? (i := 196) (by decide +kernel), List.mem_of_getElem? (i := 612) (by decide +kernel), List.mem_of_getElem? (i := 613) (by decide +kernel)⟩
theorem lw_p35 : lw_okq (⟨"KindSayings$Proof", "isShowing", "(III)Z"⟩, 8) := ⟨⟨by decide +kernel, by decide +kernel⟩, List.mem_of_getElem? (i := 196) (by decide +kernel), List.mem_of_getElem? (i := 618) (by decide +kernel), List.mem_of_getElem? (i := 619) (by decide +kernel)⟩
theorem lw_p36 : lw_okq (⟨"KindSayings$Proof", "isShownOf", "(II)Z"⟩, 8) := ⟨⟨by decide +kernel, by decide +kernel⟩, List.mem_of_getElem? (i := 196) (by decide +kernel), List.mem_of_getElem? (i := 627) (by decide +kernel), List.mem_of_getElem? (i := 628) (by decide +kernel)⟩
theorem lw_p37 : lw_okq (⟨"KindSayings", "everyFact", "()J"⟩, 8) := ⟨⟨by decide +kernel, by decide +kernel⟩, List.mem_of_getElem? (i := 13) (by decide +kernel), List.mem_of_getElem? (i := 675) (by decide +kernel), List.mem_of_getElem? (i := 676) (by decide +kernel)⟩
theorem lw_p38 : lw_okq (⟨"KindSayings", "plainSayings", "()I"⟩, 8) := ⟨⟨by decide +kernel, by decide +kernel⟩, List.mem_of_getElem? (i := 13) (by decide +kernel), List.mem_of_getElem? (i := 684) (by decide +kernel), List.mem_of_getElem? (i := 685) (by decide +kernel)⟩
theorem lw_p39 : lw_okq (⟨"KindSayingsModel", "begins", "()V"⟩, 29) := ⟨⟨by decide +kernel, by decide +kernel⟩, List.mem_of_getElem? (i := 688) (by decide +kernel), List.mem_of_getElem? (i := 694) (by decide +kernel), List.mem_of_getElem? (i := 695) (by decide +kernel)⟩
theorem lw_p40 : lw_okq (⟨"KindSayingsModel", "of", "(I)I"⟩, 29) := ⟨⟨by decide +kernel, by decide +kernel⟩, List.mem_of_getElem? (i := 688) (by decide +kernel), List.mem_of_getElem? (i := 698) (by decide +kernel), List.mem_of_getElem? (i := 699) (by decide +kernel)⟩
theorem lw_p41 : lw_okq (⟨"KindSayingsModel", "sorts", "()I"⟩, 29) := ⟨⟨by decide +kernel, by decide +kernel⟩, List.mem_of_getElem? (i := 688) (by decide +kernel), List.mem_of_getElem? (i := 702) (by decide +kernel), List.mem_of_getElem? (i := 703) (by decide +kernel)⟩
theorem lw_p42 : lw_okq (⟨"KindSayingsModel", "loads", "()V"⟩, 29) := ⟨⟨by decide +kernel, by decide +kernel⟩, List.mem_of_getElem? (i := 688) (by decide +kernel), List.mem_of_getElem? (i := 809) (by decide +kernel), List.mem_of_getElem? (i := 810) (by decide +kernel)⟩
theorem lw_p43 : lw_okq (⟨"KindSayingsModel", "takes", "()V"⟩, 29) := ⟨⟨by decide +kernel, by decide +kernel⟩, List.mem_of_getElem? (i := 688) (by decide +kernel), List.mem_of_getElem? (i := 813) (by decide +kernel), List.mem_of_getElem? (i := 814) (by decide +kernel)⟩
theorem lw_p44 : lw_okq (⟨"KindSayingsModel", "isSo", "(I[I)Z"⟩, 29) := ⟨⟨by decide +kernel, by decide +kernel⟩, List.mem_of_getElem? (i := 688) (by decide +kernel), List.mem_of_getElem? (i := 817) (by decide +kernel), List.mem_of_getElem? (i := 818) (by decide +kernel)⟩
theorem lw_p45 : lw_okq (⟨"KindSayingsModel", "sizeOf", "(I[I)I"⟩, 29) := ⟨⟨by decide +kernel, by decide +kernel⟩, List.mem_of_getElem? (i := 688) (by decide +kernel), List.mem_of_getElem? (i := 821) (by decide +kernel), List.mem_of_getElem? (i := 822) (by decide +kernel)⟩
theorem lw_p46 : lw_okq (⟨"KindSayingsModel", "isFact", "(III)Z"⟩, 29) := ⟨⟨by decide +kernel, by decide +kernel⟩, List.mem_of_getElem? (i := 688) (by decide +kernel), List.mem_of_getElem? (i := 826) (by decide +kernel), List.mem_of_getElem? (i := 827) (by decide +kernel)⟩
theorem lw_p47 : lw_okq (⟨"KindSayingsModel", "all", "([I)I"⟩, 29) := ⟨⟨by decide +kernel, by decide +kernel⟩, List.mem_of_getElem? (i := 688) (by decide +kernel), List.mem_of_getElem? (i := 834) (by decide +kernel), List.mem_of_getElem? (i := 835) (by decide +kernel)⟩
def lw_privs_3 : List (MethodName × Nat) := [(⟨"KindSayings$Proof", "factsAhead", "(I)J"⟩, 8), (⟨"KindSayings$Proof", "isAnyComing", "(I)Z"⟩, 8), (⟨"KindSayings$Proof", "leastMood", "(I)I"⟩, 8), (⟨"KindSayings$Proof", "isShowing", "(III)Z"⟩, 8), (⟨"KindSayings$Proof", "isShownOf", "(II)Z"⟩, 8), (⟨"KindSayings", "everyFact", "()J"⟩, 8), (⟨"KindSayings", "plainSayings", "()I"⟩, 8), (⟨"KindSayingsModel", "begins", "()V"⟩, 29), (⟨"KindSayingsModel", "of", "(I)I"⟩, 29), (⟨"KindSayingsModel", "sorts", "()I"⟩, 29), (⟨"KindSayingsModel", "loads", "()V"⟩, 29), (⟨"KindSayingsModel", "takes", "()V"⟩, 29), (⟨"KindSayingsModel", "isSo", "(I[I)Z"⟩, 29), (⟨"KindSayingsModel", "sizeOf", "(I[I)I"⟩, 29), (⟨"KindSayingsModel", "isFact", "(III)Z"⟩, 29), (⟨"KindSayingsModel", "all", "([I)I"⟩, 29)]
theorem lw_r3 : ∀ q ∈ lw_privs_3, lw_okq q := List.forall_mem_cons.mpr ⟨lw_p32, List.forall_mem_cons.mpr ⟨lw_p33, List.forall_mem_cons.mpr ⟨lw_p34, List.forall_mem_cons.mpr ⟨lw_p35, List.forall_mem_cons.mpr ⟨lw_p36, List.forall_mem_cons.mpr ⟨lw_p37, List.forall_mem_cons.mpr ⟨lw_p38, List.forall_mem_cons.mpr ⟨lw_p39, List.forall_mem_cons.mpr ⟨lw_p40, List.forall_mem_cons.mpr ⟨lw_p41, List.forall_mem_cons.mpr ⟨lw_p42, List.forall_mem_cons.mpr ⟨lw_p43, List.forall_mem_cons.mpr ⟨lw_p44, List.forall_mem_cons.mpr ⟨lw_p45, List.forall_mem_cons.mpr ⟨lw_p46, List.forall_mem_cons.mpr ⟨lw_p47, fun _ h => absurd h List.not_mem_nil⟩⟩⟩⟩⟩⟩⟩⟩⟩⟩⟩⟩⟩⟩⟩⟩
theorem lw_p48 : lw_okq (⟨"KindSayingsModel", "advances", "()V"⟩, 29) := ⟨⟨by decide +kernel, by decide +kernel⟩, List.mem_of_getElem? (i := 688) (by decide +kernel), List.mem_of_getElem? (i := 862) (by decide +kernel), List.mem_of_getElem? (i := 863) (by decide +kernel)⟩
theorem lw_p49 : lw_okq (⟨"KindSayingsModel", "byteAt", "(I)I"⟩, 29) := ⟨⟨by decide +kernel, by decide +kernel⟩, List.mem_of_getElem? (i := 688) (by decide +kernel), List.mem_of_getElem? (i := 866) (by decide +kernel), List.mem_of_getElem? (i := 867) (by decide +kernel)⟩
theorem lw_p50 : lw_okq (⟨"KindSayingsModel", "fails", "()V"⟩, 29) := ⟨⟨by decide +kernel, by decide +kernel⟩, List.mem_of_getElem? (i := 688) (by decide +kernel), List.mem_of_getElem? (i := 880) (by decide +kernel), List.mem_of_getElem? (i := 881) (by decide +kernel)⟩
theorem lw_p51 : lw_okq (⟨"KindSayingsModel", "isWell", "()Z"⟩, 29) := ⟨⟨by decide +kernel, by decide +kernel⟩, List.mem_of_getElem? (i := 688) (by decide +kernel), List.mem_of_getElem? (i := 884) (by decide +kernel), List.mem_of_getElem? (i := 885) (by decide +kernel)⟩
theorem lw_p52 : lw_okq (⟨"KindSayingsModel", "side", "()I"⟩, 29) := ⟨⟨by decide +kernel, by decide +kernel⟩, List.mem_of_getElem? (i := 688) (by decide +kernel), List.mem_of_getElem? (i := 888) (by decide +kernel), List.mem_of_getElem? (i := 889) (by decide +kernel)⟩
theorem lw_p53 : lw_okq (⟨"KindSayingsModel", "isSign", "(I)Z"⟩, 29) := ⟨⟨by decide +kernel, by decide +kernel⟩, List.mem_of_getElem? (i := 688) (by decide +kernel), List.mem_of_getElem? (i := 892) (by decide +kernel), List.mem_of_getElem? (i := 893) (by decide +kernel)⟩
theorem lw_p54 : lw_okq (⟨"KindSayingsModel", "isKindSign", "()Z"⟩, 29) := ⟨⟨by decide +kernel, by decide +kernel⟩, List.mem_of_getElem? (i := 688) (by decide +kernel), List.mem_of_getElem? (i := 896) (by decide +kernel), List.mem_of_getElem? (i := 897) (by decide +kernel)⟩
theorem lw_p55 : lw_okq (⟨"KindSayingsModel", "hasOpen", "(I)Z"⟩, 29) := ⟨⟨by decide +kernel, by decide +kernel⟩, List.mem_of_getElem? (i := 688) (by decide +kernel), List.mem_of_getElem? (i := 903) (by decide +kernel), List.mem_of_getElem? (i := 904) (by decide +kernel)⟩
theorem lw_p56 : lw_okq (⟨"KindSayingsModel", "every", "()I"⟩, 29) := ⟨⟨by decide +kernel, by decide +kernel⟩, List.mem_of_getElem? (i := 688) (by decide +kernel), List.mem_of_getElem? (i := 907) (by decide +kernel), List.mem_of_getElem? (i := 908) (by decide +kernel)⟩
theorem lw_p57 : lw_okq (⟨"KindSayingsModel", "canBe", "(I)I"⟩, 29) := ⟨⟨by decide +kernel, by decide +kernel⟩, List.mem_of_getElem? (i := 688) (by decide +kernel), List.mem_of_getElem? (i := 922) (by decide +kernel), List.mem_of_getElem? (i := 923) (by decide +kernel)⟩
theorem lw_p58 : lw_okq (⟨"KindSayingsModel", "firstOf", "(II)I"⟩, 29) := ⟨⟨by decide +kernel, by decide +kernel⟩, List.mem_of_getElem? (i := 688) (by decide +kernel), List.mem_of_getElem? (i := 933) (by decide +kernel), List.mem_of_getElem? (i := 934) (by decide +kernel)⟩
theorem lw_p59 : lw_okq (⟨"KindSayingsModel", "told", "(II)I"⟩, 29) := ⟨⟨by decide +kernel, by decide +kernel⟩, List.mem_of_getElem? (i := 688) (by decide +kernel), List.mem_of_getElem? (i := 937) (by decide +kernel), List.mem_of_getElem? (i := 938) (by decide +kernel)⟩
theorem lw_p60 : lw_okq (⟨"KindSayingsModel", "isAsked", "(IIII)Z"⟩, 29) := ⟨⟨by decide +kernel, by decide +kernel⟩, List.mem_of_getElem? (i := 688) (by decide +kernel), List.mem_of_getElem? (i := 980) (by decide +kernel), List.mem_of_getElem? (i := 981) (by decide +kernel)⟩
theorem lw_p61 : lw_okq (⟨"KindSayingsModel", "shows", "(I)V"⟩, 29) := ⟨⟨by decide +kernel, by decide +kernel⟩, List.mem_of_getElem? (i := 688) (by decide +kernel), List.mem_of_getElem? (i := 984) (by decide +kernel), List.mem_of_getElem? (i := 985) (by decide +kernel)⟩
theorem lw_p62 : lw_okq (⟨"KindSayingsModel", "isTold", "(II)Z"⟩, 29) := ⟨⟨by decide +kernel, by decide +kernel⟩, List.mem_of_getElem? (i := 688) (by decide +kernel), List.mem_of_getElem? (i := 988) (by decide +kernel), List.mem_of_getElem? (i := 989) (by decide +kernel)⟩
theorem lw_p63 : lw_okq (⟨"KindSayingsModel", "isShown", "(IIIII)Z"⟩, 29) := ⟨⟨by decide +kernel, by decide +kernel⟩, List.mem_of_getElem? (i := 688) (by decide +kernel), List.mem_of_getElem? (i := 992) (by decide +kernel), List.mem_of_getElem? (i := 993) (by decide +kernel)⟩
def lw_privs_4 : List (MethodName × Nat) := [(⟨"KindSayingsModel", "advances", "()V"⟩, 29), (⟨"KindSayingsModel", "byteAt", "(I)I"⟩, 29), (⟨"KindSayingsModel", "fails", "()V"⟩, 29), (⟨"KindSayingsModel", "isWell", "()Z"⟩, 29), (⟨"KindSayingsModel", "side", "()I"⟩, 29), (⟨"KindSayingsModel", "isSign", "(I)Z"⟩, 29), (⟨"KindSayingsModel", "isKindSign", "()Z"⟩, 29), (⟨"KindSayingsModel", "hasOpen", "(I)Z"⟩, 29), (⟨"KindSayingsModel", "every", "()I"⟩, 29), (⟨"KindSayingsModel", "canBe", "(I)I"⟩, 29), (⟨"KindSayingsModel", "firstOf", "(II)I"⟩, 29), (⟨"KindSayingsModel", "told", "(II)I"⟩, 29), (⟨"KindSayingsModel", "isAsked", "(IIII)Z"⟩, 29), (⟨"KindSayingsModel", "shows", "(I)V"⟩, 29), (⟨"KindSayingsModel", "isTold", "(II)Z"⟩, 29), (⟨"KindSayingsModel", "isShown", "(IIIII)Z"⟩, 29)]
theorem lw_r4 : ∀ q ∈ lw_privs_4, lw_okq q := List.forall_mem_cons.mpr ⟨lw_p48, List.forall_mem_cons.mpr ⟨lw_p49, List.forall_mem_cons.mpr ⟨lw_p50, List.forall_mem_cons.mpr ⟨lw_p51, List.forall_mem_cons.mpr ⟨lw_p52, List.forall_mem_cons.mpr ⟨lw_p53, List.forall_mem_cons.mpr ⟨lw_p54, List.forall_mem_cons.mpr ⟨lw_p55, List.forall_mem_cons.mpr ⟨lw_p56, List.forall_mem_cons.mpr ⟨lw_p57, List.forall_mem_cons.mpr ⟨lw_p58, List.forall_mem_cons.mpr ⟨lw_p59, List.forall_mem_cons.mpr ⟨lw_p60, List.forall_mem_cons.mpr ⟨lw_p61, List.forall_mem_cons.mpr ⟨lw_p62, List.forall_mem_cons.mpr ⟨lw_p63, fun _ h => absurd h List.not_mem_nil⟩⟩⟩⟩⟩⟩⟩⟩⟩⟩⟩⟩⟩⟩⟩⟩
theorem lw_p64 : lw_okq (⟨"KindSayingsModel", "isBy", "(II)Z"⟩, 29) := ⟨⟨by decide +kernel, by decide +kernel⟩, List.mem_of_getElem? (i := 688) (by decide +kernel), List.mem_of_getElem? (i := 996) (by decide +kernel), List.mem_of_getElem? (i := 997) (by decide +kernel)⟩
def lw_privs_5 : List (MethodName × Nat) := [(⟨"KindSayingsModel", "isBy", "(II)Z"⟩, 29)]
theorem lw_r5 : ∀ q ∈ lw_privs_5, lw_okq q := List.forall_mem_cons.mpr ⟨lw_p64, fun _ h => absurd h List.not_mem_nil⟩
def lw_privs : List (MethodName × Nat) := lw_privs_1 ++ (lw_privs_2 ++ (lw_privs_3 ++ (lw_privs_4 ++ (lw_privs_5))))
def lw_tbl : List Cond := k2_sels lw_privs ++ tables_1
theorem lw_privs_ok : ∀ q ∈ lw_privs, lw_okq q := by
  show ∀ q ∈ lw_privs_1 ++ (lw_privs_2 ++ (lw_privs_3 ++ (lw_privs_4 ++ (lw_privs_5)))), lw_okq q
  exact List.forall_mem_append.mpr ⟨lw_r1, List.forall_mem_append.mpr ⟨lw_r2, List.forall_mem_append.mpr ⟨lw_r3, List.forall_mem_append.mpr ⟨lw_r4, lw_r5⟩⟩⟩⟩
def RX0 : String := "KindSayings$Heaps"
def TX0 : u_T := fun k => match k with
  | 0 => ("KindSayings$Heaps", "walk", "LKindSayings$Walk;", true)
  | 1 => ("KindSayings$Heaps", "many", "[I", true)
  | 2 => ("KindSayings$Heaps", "firsts", "[I", true)
  | 3 => ("KindSayings$Heaps", "together", "[I", true)
  | 4 => ("KindSayings$Heaps", "witness", "[J", true)
  | 5 => ("KindSayings$Heaps", "marks", "[C", false)
  | 6 => ("KindSayings$Heaps", "sorts", "I", false)
  | 7 => ("KindSayings$Heaps", "most", "I", false)
  | 8 => ("KindSayings$Heaps", "total", "I", false)
  | _ => ("KindSayings$Heaps", "stale", "I", false)
def tyX0 : Nat → FieldType := fun k => match k with
  | 0 => .object "KindSayings$Walk"
  | 1 => .array .int
  | 2 => .array .int
  | 3 => .array .int
  | 4 => .array .long
  | 5 => .array .char
  | 6 => .int
  | 7 => .int
  | 8 => .int
  | _ => .int
abbrev wsX00 : List Cond := u_ws RX0 TX0 10
theorem nmX0 : ∀ a, a < 10 → ∀ b, b < 10 → a ≠ b → (TX0 a).2.1 ≠ (TX0 b).2.1 := by decide +kernel
theorem tyX0_ok : ∀ k, k < 10 → parseFieldDescriptor (TX0 k).2.2.1 = some (tyX0 k) := by decide +kernel
abbrev cX0_init : ByteArray := prog_2_method_1_code
def yX0_init : MethodName := ⟨RX0, "<init>", "()V"⟩
abbrev cX0_witnessOf : ByteArray := prog_2_method_2_code
def yX0_witnessOf : MethodName := ⟨RX0, "witnessOf", "(I)J"⟩
abbrev cX0_shape : ByteArray := prog_2_method_3_code
def yX0_shape : MethodName := ⟨RX0, "shape", "(II)V"⟩
abbrev cX0_refresh : ByteArray := prog_2_method_4_code
def yX0_refresh : MethodName := ⟨RX0, "refresh", "([LKindSayings$Saying;)V"⟩
abbrev cX0_likes : ByteArray := prog_2_method_5_code
def yX0_likes : MethodName := ⟨RX0, "likes", "([LKindSayings$Saying;LKindSayings$Saying;)I"⟩
abbrev cX0_mark : ByteArray := prog_2_method_6_code
def yX0_mark : MethodName := ⟨RX0, "mark", "(LKindSayings$Saying;I)V"⟩
abbrev cX0_fillHeaps : ByteArray := prog_2_method_7_code
def yX0_fillHeaps : MethodName := ⟨RX0, "fillHeaps", "()V"⟩
abbrev cX0_addTogether : ByteArray := prog_2_method_8_code
def yX0_addTogether : MethodName := ⟨RX0, "addTogether", "()V"⟩
abbrev cX0_worldsOf : ByteArray := prog_2_method_9_code
def yX0_worldsOf : MethodName := ⟨RX0, "worldsOf", "(I)I"⟩
abbrev cX0_isFollowing : ByteArray := prog_2_method_10_code
def yX0_isFollowing : MethodName := ⟨RX0, "isFollowing", "(II)Z"⟩
abbrev cX0_firstWorld : ByteArray := prog_2_method_11_code
def yX0_firstWorld : MethodName := ⟨RX0, "firstWorld", "(II)I"⟩
abbrev cX0_heapsOf : ByteArray := prog_2_method_12_code
def yX0_heapsOf : MethodName := ⟨RX0, "heapsOf", "(I)I"⟩
abbrev cX0_fewestClashing : ByteArray := prog_2_method_13_code
def yX0_fewestClashing : MethodName := ⟨RX0, "fewestClashing", "(I)I"⟩
abbrev cX0_thingsIn : ByteArray := prog_2_method_14_code
def yX0_thingsIn : MethodName := ⟨RX0, "thingsIn", "(II)I"⟩
abbrev cX0_rowsOf : ByteArray := prog_2_method_15_code
def yX0_rowsOf : MethodName := ⟨RX0, "rowsOf", "(II)I"⟩
abbrev cX0_choose : ByteArray := prog_2_method_16_code
def yX0_choose : MethodName := ⟨RX0, "choose", "(II)I"⟩
abbrev cX0_factsOf : ByteArray := prog_2_method_17_code
def yX0_factsOf : MethodName := ⟨RX0, "factsOf", "(I)J"⟩
def RX1 : String := "KindSayings$Proof"
def TX1 : u_T := fun k => match k with
  | 0 => ("KindSayings$Proof", "roundOf", "[I", true)
  | 1 => ("KindSayings$Proof", "told", "J", false)
  | 2 => ("KindSayings$Proof", "ahead", "J", false)
  | 3 => ("KindSayings$Proof", "moods", "I", false)
  | 4 => ("KindSayings$Proof", "kinds", "I", false)
  | 5 => ("KindSayings$Proof", "firstFact", "I", false)
  | 6 => ("KindSayings$Proof", "secondFact", "I", false)
  | _ => ("KindSayings$Proof", "lastRound", "I", false)
def tyX1 : Nat → FieldType := fun k => match k with
  | 0 => .array .int
  | 1 => .long
  | 2 => .long
  | 3 => .int
  | 4 => .int
  | 5 => .int
  | 6 => .int
  | _ => .int
abbrev wsX10 : List Cond := u_ws RX1 TX1 8
theorem nmX1 : ∀ a, a < 8 → ∀ b, b < 8 → a ≠ b → (TX1 a).2.1 ≠ (TX1 b).2.1 := by decide +kernel
theorem tyX1_ok : ∀ k, k < 8 → parseFieldDescriptor (TX1 k).2.2.1 = some (tyX1 k) := by decide +kernel
abbrev cX1_init : ByteArray := prog_3_method_1_code
def yX1_init : MethodName := ⟨RX1, "<init>", "()V"⟩
abbrev cX1_work : ByteArray := prog_3_method_2_code
def yX1_work : MethodName := ⟨RX1, "work", "(JII)V"⟩
abbrev cX1_isAnyComing : ByteArray := prog_3_method_3_code
def yX1_isAnyComing : MethodName := ⟨RX1, "isAnyComing", "(I)Z"⟩
abbrev cX1_isTold : ByteArray := prog_3_method_4_code
def yX1_isTold : MethodName := ⟨RX1, "isTold", "(I)Z"⟩
abbrev cX1_isOfKinds : ByteArray := prog_3_method_5_code
def yX1_isOfKinds : MethodName := ⟨RX1, "isOfKinds", "(I)Z"⟩
abbrev cX1_isSame : ByteArray := prog_3_method_6_code
def yX1_isSame : MethodName := ⟨RX1, "isSame", "(I)Z"⟩
abbrev cX1_roundAt : ByteArray := prog_3_method_7_code
def yX1_roundAt : MethodName := ⟨RX1, "roundAt", "(I)I"⟩
abbrev cX1_facts : ByteArray := prog_3_method_8_code
def yX1_facts : MethodName := ⟨RX1, "facts", "()J"⟩
abbrev cX1_factsAhead : ByteArray := prog_3_method_9_code
def yX1_factsAhead : MethodName := ⟨RX1, "factsAhead", "(I)J"⟩
abbrev cX1_step : ByteArray := prog_3_method_10_code
def yX1_step : MethodName := ⟨RX1, "step", "(II)I"⟩
abbrev cX1_leastMood : ByteArray := prog_3_method_11_code
def yX1_leastMood : MethodName := ⟨RX1, "leastMood", "(I)I"⟩
abbrev cX1_isShowing : ByteArray := prog_3_method_12_code
def yX1_isShowing : MethodName := ⟨RX1, "isShowing", "(III)Z"⟩
abbrev cX1_isShownOf : ByteArray := prog_3_method_13_code
def yX1_isShownOf : MethodName := ⟨RX1, "isShownOf", "(II)Z"⟩
def RX2 : String := "KindSayings$Reader"
def TX2 : u_T := fun k => match k with
  | 0 => ("KindSayings$Reader", "tokens", "LKindSayings$Tokens;", true)
  | 1 => ("KindSayings$Reader", "draft", "LKindSayings$Saying;", true)
  | 2 => ("KindSayings$Reader", "kinds", "I", false)
  | 3 => ("KindSayings$Reader", "parts", "I", false)
  | 4 => ("KindSayings$Reader", "fault", "I", false)
  | _ => ("KindSayings$Reader", "loneKind", "I", false)
def tyX2 : Nat → FieldType := fun k => match k with
  | 0 => .object "KindSayings$Tokens"
  | 1 => .object "KindSayings$Saying"
  | 2 => .int
  | 3 => .int
  | 4 => .int
  | _ => .int
abbrev wsX20 : List Cond := u_ws RX2 TX2 6
theorem nmX2 : ∀ a, a < 6 → ∀ b, b < 6 → a ≠ b → (TX2 a).2.1 ≠ (TX2 b).2.1 := by decide +kernel
theorem tyX2_ok : ∀ k, k < 6 → parseFieldDescriptor (TX2 k).2.2.1 = some (tyX2 k) := by decide +kernel
abbrev cX2_init : ByteArray := prog_4_method_1_code
def yX2_init : MethodName := ⟨RX2, "<init>", "()V"⟩
abbrev cX2_readDraft : ByteArray := prog_4_method_2_code
def yX2_readDraft : MethodName := ⟨RX2, "readDraft", "(I)I"⟩
abbrev cX2_readHead : ByteArray := prog_4_method_3_code
def yX2_readHead : MethodName := ⟨RX2, "readHead", "()V"⟩
abbrev cX2_readNumber : ByteArray := prog_4_method_4_code
def yX2_readNumber : MethodName := ⟨RX2, "readNumber", "()V"⟩
abbrev cX2_readSide : ByteArray := prog_4_method_5_code
def yX2_readSide : MethodName := ⟨RX2, "readSide", "()I"⟩
abbrev cX2_readUnion : ByteArray := prog_4_method_6_code
def yX2_readUnion : MethodName := ⟨RX2, "readUnion", "(I)I"⟩
abbrev cX2_readMeet : ByteArray := prog_4_method_7_code
def yX2_readMeet : MethodName := ⟨RX2, "readMeet", "(I)I"⟩
abbrev cX2_readPart : ByteArray := prog_4_method_8_code
def yX2_readPart : MethodName := ⟨RX2, "readPart", "(I)I"⟩
abbrev cX2_isPart : ByteArray := prog_4_method_9_code
def yX2_isPart : MethodName := ⟨RX2, "isPart", "(III)Z"⟩
abbrev cX2_pass : ByteArray := prog_4_method_10_code
def yX2_pass : MethodName := ⟨RX2, "pass", "(I)V"⟩
abbrev cX2_fail : ByteArray := prog_4_method_11_code
def yX2_fail : MethodName := ⟨RX2, "fail", "()V"⟩
abbrev cX2_factTold : ByteArray := prog_4_method_12_code
def yX2_factTold : MethodName := ⟨RX2, "factTold", "(II)I"⟩
def RX3 : String := "KindSayings$Saying"
def TX3 : u_T := fun k => match k with
  | 0 => ("KindSayings$Saying", "word", "I", false)
  | 1 => ("KindSayings$Saying", "number", "I", false)
  | 2 => ("KindSayings$Saying", "first", "I", false)
  | 3 => ("KindSayings$Saying", "second", "I", false)
  | 4 => ("KindSayings$Saying", "fact", "I", false)
  | _ => ("KindSayings$Saying", "turned", "Z", false)
def tyX3 : Nat → FieldType := fun k => match k with
  | 0 => .int
  | 1 => .int
  | 2 => .int
  | 3 => .int
  | 4 => .int
  | _ => .boolean
abbrev wsX30 : List Cond := u_ws RX3 TX3 6
theorem nmX3 : ∀ a, a < 6 → ∀ b, b < 6 → a ≠ b → (TX3 a).2.1 ≠ (TX3 b).2.1 := by decide +kernel
theorem tyX3_ok : ∀ k, k < 6 → parseFieldDescriptor (TX3 k).2.2.1 = some (tyX3 k) := by decide +kernel
abbrev cX3_init : ByteArray := prog_5_method_1_code
def yX3_init : MethodName := ⟨RX3, "<init>", "()V"⟩
abbrev cX3_becomeFirst : ByteArray := prog_5_method_2_code
def yX3_becomeFirst : MethodName := ⟨RX3, "becomeFirst", "(I)V"⟩
abbrev cX3_become : ByteArray := prog_5_method_3_code
def yX3_become : MethodName := ⟨RX3, "become", "(LKindSayings$Saying;)V"⟩
abbrev cX3_isLike : ByteArray := prog_5_method_4_code
def yX3_isLike : MethodName := ⟨RX3, "isLike", "(LKindSayings$Saying;)Z"⟩
abbrev cX3_weight : ByteArray := prog_5_method_5_code
def yX3_weight : MethodName := ⟨RX3, "weight", "(I)I"⟩
abbrev cX3_isTrue : ByteArray := prog_5_method_6_code
def yX3_isTrue : MethodName := ⟨RX3, "isTrue", "(I)Z"⟩
abbrev cX3_isTrueUnturned : ByteArray := prog_5_method_7_code
def yX3_isTrueUnturned : MethodName := ⟨RX3, "isTrueUnturned", "(III)Z"⟩
def RX4 : String := "KindSayings$Tokens"
def TX4 : u_T := fun k => match k with
  | 0 => ("KindSayings$Tokens", "text", "[C", true)
  | 1 => ("KindSayings$Tokens", "length", "I", false)
  | 2 => ("KindSayings$Tokens", "token", "I", false)
  | 3 => ("KindSayings$Tokens", "value", "I", false)
  | 4 => ("KindSayings$Tokens", "start", "I", false)
  | 5 => ("KindSayings$Tokens", "passed", "I", false)
  | _ => ("KindSayings$Tokens", "end", "I", false)
def tyX4 : Nat → FieldType := fun k => match k with
  | 0 => .array .char
  | 1 => .int
  | 2 => .int
  | 3 => .int
  | 4 => .int
  | 5 => .int
  | _ => .int
abbrev wsX40 : List Cond := u_ws RX4 TX4 7
theorem nmX4 : ∀ a, a < 7 → ∀ b, b < 7 → a ≠ b → (TX4 a).2.1 ≠ (TX4 b).2.1 := by decide +kernel
theorem tyX4_ok : ∀ k, k < 7 → parseFieldDescriptor (TX4 k).2.2.1 = some (tyX4 k) := by decide +kernel
abbrev cX4_init : ByteArray := prog_6_method_1_code
def yX4_init : MethodName := ⟨RX4, "<init>", "()V"⟩
abbrev cX4_append : ByteArray := prog_6_method_2_code
def yX4_append : MethodName := ⟨RX4, "append", "(JI)V"⟩
abbrev cX4_begin : ByteArray := prog_6_method_3_code
def yX4_begin : MethodName := ⟨RX4, "begin", "()V"⟩
abbrev cX4_advance : ByteArray := prog_6_method_4_code
def yX4_advance : MethodName := ⟨RX4, "advance", "()V"⟩
abbrev cX4_takeWord : ByteArray := prog_6_method_5_code
def yX4_takeWord : MethodName := ⟨RX4, "takeWord", "()V"⟩
abbrev cX4_takeNumber : ByteArray := prog_6_method_6_code
def yX4_takeNumber : MethodName := ⟨RX4, "takeNumber", "()V"⟩
abbrev cX4_takeSign : ByteArray := prog_6_method_7_code
def yX4_takeSign : MethodName := ⟨RX4, "takeSign", "(I)V"⟩
abbrev cX4_byteAt : ByteArray := prog_6_method_8_code
def yX4_byteAt : MethodName := ⟨RX4, "byteAt", "(I)I"⟩
abbrev cX4_isLetter : ByteArray := prog_6_method_9_code
def yX4_isLetter : MethodName := ⟨RX4, "isLetter", "(I)Z"⟩
abbrev cX4_isFigure : ByteArray := prog_6_method_10_code
def yX4_isFigure : MethodName := ⟨RX4, "isFigure", "(I)Z"⟩
def RX5 : String := "KindSayings$Walk"
def TX5 : u_T := fun k => match k with
  | 0 => ("KindSayings$Walk", "sortOf", "[I", true)
  | 1 => ("KindSayings$Walk", "weights", "[I", true)
  | 2 => ("KindSayings$Walk", "sums", "[I", true)
  | 3 => ("KindSayings$Walk", "sorts", "I", false)
  | 4 => ("KindSayings$Walk", "most", "I", false)
  | _ => ("KindSayings$Walk", "things", "I", false)
def tyX5 : Nat → FieldType := fun k => match k with
  | 0 => .array .int
  | 1 => .array .int
  | 2 => .array .int
  | 3 => .int
  | 4 => .int
  | _ => .int
abbrev wsX50 : List Cond := u_ws RX5 TX5 6
theorem nmX5 : ∀ a, a < 6 → ∀ b, b < 6 → a ≠ b → (TX5 a).2.1 ≠ (TX5 b).2.1 := by decide +kernel
theorem tyX5_ok : ∀ k, k < 6 → parseFieldDescriptor (TX5 k).2.2.1 = some (tyX5 k) := by decide +kernel
abbrev cX5_init : ByteArray := prog_7_method_1_code
def yX5_init : MethodName := ⟨RX5, "<init>", "()V"⟩
abbrev cX5_begin : ByteArray := prog_7_method_2_code
def yX5_begin : MethodName := ⟨RX5, "begin", "(IILKindSayings$Saying;)V"⟩
abbrev cX5_advance : ByteArray := prog_7_method_3_code
def yX5_advance : MethodName := ⟨RX5, "advance", "()Z"⟩
abbrev cX5_fillFrom : ByteArray := prog_7_method_4_code
def yX5_fillFrom : MethodName := ⟨RX5, "fillFrom", "(II)V"⟩
abbrev cX5_sum : ByteArray := prog_7_method_5_code
def yX5_sum : MethodName := ⟨RX5, "sum", "()I"⟩
abbrev cX5_witnessed : ByteArray := prog_7_method_6_code
def yX5_witnessed : MethodName := ⟨RX5, "witnessed", "([J)J"⟩
def RX6 : String := "KindSayings"
def TX6 : u_T := fun k => match k with
  | 0 => ("KindSayings", "sayings", "[LKindSayings$Saying;", true)
  | 1 => ("KindSayings", "worldThings", "[I", true)
  | 2 => ("KindSayings", "reader", "LKindSayings$Reader;", true)
  | 3 => ("KindSayings", "heapTable", "LKindSayings$Heaps;", true)
  | 4 => ("KindSayings", "proof", "LKindSayings$Proof;", true)
  | 5 => ("KindSayings", "kindCount", "I", false)
  | 6 => ("KindSayings", "mostThings", "I", false)
  | _ => ("KindSayings", "moodBits", "I", false)
def tyX6 : Nat → FieldType := fun k => match k with
  | 0 => .array (.object "KindSayings$Saying")
  | 1 => .array .int
  | 2 => .object "KindSayings$Reader"
  | 3 => .object "KindSayings$Heaps"
  | 4 => .object "KindSayings$Proof"
  | 5 => .int
  | 6 => .int
  | _ => .int
abbrev wsX60 : List Cond := u_ws RX6 TX6 8
theorem nmX6 : ∀ a, a < 8 → ∀ b, b < 8 → a ≠ b → (TX6 a).2.1 ≠ (TX6 b).2.1 := by decide +kernel
theorem tyX6_ok : ∀ k, k < 8 → parseFieldDescriptor (TX6 k).2.2.1 = some (tyX6 k) := by decide +kernel
abbrev cX6_init : ByteArray := prog_1_method_1_code
def yX6_init : MethodName := ⟨RX6, "<init>", "()V"⟩
abbrev cX6_kinds : ByteArray := prog_1_method_2_code
def yX6_kinds : MethodName := ⟨RX6, "kinds", "(I)I"⟩
abbrev cX6_most : ByteArray := prog_1_method_3_code
def yX6_most : MethodName := ⟨RX6, "most", "(I)I"⟩
abbrev cX6_worlds : ByteArray := prog_1_method_4_code
def yX6_worlds : MethodName := ⟨RX6, "worlds", "()I"⟩
abbrev cX6_put : ByteArray := prog_1_method_5_code
def yX6_put : MethodName := ⟨RX6, "put", "(II)I"⟩
abbrev cX6_holds : ByteArray := prog_1_method_6_code
def yX6_holds : MethodName := ⟨RX6, "holds", "(I)I"⟩
abbrev cX6_size : ByteArray := prog_1_method_7_code
def yX6_size : MethodName := ⟨RX6, "size", "(II)I"⟩
abbrev cX6_type : ByteArray := prog_1_method_8_code
def yX6_type : MethodName := ⟨RX6, "type", "(JI)I"⟩
abbrev cX6_clear : ByteArray := prog_1_method_9_code
def yX6_clear : MethodName := ⟨RX6, "clear", "()I"⟩
abbrev cX6_read : ByteArray := prog_1_method_10_code
def yX6_read : MethodName := ⟨RX6, "read", "(I)I"⟩
abbrev cX6_about : ByteArray := prog_1_method_11_code
def yX6_about : MethodName := ⟨RX6, "about", "(II)I"⟩
abbrev cX6_can : ByteArray := prog_1_method_12_code
def yX6_can : MethodName := ⟨RX6, "can", "(I)I"⟩
abbrev cX6_least : ByteArray := prog_1_method_13_code
def yX6_least : MethodName := ⟨RX6, "least", "(II)I"⟩
abbrev cX6_follows : ByteArray := prog_1_method_14_code
def yX6_follows : MethodName := ⟨RX6, "follows", "(II)I"⟩
abbrev cX6_against : ByteArray := prog_1_method_15_code
def yX6_against : MethodName := ⟨RX6, "against", "(III)I"⟩
abbrev cX6_unsaid : ByteArray := prog_1_method_16_code
def yX6_unsaid : MethodName := ⟨RX6, "unsaid", "(I)I"⟩
abbrev cX6_clash : ByteArray := prog_1_method_17_code
def yX6_clash : MethodName := ⟨RX6, "clash", "(II)I"⟩
abbrev cX6_ask : ByteArray := prog_1_method_18_code
def yX6_ask : MethodName := ⟨RX6, "ask", "(I)I"⟩
abbrev cX6_heaps : ByteArray := prog_1_method_19_code
def yX6_heaps : MethodName := ⟨RX6, "heaps", "(I)I"⟩
abbrev cX6_twin : ByteArray := prog_1_method_20_code
def yX6_twin : MethodName := ⟨RX6, "twin", "(I)I"⟩
abbrev cX6_moods : ByteArray := prog_1_method_21_code
def yX6_moods : MethodName := ⟨RX6, "moods", "(I)I"⟩
abbrev cX6_round : ByteArray := prog_1_method_22_code
def yX6_round : MethodName := ⟨RX6, "round", "(IIII)I"⟩
abbrev cX6_by : ByteArray := prog_1_method_23_code
def yX6_by : MethodName := ⟨RX6, "by", "(IIIII)I"⟩
abbrev cX6_shown : ByteArray := prog_1_method_24_code
def yX6_shown : MethodName := ⟨RX6, "shown", "(II)I"⟩
abbrev cX6_count : ByteArray := prog_1_method_25_code
def yX6_count : MethodName := ⟨RX6, "count", "(I)I"⟩
abbrev cX6_startOver : ByteArray := prog_1_method_26_code
def yX6_startOver : MethodName := ⟨RX6, "startOver", "()V"⟩
abbrev cX6_sayingAt : ByteArray := prog_1_method_27_code
def yX6_sayingAt : MethodName := ⟨RX6, "sayingAt", "(I)LKindSayings$Saying;"⟩
abbrev cX6_sortCount : ByteArray := prog_1_method_28_code
def yX6_sortCount : MethodName := ⟨RX6, "sortCount", "()I"⟩
abbrev cX6_isSort : ByteArray := prog_1_method_29_code
def yX6_isSort : MethodName := ⟨RX6, "isSort", "(I)Z"⟩
abbrev cX6_isSortOrEvery : ByteArray := prog_1_method_30_code
def yX6_isSortOrEvery : MethodName := ⟨RX6, "isSortOrEvery", "(I)Z"⟩
abbrev cX6_isFact : ByteArray := prog_1_method_31_code
def yX6_isFact : MethodName := ⟨RX6, "isFact", "(III)Z"⟩
abbrev cX6_thingsAtHand : ByteArray := prog_1_method_32_code
def yX6_thingsAtHand : MethodName := ⟨RX6, "thingsAtHand", "()I"⟩
abbrev cX6_sumAtHand : ByteArray := prog_1_method_33_code
def yX6_sumAtHand : MethodName := ⟨RX6, "sumAtHand", "(LKindSayings$Saying;)I"⟩
abbrev cX6_freshHeaps : ByteArray := prog_1_method_34_code
def yX6_freshHeaps : MethodName := ⟨RX6, "freshHeaps", "()LKindSayings$Heaps;"⟩
abbrev cX6_work : ByteArray := prog_1_method_35_code
def yX6_work : MethodName := ⟨RX6, "work", "(I)V"⟩
abbrev cX6_plainSayings : ByteArray := prog_1_method_36_code
def yX6_plainSayings : MethodName := ⟨RX6, "plainSayings", "()I"⟩
abbrev cX6_everyFact : ByteArray := prog_1_method_37_code
def yX6_everyFact : MethodName := ⟨RX6, "everyFact", "()J"⟩
abbrev cX6_isSet : ByteArray := prog_1_method_38_code
def yX6_isSet : MethodName := ⟨RX6, "isSet", "(I)Z"⟩
abbrev cX6_has : ByteArray := prog_1_method_39_code
def yX6_has : MethodName := ⟨RX6, "has", "(II)Z"⟩
abbrev cX6_bit : ByteArray := prog_1_method_40_code
def yX6_bit : MethodName := ⟨RX6, "bit", "(Z)I"⟩
abbrev cX6_factNumber : ByteArray := prog_1_method_41_code
def yX6_factNumber : MethodName := ⟨RX6, "factNumber", "(III)I"⟩
abbrev cX6_isQuarrel : ByteArray := prog_1_method_42_code
def yX6_isQuarrel : MethodName := ⟨RX6, "isQuarrel", "(J)Z"⟩
abbrev cX6_sortsOfKind : ByteArray := prog_1_method_43_code
def yX6_sortsOfKind : MethodName := ⟨RX6, "sortsOfKind", "(II)I"⟩
abbrev cX6_everySort : ByteArray := prog_1_method_44_code
def yX6_everySort : MethodName := ⟨RX6, "everySort", "(I)I"⟩
def RX7 : String := "KindSayingsModel"
def TX7 : u_T := fun k => match k with
  | 0 => ("KindSayingsModel", "thrown", "I", false)
  | 1 => ("KindSayingsModel", "k", "I", false)
  | 2 => ("KindSayingsModel", "n", "I", false)
  | 3 => ("KindSayingsModel", "moods", "I", false)
  | 4 => ("KindSayingsModel", "world", "[I", true)
  | 5 => ("KindSayingsModel", "text", "[I", true)
  | 6 => ("KindSayingsModel", "typed", "I", false)
  | 7 => ("KindSayingsModel", "next", "I", false)
  | 8 => ("KindSayingsModel", "token", "I", false)
  | 9 => ("KindSayingsModel", "place", "I", false)
  | 10 => ("KindSayingsModel", "value", "I", false)
  | 11 => ("KindSayingsModel", "fault", "I", false)
  | 12 => ("KindSayingsModel", "counted", "I", false)
  | 13 => ("KindSayingsModel", "saying", "[I", true)
  | 14 => ("KindSayingsModel", "values", "[I", true)
  | 15 => ("KindSayingsModel", "signs", "[I", true)
  | 16 => ("KindSayingsModel", "alone", "I", false)
  | 17 => ("KindSayingsModel", "isLoaded", "Z", false)
  | 18 => ("KindSayingsModel", "worlds", "I", false)
  | 19 => ("KindSayingsModel", "things", "[I", true)
  | 20 => ("KindSayingsModel", "many", "[I", true)
  | 21 => ("KindSayingsModel", "order", "[I", true)
  | 22 => ("KindSayingsModel", "firsts", "[I", true)
  | 23 => ("KindSayingsModel", "facts", "[J", true)
  | 24 => ("KindSayingsModel", "round", "[I", true)
  | 25 => ("KindSayingsModel", "rounds", "I", false)
  | 26 => ("KindSayingsModel", "byMood", "I", false)
  | 27 => ("KindSayingsModel", "byFirst", "I", false)
  | _ => ("KindSayingsModel", "bySecond", "I", false)
def tyX7 : Nat → FieldType := fun k => match k with
  | 0 => .int
  | 1 => .int
  | 2 => .int
  | 3 => .int
  | 4 => .array .int
  | 5 => .array .int
  | 6 => .int
  | 7 => .int
  | 8 => .int
  | 9 => .int
  | 10 => .int
  | 11 => .int
  | 12 => .int
  | 13 => .array .int
  | 14 => .array .int
  | 15 => .array .int
  | 16 => .int
  | 17 => .boolean
  | 18 => .int
  | 19 => .array .int
  | 20 => .array .int
  | 21 => .array .int
  | 22 => .array .int
  | 23 => .array .long
  | 24 => .array .int
  | 25 => .int
  | 26 => .int
  | 27 => .int
  | _ => .int
abbrev wsX70 : List Cond := u_ws RX7 TX7 29
theorem nmX7 : ∀ a, a < 29 → ∀ b, b < 29 → a ≠ b → (TX7 a).2.1 ≠ (TX7 b).2.1 := by decide +kernel
theorem tyX7_ok : ∀ k, k < 29 → parseFieldDescriptor (TX7 k).2.2.1 = some (tyX7 k) := by decide +kernel
abbrev cX7_init : ByteArray := prog_9_method_1_code
def yX7_init : MethodName := ⟨RX7, "<init>", "()V"⟩
abbrev cX7_in : ByteArray := prog_9_method_3_code
def yX7_in : MethodName := ⟨RX7, "in", "(III)Z"⟩
abbrev cX7_sorts : ByteArray := prog_9_method_4_code
def yX7_sorts : MethodName := ⟨RX7, "sorts", "()I"⟩
abbrev cX7_of : ByteArray := prog_9_method_5_code
def yX7_of : MethodName := ⟨RX7, "of", "(I)I"⟩
abbrev cX7_begins : ByteArray := prog_9_method_6_code
def yX7_begins : MethodName := ⟨RX7, "begins", "()V"⟩
abbrev cX7_isSaying : ByteArray := prog_9_method_7_code
def yX7_isSaying : MethodName := ⟨RX7, "isSaying", "(I)Z"⟩
abbrev cX7_isSet : ByteArray := prog_9_method_8_code
def yX7_isSet : MethodName := ⟨RX7, "isSet", "(I)Z"⟩
abbrev cX7_kinds : ByteArray := prog_9_method_9_code
def yX7_kinds : MethodName := ⟨RX7, "kinds", "(I)I"⟩
abbrev cX7_most : ByteArray := prog_9_method_10_code
def yX7_most : MethodName := ⟨RX7, "most", "(I)I"⟩
abbrev cX7_worlds : ByteArray := prog_9_method_11_code
def yX7_worlds : MethodName := ⟨RX7, "worlds", "()I"⟩
abbrev cX7_all : ByteArray := prog_9_method_12_code
def yX7_all : MethodName := ⟨RX7, "all", "([I)I"⟩
abbrev cX7_put : ByteArray := prog_9_method_13_code
def yX7_put : MethodName := ⟨RX7, "put", "(II)I"⟩
abbrev cX7_sizeOf : ByteArray := prog_9_method_14_code
def yX7_sizeOf : MethodName := ⟨RX7, "sizeOf", "(I[I)I"⟩
abbrev cX7_isSo : ByteArray := prog_9_method_15_code
def yX7_isSo : MethodName := ⟨RX7, "isSo", "(I[I)Z"⟩
abbrev cX7_holds : ByteArray := prog_9_method_16_code
def yX7_holds : MethodName := ⟨RX7, "holds", "(I)I"⟩
abbrev cX7_size : ByteArray := prog_9_method_17_code
def yX7_size : MethodName := ⟨RX7, "size", "(II)I"⟩
abbrev cX7_type : ByteArray := prog_9_method_18_code
def yX7_type : MethodName := ⟨RX7, "type", "(JI)I"⟩
abbrev cX7_clear : ByteArray := prog_9_method_19_code
def yX7_clear : MethodName := ⟨RX7, "clear", "()I"⟩
abbrev cX7_byteAt : ByteArray := prog_9_method_20_code
def yX7_byteAt : MethodName := ⟨RX7, "byteAt", "(I)I"⟩
abbrev cX7_add : ByteArray := prog_9_method_21_code
def yX7_add : MethodName := ⟨RX7, "add", "(JI)J"⟩
abbrev cX7_word : ByteArray := prog_9_method_22_code
def yX7_word : MethodName := ⟨RX7, "word", "(IIIII)J"⟩
abbrev cX7_wordOf : ByteArray := prog_9_method_23_code
def yX7_wordOf : MethodName := ⟨RX7, "wordOf", "(J)I"⟩
abbrev cX7_advances : ByteArray := prog_9_method_24_code
def yX7_advances : MethodName := ⟨RX7, "advances", "()V"⟩
abbrev cX7_isWell : ByteArray := prog_9_method_25_code
def yX7_isWell : MethodName := ⟨RX7, "isWell", "()Z"⟩
abbrev cX7_fails : ByteArray := prog_9_method_26_code
def yX7_fails : MethodName := ⟨RX7, "fails", "()V"⟩
abbrev cX7_isSign : ByteArray := prog_9_method_27_code
def yX7_isSign : MethodName := ⟨RX7, "isSign", "(I)Z"⟩
abbrev cX7_isKindSign : ByteArray := prog_9_method_28_code
def yX7_isKindSign : MethodName := ⟨RX7, "isKindSign", "()Z"⟩
abbrev cX7_every : ByteArray := prog_9_method_29_code
def yX7_every : MethodName := ⟨RX7, "every", "()I"⟩
abbrev cX7_side : ByteArray := prog_9_method_30_code
def yX7_side : MethodName := ⟨RX7, "side", "()I"⟩
abbrev cX7_hasOpen : ByteArray := prog_9_method_31_code
def yX7_hasOpen : MethodName := ⟨RX7, "hasOpen", "(I)Z"⟩
abbrev cX7_joins : ByteArray := prog_9_method_32_code
def yX7_joins : MethodName := ⟨RX7, "joins", "(III)I"⟩
abbrev cX7_read : ByteArray := prog_9_method_33_code
def yX7_read : MethodName := ⟨RX7, "read", "(I)I"⟩
abbrev cX7_about : ByteArray := prog_9_method_34_code
def yX7_about : MethodName := ⟨RX7, "about", "(II)I"⟩
abbrev cX7_isFact : ByteArray := prog_9_method_35_code
def yX7_isFact : MethodName := ⟨RX7, "isFact", "(III)Z"⟩
abbrev cX7_takes : ByteArray := prog_9_method_36_code
def yX7_takes : MethodName := ⟨RX7, "takes", "()V"⟩
abbrev cX7_loads : ByteArray := prog_9_method_37_code
def yX7_loads : MethodName := ⟨RX7, "loads", "()V"⟩
abbrev cX7_isIn : ByteArray := prog_9_method_38_code
def yX7_isIn : MethodName := ⟨RX7, "isIn", "(II)Z"⟩
abbrev cX7_canBe : ByteArray := prog_9_method_39_code
def yX7_canBe : MethodName := ⟨RX7, "canBe", "(I)I"⟩
abbrev cX7_can : ByteArray := prog_9_method_40_code
def yX7_can : MethodName := ⟨RX7, "can", "(I)I"⟩
abbrev cX7_firstOf : ByteArray := prog_9_method_41_code
def yX7_firstOf : MethodName := ⟨RX7, "firstOf", "(II)I"⟩
abbrev cX7_told : ByteArray := prog_9_method_42_code
def yX7_told : MethodName := ⟨RX7, "told", "(II)I"⟩
abbrev cX7_least : ByteArray := prog_9_method_43_code
def yX7_least : MethodName := ⟨RX7, "least", "(II)I"⟩
abbrev cX7_follows : ByteArray := prog_9_method_44_code
def yX7_follows : MethodName := ⟨RX7, "follows", "(II)I"⟩
abbrev cX7_against : ByteArray := prog_9_method_45_code
def yX7_against : MethodName := ⟨RX7, "against", "(III)I"⟩
abbrev cX7_unsaid : ByteArray := prog_9_method_46_code
def yX7_unsaid : MethodName := ⟨RX7, "unsaid", "(I)I"⟩
abbrev cX7_ones : ByteArray := prog_9_method_47_code
def yX7_ones : MethodName := ⟨RX7, "ones", "(I)I"⟩
abbrev cX7_clash : ByteArray := prog_9_method_48_code
def yX7_clash : MethodName := ⟨RX7, "clash", "(II)I"⟩
abbrev cX7_ask : ByteArray := prog_9_method_49_code
def yX7_ask : MethodName := ⟨RX7, "ask", "(I)I"⟩
abbrev cX7_heaps : ByteArray := prog_9_method_50_code
def yX7_heaps : MethodName := ⟨RX7, "heaps", "(I)I"⟩
abbrev cX7_twin : ByteArray := prog_9_method_51_code
def yX7_twin : MethodName := ⟨RX7, "twin", "(I)I"⟩
abbrev cX7_moods : ByteArray := prog_9_method_52_code
def yX7_moods : MethodName := ⟨RX7, "moods", "(I)I"⟩
abbrev cX7_isBy : ByteArray := prog_9_method_53_code
def yX7_isBy : MethodName := ⟨RX7, "isBy", "(II)Z"⟩
abbrev cX7_isShown : ByteArray := prog_9_method_54_code
def yX7_isShown : MethodName := ⟨RX7, "isShown", "(IIIII)Z"⟩
abbrev cX7_isTold : ByteArray := prog_9_method_55_code
def yX7_isTold : MethodName := ⟨RX7, "isTold", "(II)Z"⟩
abbrev cX7_shows : ByteArray := prog_9_method_56_code
def yX7_shows : MethodName := ⟨RX7, "shows", "(I)V"⟩
abbrev cX7_isAsked : ByteArray := prog_9_method_57_code
def yX7_isAsked : MethodName := ⟨RX7, "isAsked", "(IIII)Z"⟩
abbrev cX7_round : ByteArray := prog_9_method_58_code
def yX7_round : MethodName := ⟨RX7, "round", "(IIII)I"⟩
abbrev cX7_by : ByteArray := prog_9_method_59_code
def yX7_by : MethodName := ⟨RX7, "by", "(IIIII)I"⟩
abbrev cX7_shown : ByteArray := prog_9_method_60_code
def yX7_shown : MethodName := ⟨RX7, "shown", "(II)I"⟩
abbrev cX7_count : ByteArray := prog_9_method_61_code
def yX7_count : MethodName := ⟨RX7, "count", "(I)I"⟩
def RJ6 : String := "java/lang/Integer"
def TJ6 : u_T := fun k => match k with
  | _ => ("", "", "", false)
def tyJ6 : Nat → FieldType := fun k => match k with
  | _ => .int
abbrev wsJ60 : List Cond := u_ws RJ6 TJ6 0
abbrev cJ6_bitCount_0f7a4 : ByteArray := prog_10_method_49_code
def yJ6_bitCount_0f7a4 : MethodName := ⟨RJ6, "bitCount", "(I)I"⟩
def RJ13 : String := "java/lang/Long"
def TJ13 : u_T := fun k => match k with
  | _ => ("", "", "", false)
def tyJ13 : Nat → FieldType := fun k => match k with
  | _ => .int
abbrev wsJ130 : List Cond := u_ws RJ13 TJ13 0
abbrev cJ13_bitCount_95d88 : ByteArray := prog_11_method_50_code
def yJ13_bitCount_95d88 : MethodName := ⟨RJ13, "bitCount", "(J)I"⟩
def RJ9 : String := "java/lang/Math"
def TJ9 : u_T := fun k => match k with
  | _ => ("", "", "", false)
def tyJ9 : Nat → FieldType := fun k => match k with
  | _ => .int
abbrev wsJ90 : List Cond := u_ws RJ9 TJ9 0
abbrev cJ9_max_7cf53 : ByteArray := prog_12_method_65_code
def yJ9_max_7cf53 : MethodName := ⟨RJ9, "max", "(II)I"⟩
abbrev cJ9_min_7cf53 : ByteArray := prog_12_method_69_code
def yJ9_min_7cf53 : MethodName := ⟨RJ9, "min", "(II)I"⟩
def RL : String := "KindSayingsLaw"
abbrev cL_law : ByteArray := code
def yL_law : MethodName := ⟨RL, "law", "([I)Z"⟩
theorem inX0 : ∀ w ∈ wsX00, w ∈ lw_tbl := by decide +kernel
theorem inX1 : ∀ w ∈ wsX10, w ∈ lw_tbl := by decide +kernel
theorem inX2 : ∀ w ∈ wsX20, w ∈ lw_tbl := by decide +kernel
theorem inX3 : ∀ w ∈ wsX30, w ∈ lw_tbl := by decide +kernel
theorem inX4 : ∀ w ∈ wsX40, w ∈ lw_tbl := by decide +kernel
theorem inX5 : ∀ w ∈ wsX50, w ∈ lw_tbl := by decide +kernel
theorem inX6 : ∀ w ∈ wsX60, w ∈ lw_tbl := by decide +kernel
theorem inX7 : ∀ w ∈ wsX70, w ∈ lw_tbl := by decide +kernel
/-- the words that may be carried to a callee -/
def Gd : List Cond := lw_tbl.filter goodWord
theorem Gd_good : ∀ w ∈ Gd, goodWord w = true := fun w h => (List.mem_filter.mp h).2
theorem Gd_tbl : ∀ w ∈ Gd, w ∈ lw_tbl := fun w h => (List.mem_filter.mp h).1
theorem Gd_m {w : Cond} (h : w ∈ tables_1) (g : goodWord w = true) : w ∈ Gd := List.mem_filter.mpr ⟨List.mem_append_right _ h, g⟩
theorem Gd_0 (i : Nat) {w : Cond} (h : (k2_sels lw_privs)[i]? = some w) (g : goodWord w = true) : w ∈ Gd := List.mem_filter.mpr ⟨List.mem_append_left _ (List.mem_of_getElem? h), g⟩
theorem Gd_1 (i : Nat) {w : Cond} (h : tables_1_1[i]? = some w) (g : goodWord w = true) : w ∈ Gd := Gd_m (List.mem_append_left _ (List.mem_of_getElem? h)) g
theorem Gd_2 (i : Nat) {w : Cond} (h : tables_1_2[i]? = some w) (g : goodWord w = true) : w ∈ Gd := Gd_m (List.mem_append_right _ (List.mem_append_left _ (List.mem_of_getElem? h))) g
theorem Gd_3 (i : Nat) {w : Cond} (h : tables_1_3[i]? = some w) (g : goodWord w = true) : w ∈ Gd := Gd_m (List.mem_append_right _ (List.mem_append_right _ (List.mem_append_left _ (List.mem_of_getElem? h)))) g
theorem Gd_4 (i : Nat) {w : Cond} (h : tables_1_4[i]? = some w) (g : goodWord w = true) : w ∈ Gd := Gd_m (List.mem_append_right _ (List.mem_append_right _ (List.mem_append_right _ (List.mem_append_left _ (List.mem_of_getElem? h))))) g
theorem Gd_5 (i : Nat) {w : Cond} (h : tables_1_5[i]? = some w) (g : goodWord w = true) : w ∈ Gd := Gd_m (List.mem_append_right _ (List.mem_append_right _ (List.mem_append_right _ (List.mem_append_right _ (List.mem_of_getElem? h))))) g
theorem inG0 : ∀ w ∈ wsX00, w ∈ Gd := fun w h => List.mem_filter.mpr ⟨inX0 w h, (show ∀ w ∈ wsX00, goodWord w = true by decide +kernel) w h⟩
theorem inG1 : ∀ w ∈ wsX10, w ∈ Gd := fun w h => List.mem_filter.mpr ⟨inX1 w h, (show ∀ w ∈ wsX10, goodWord w = true by decide +kernel) w h⟩
theorem inG2 : ∀ w ∈ wsX20, w ∈ Gd := fun w h => List.mem_filter.mpr ⟨inX2 w h, (show ∀ w ∈ wsX20, goodWord w = true by decide +kernel) w h⟩
theorem inG3 : ∀ w ∈ wsX30, w ∈ Gd := fun w h => List.mem_filter.mpr ⟨inX3 w h, (show ∀ w ∈ wsX30, goodWord w = true by decide +kernel) w h⟩
theorem inG4 : ∀ w ∈ wsX40, w ∈ Gd := fun w h => List.mem_filter.mpr ⟨inX4 w h, (show ∀ w ∈ wsX40, goodWord w = true by decide +kernel) w h⟩
theorem inG5 : ∀ w ∈ wsX50, w ∈ Gd := fun w h => List.mem_filter.mpr ⟨inX5 w h, (show ∀ w ∈ wsX50, goodWord w = true by decide +kernel) w h⟩
theorem inG6 : ∀ w ∈ wsX60, w ∈ Gd := fun w h => List.mem_filter.mpr ⟨inX6 w h, (show ∀ w ∈ wsX60, goodWord w = true by decide +kernel) w h⟩
theorem inG7 : ∀ w ∈ wsX70, w ∈ Gd := fun w h => List.mem_filter.mpr ⟨inX7 w h, (show ∀ w ∈ wsX70, goodWord w = true by decide +kernel) w h⟩
end
section
set_option maxRecDepth 8000 in
theorem w_0 : Cond.selects "KindSayings" (⟨"KindSayings", "startOver", "()V"⟩) (⟨"KindSayings", "startOver", "()V"⟩) ∈ Gd := Gd_0 0 rfl rfl
set_option maxRecDepth 8000 in
theorem w_1 : Cond.selects "KindSayings" (⟨"KindSayings", "sortCount", "()I"⟩) (⟨"KindSayings", "sortCount", "()I"⟩) ∈ Gd := Gd_0 1 rfl rfl
set_option maxRecDepth 8000 in
theorem w_2 : Cond.selects "KindSayings" (⟨"KindSayings", "isSort", "(I)Z"⟩) (⟨"KindSayings", "isSort", "(I)Z"⟩) ∈ Gd := Gd_0 2 rfl rfl
set_option maxRecDepth 8000 in
theorem w_3 : Cond.selects "KindSayings" (⟨"KindSayings", "thingsAtHand", "()I"⟩) (⟨"KindSayings", "thingsAtHand", "()I"⟩) ∈ Gd := Gd_0 3 rfl rfl
set_option maxRecDepth 8000 in
theorem w_4 : Cond.selects "KindSayings" (⟨"KindSayings", "sayingAt", "(I)LKindSayings$Saying;"⟩) (⟨"KindSayings", "sayingAt", "(I)LKindSayings$Saying;"⟩) ∈ Gd := Gd_0 4 rfl rfl
set_option maxRecDepth 8000 in
theorem w_5 : Cond.selects "KindSayings" (⟨"KindSayings", "sumAtHand", "(LKindSayings$Saying;)I"⟩) (⟨"KindSayings", "sumAtHand", "(LKindSayings$Saying;)I"⟩) ∈ Gd := Gd_0 5 rfl rfl
set_option maxRecDepth 8000 in
theorem w_6 : Cond.selects "KindSayings$Saying" (⟨"KindSayings$Saying", "isTrueUnturned", "(III)Z"⟩) (⟨"KindSayings$Saying", "isTrueUnturned", "(III)Z"⟩) ∈ Gd := Gd_0 6 rfl rfl
set_option maxRecDepth 8000 in
theorem w_7 : Cond.selects "KindSayings$Tokens" (⟨"KindSayings$Tokens", "byteAt", "(I)I"⟩) (⟨"KindSayings$Tokens", "byteAt", "(I)I"⟩) ∈ Gd := Gd_0 7 rfl rfl
set_option maxRecDepth 8000 in
theorem w_8 : Cond.selects "KindSayings$Tokens" (⟨"KindSayings$Tokens", "takeWord", "()V"⟩) (⟨"KindSayings$Tokens", "takeWord", "()V"⟩) ∈ Gd := Gd_0 8 rfl rfl
set_option maxRecDepth 8000 in
theorem w_9 : Cond.selects "KindSayings$Tokens" (⟨"KindSayings$Tokens", "takeNumber", "()V"⟩) (⟨"KindSayings$Tokens", "takeNumber", "()V"⟩) ∈ Gd := Gd_0 9 rfl rfl
set_option maxRecDepth 8000 in
theorem w_10 : Cond.selects "KindSayings$Tokens" (⟨"KindSayings$Tokens", "takeSign", "(I)V"⟩) (⟨"KindSayings$Tokens", "takeSign", "(I)V"⟩) ∈ Gd := Gd_0 10 rfl rfl
set_option maxRecDepth 8000 in
theorem w_11 : Cond.selects "KindSayings$Reader" (⟨"KindSayings$Reader", "readHead", "()V"⟩) (⟨"KindSayings$Reader", "readHead", "()V"⟩) ∈ Gd := Gd_0 11 rfl rfl
set_option maxRecDepth 8000 in
theorem w_12 : Cond.selects "KindSayings$Reader" (⟨"KindSayings$Reader", "fail", "()V"⟩) (⟨"KindSayings$Reader", "fail", "()V"⟩) ∈ Gd := Gd_0 12 rfl rfl
set_option maxRecDepth 8000 in
theorem w_13 : Cond.selects "KindSayings$Reader" (⟨"KindSayings$Reader", "pass", "(I)V"⟩) (⟨"KindSayings$Reader", "pass", "(I)V"⟩) ∈ Gd := Gd_0 13 rfl rfl
set_option maxRecDepth 8000 in
theorem w_14 : Cond.selects "KindSayings$Reader" (⟨"KindSayings$Reader", "readNumber", "()V"⟩) (⟨"KindSayings$Reader", "readNumber", "()V"⟩) ∈ Gd := Gd_0 14 rfl rfl
set_option maxRecDepth 8000 in
theorem w_15 : Cond.selects "KindSayings$Reader" (⟨"KindSayings$Reader", "readSide", "()I"⟩) (⟨"KindSayings$Reader", "readSide", "()I"⟩) ∈ Gd := Gd_0 15 rfl rfl
set_option maxRecDepth 8000 in
theorem w_16 : Cond.selects "KindSayings$Reader" (⟨"KindSayings$Reader", "readUnion", "(I)I"⟩) (⟨"KindSayings$Reader", "readUnion", "(I)I"⟩) ∈ Gd := Gd_0 16 rfl rfl
set_option maxRecDepth 8000 in
theorem w_17 : Cond.selects "KindSayings$Reader" (⟨"KindSayings$Reader", "readMeet", "(I)I"⟩) (⟨"KindSayings$Reader", "readMeet", "(I)I"⟩) ∈ Gd := Gd_0 17 rfl rfl
set_option maxRecDepth 8000 in
theorem w_18 : Cond.selects "KindSayings$Reader" (⟨"KindSayings$Reader", "readPart", "(I)I"⟩) (⟨"KindSayings$Reader", "readPart", "(I)I"⟩) ∈ Gd := Gd_0 18 rfl rfl
set_option maxRecDepth 8000 in
theorem w_19 : Cond.selects "KindSayings$Reader" (⟨"KindSayings$Reader", "isPart", "(III)Z"⟩) (⟨"KindSayings$Reader", "isPart", "(III)Z"⟩) ∈ Gd := Gd_0 19 rfl rfl
set_option maxRecDepth 8000 in
theorem w_20 : Cond.selects "KindSayings$Reader" (⟨"KindSayings$Reader", "factTold", "(II)I"⟩) (⟨"KindSayings$Reader", "factTold", "(II)I"⟩) ∈ Gd := Gd_0 20 rfl rfl
set_option maxRecDepth 8000 in
theorem w_21 : Cond.selects "KindSayings" (⟨"KindSayings", "freshHeaps", "()LKindSayings$Heaps;"⟩) (⟨"KindSayings", "freshHeaps", "()LKindSayings$Heaps;"⟩) ∈ Gd := Gd_0 21 rfl rfl
set_option maxRecDepth 8000 in
theorem w_22 : Cond.selects "KindSayings$Heaps" (⟨"KindSayings$Heaps", "mark", "(LKindSayings$Saying;I)V"⟩) (⟨"KindSayings$Heaps", "mark", "(LKindSayings$Saying;I)V"⟩) ∈ Gd := Gd_0 22 rfl rfl
set_option maxRecDepth 8000 in
theorem w_23 : Cond.selects "KindSayings$Walk" (⟨"KindSayings$Walk", "fillFrom", "(II)V"⟩) (⟨"KindSayings$Walk", "fillFrom", "(II)V"⟩) ∈ Gd := Gd_0 23 rfl rfl
set_option maxRecDepth 8000 in
theorem w_24 : Cond.selects "KindSayings$Heaps" (⟨"KindSayings$Heaps", "fillHeaps", "()V"⟩) (⟨"KindSayings$Heaps", "fillHeaps", "()V"⟩) ∈ Gd := Gd_0 24 rfl rfl
set_option maxRecDepth 8000 in
theorem w_25 : Cond.selects "KindSayings$Heaps" (⟨"KindSayings$Heaps", "addTogether", "()V"⟩) (⟨"KindSayings$Heaps", "addTogether", "()V"⟩) ∈ Gd := Gd_0 25 rfl rfl
set_option maxRecDepth 8000 in
theorem w_26 : Cond.selects "KindSayings" (⟨"KindSayings", "isSortOrEvery", "(I)Z"⟩) (⟨"KindSayings", "isSortOrEvery", "(I)Z"⟩) ∈ Gd := Gd_0 26 rfl rfl
set_option maxRecDepth 8000 in
theorem w_27 : Cond.selects "KindSayings" (⟨"KindSayings", "isFact", "(III)Z"⟩) (⟨"KindSayings", "isFact", "(III)Z"⟩) ∈ Gd := Gd_0 27 rfl rfl
set_option maxRecDepth 8000 in
theorem w_28 : Cond.selects "KindSayings" (⟨"KindSayings", "work", "(I)V"⟩) (⟨"KindSayings", "work", "(I)V"⟩) ∈ Gd := Gd_0 28 rfl rfl
set_option maxRecDepth 8000 in
theorem w_29 : Cond.selects "KindSayings$Proof" (⟨"KindSayings$Proof", "isSame", "(I)Z"⟩) (⟨"KindSayings$Proof", "isSame", "(I)Z"⟩) ∈ Gd := Gd_0 29 rfl rfl
set_option maxRecDepth 8000 in
theorem w_30 : Cond.selects "KindSayings$Proof" (⟨"KindSayings$Proof", "isOfKinds", "(I)Z"⟩) (⟨"KindSayings$Proof", "isOfKinds", "(I)Z"⟩) ∈ Gd := Gd_0 30 rfl rfl
set_option maxRecDepth 8000 in
theorem w_31 : Cond.selects "KindSayings$Proof" (⟨"KindSayings$Proof", "isTold", "(I)Z"⟩) (⟨"KindSayings$Proof", "isTold", "(I)Z"⟩) ∈ Gd := Gd_0 31 rfl rfl
set_option maxRecDepth 8000 in
theorem w_32 : Cond.selects "KindSayings$Proof" (⟨"KindSayings$Proof", "factsAhead", "(I)J"⟩) (⟨"KindSayings$Proof", "factsAhead", "(I)J"⟩) ∈ Gd := Gd_0 32 rfl rfl
set_option maxRecDepth 8000 in
theorem w_33 : Cond.selects "KindSayings$Proof" (⟨"KindSayings$Proof", "isAnyComing", "(I)Z"⟩) (⟨"KindSayings$Proof", "isAnyComing", "(I)Z"⟩) ∈ Gd := Gd_0 33 rfl rfl
set_option maxRecDepth 8000 in
theorem w_34 : Cond.selects "KindSayings$Proof" (⟨"KindSayings$Proof", "leastMood", "(I)I"⟩) (⟨"KindSayings$Proof", "leastMood", "(I)I"⟩) ∈ Gd := Gd_0 34 rfl rfl
set_option maxRecDepth 8000 in
theorem w_35 : Cond.selects "KindSayings$Proof" (⟨"KindSayings$Proof", "isShowing", "(III)Z"⟩) (⟨"KindSayings$Proof", "isShowing", "(III)Z"⟩) ∈ Gd := Gd_0 35 rfl rfl
set_option maxRecDepth 8000 in
theorem w_36 : Cond.selects "KindSayings$Proof" (⟨"KindSayings$Proof", "isShownOf", "(II)Z"⟩) (⟨"KindSayings$Proof", "isShownOf", "(II)Z"⟩) ∈ Gd := Gd_0 36 rfl rfl
set_option maxRecDepth 8000 in
theorem w_37 : Cond.selects "KindSayings" (⟨"KindSayings", "everyFact", "()J"⟩) (⟨"KindSayings", "everyFact", "()J"⟩) ∈ Gd := Gd_0 37 rfl rfl
set_option maxRecDepth 8000 in
theorem w_38 : Cond.selects "KindSayings" (⟨"KindSayings", "plainSayings", "()I"⟩) (⟨"KindSayings", "plainSayings", "()I"⟩) ∈ Gd := Gd_0 38 rfl rfl
set_option maxRecDepth 8000 in
theorem w_39 : Cond.selects "KindSayingsModel" (⟨"KindSayingsModel", "begins", "()V"⟩) (⟨"KindSayingsModel", "begins", "()V"⟩) ∈ Gd := Gd_0 39 rfl rfl
set_option maxRecDepth 8000 in
theorem w_40 : Cond.selects "KindSayingsModel" (⟨"KindSayingsModel", "of", "(I)I"⟩) (⟨"KindSayingsModel", "of", "(I)I"⟩) ∈ Gd := Gd_0 40 rfl rfl
set_option maxRecDepth 8000 in
theorem w_41 : Cond.selects "KindSayingsModel" (⟨"KindSayingsModel", "sorts", "()I"⟩) (⟨"KindSayingsModel", "sorts", "()I"⟩) ∈ Gd := Gd_0 41 rfl rfl
set_option maxRecDepth 8000 in
theorem w_42 : Cond.selects "KindSayingsModel" (⟨"KindSayingsModel", "loads", "()V"⟩) (⟨"KindSayingsModel", "loads", "()V"⟩) ∈ Gd := Gd_0 42 rfl rfl
set_option maxRecDepth 8000 in
theorem w_43 : Cond.selects "KindSayingsModel" (⟨"KindSayingsModel", "takes", "()V"⟩) (⟨"KindSayingsModel", "takes", "()V"⟩) ∈ Gd := Gd_0 43 rfl rfl
set_option maxRecDepth 8000 in
theorem w_44 : Cond.selects "KindSayingsModel" (⟨"KindSayingsModel", "isSo", "(I[I)Z"⟩) (⟨"KindSayingsModel", "isSo", "(I[I)Z"⟩) ∈ Gd := Gd_0 44 rfl rfl
set_option maxRecDepth 8000 in
theorem w_45 : Cond.selects "KindSayingsModel" (⟨"KindSayingsModel", "sizeOf", "(I[I)I"⟩) (⟨"KindSayingsModel", "sizeOf", "(I[I)I"⟩) ∈ Gd := Gd_0 45 rfl rfl
set_option maxRecDepth 8000 in
theorem w_46 : Cond.selects "KindSayingsModel" (⟨"KindSayingsModel", "isFact", "(III)Z"⟩) (⟨"KindSayingsModel", "isFact", "(III)Z"⟩) ∈ Gd := Gd_0 46 rfl rfl
set_option maxRecDepth 8000 in
theorem w_47 : Cond.selects "KindSayingsModel" (⟨"KindSayingsModel", "all", "([I)I"⟩) (⟨"KindSayingsModel", "all", "([I)I"⟩) ∈ Gd := Gd_0 47 rfl rfl
set_option maxRecDepth 8000 in
theorem w_48 : Cond.selects "KindSayingsModel" (⟨"KindSayingsModel", "advances", "()V"⟩) (⟨"KindSayingsModel", "advances", "()V"⟩) ∈ Gd := Gd_0 48 rfl rfl
set_option maxRecDepth 8000 in
theorem w_49 : Cond.selects "KindSayingsModel" (⟨"KindSayingsModel", "byteAt", "(I)I"⟩) (⟨"KindSayingsModel", "byteAt", "(I)I"⟩) ∈ Gd := Gd_0 49 rfl rfl
set_option maxRecDepth 8000 in
theorem w_50 : Cond.selects "KindSayingsModel" (⟨"KindSayingsModel", "fails", "()V"⟩) (⟨"KindSayingsModel", "fails", "()V"⟩) ∈ Gd := Gd_0 50 rfl rfl
set_option maxRecDepth 8000 in
theorem w_51 : Cond.selects "KindSayingsModel" (⟨"KindSayingsModel", "isWell", "()Z"⟩) (⟨"KindSayingsModel", "isWell", "()Z"⟩) ∈ Gd := Gd_0 51 rfl rfl
set_option maxRecDepth 8000 in
theorem w_52 : Cond.selects "KindSayingsModel" (⟨"KindSayingsModel", "side", "()I"⟩) (⟨"KindSayingsModel", "side", "()I"⟩) ∈ Gd := Gd_0 52 rfl rfl
set_option maxRecDepth 8000 in
theorem w_53 : Cond.selects "KindSayingsModel" (⟨"KindSayingsModel", "isSign", "(I)Z"⟩) (⟨"KindSayingsModel", "isSign", "(I)Z"⟩) ∈ Gd := Gd_0 53 rfl rfl
set_option maxRecDepth 8000 in
theorem w_54 : Cond.selects "KindSayingsModel" (⟨"KindSayingsModel", "isKindSign", "()Z"⟩) (⟨"KindSayingsModel", "isKindSign", "()Z"⟩) ∈ Gd := Gd_0 54 rfl rfl
set_option maxRecDepth 8000 in
theorem w_55 : Cond.selects "KindSayingsModel" (⟨"KindSayingsModel", "hasOpen", "(I)Z"⟩) (⟨"KindSayingsModel", "hasOpen", "(I)Z"⟩) ∈ Gd := Gd_0 55 rfl rfl
set_option maxRecDepth 8000 in
theorem w_56 : Cond.selects "KindSayingsModel" (⟨"KindSayingsModel", "every", "()I"⟩) (⟨"KindSayingsModel", "every", "()I"⟩) ∈ Gd := Gd_0 56 rfl rfl
set_option maxRecDepth 8000 in
theorem w_57 : Cond.selects "KindSayingsModel" (⟨"KindSayingsModel", "canBe", "(I)I"⟩) (⟨"KindSayingsModel", "canBe", "(I)I"⟩) ∈ Gd := Gd_0 57 rfl rfl
set_option maxRecDepth 8000 in
theorem w_58 : Cond.selects "KindSayingsModel" (⟨"KindSayingsModel", "firstOf", "(II)I"⟩) (⟨"KindSayingsModel", "firstOf", "(II)I"⟩) ∈ Gd := Gd_0 58 rfl rfl
set_option maxRecDepth 8000 in
theorem w_59 : Cond.selects "KindSayingsModel" (⟨"KindSayingsModel", "told", "(II)I"⟩) (⟨"KindSayingsModel", "told", "(II)I"⟩) ∈ Gd := Gd_0 59 rfl rfl
set_option maxRecDepth 8000 in
theorem w_60 : Cond.selects "KindSayingsModel" (⟨"KindSayingsModel", "isAsked", "(IIII)Z"⟩) (⟨"KindSayingsModel", "isAsked", "(IIII)Z"⟩) ∈ Gd := Gd_0 60 rfl rfl
set_option maxRecDepth 8000 in
theorem w_61 : Cond.selects "KindSayingsModel" (⟨"KindSayingsModel", "shows", "(I)V"⟩) (⟨"KindSayingsModel", "shows", "(I)V"⟩) ∈ Gd := Gd_0 61 rfl rfl
set_option maxRecDepth 8000 in
theorem w_62 : Cond.selects "KindSayingsModel" (⟨"KindSayingsModel", "isTold", "(II)Z"⟩) (⟨"KindSayingsModel", "isTold", "(II)Z"⟩) ∈ Gd := Gd_0 62 rfl rfl
set_option maxRecDepth 8000 in
theorem w_63 : Cond.selects "KindSayingsModel" (⟨"KindSayingsModel", "isShown", "(IIIII)Z"⟩) (⟨"KindSayingsModel", "isShown", "(IIIII)Z"⟩) ∈ Gd := Gd_0 63 rfl rfl
set_option maxRecDepth 8000 in
theorem w_64 : Cond.selects "KindSayingsModel" (⟨"KindSayingsModel", "isBy", "(II)Z"⟩) (⟨"KindSayingsModel", "isBy", "(II)Z"⟩) ∈ Gd := Gd_0 64 rfl rfl
set_option maxRecDepth 8000 in
theorem w_65 : Cond.initialized "KindSayingsLaw" ∈ Gd := Gd_1 0 rfl rfl
set_option maxRecDepth 8000 in
theorem w_66 : Cond.initialized "KindSayings" ∈ Gd := Gd_1 1 rfl rfl
set_option maxRecDepth 8000 in
theorem w_67 : Cond.initialized "KindSayings$Reader" ∈ Gd := Gd_1 2 rfl rfl
set_option maxRecDepth 8000 in
theorem w_68 : Cond.initialized "KindSayings$Tokens" ∈ Gd := Gd_1 3 rfl rfl
set_option maxRecDepth 8000 in
theorem w_69 : Cond.initialized "KindSayings$Saying" ∈ Gd := Gd_1 4 rfl rfl
set_option maxRecDepth 8000 in
theorem w_70 : Cond.initialized "KindSayings$Heaps" ∈ Gd := Gd_1 5 rfl rfl
set_option maxRecDepth 8000 in
theorem w_71 : Cond.initialized "KindSayings$Walk" ∈ Gd := Gd_1 6 rfl rfl
set_option maxRecDepth 8000 in
theorem w_72 : Cond.initialized "KindSayings$Proof" ∈ Gd := Gd_1 7 rfl rfl
set_option maxRecDepth 8000 in
theorem w_73 : Cond.initialized "KindSayingsModel" ∈ Gd := Gd_1 8 rfl rfl
set_option maxRecDepth 8000 in
theorem w_74 : Cond.initialized "java/lang/Math" ∈ Gd := Gd_1 9 rfl rfl
set_option maxRecDepth 8000 in
theorem w_75 : Cond.initialized "java/lang/Integer" ∈ Gd := Gd_1 10 rfl rfl
set_option maxRecDepth 8000 in
theorem w_76 : Cond.initialized "java/lang/Long" ∈ Gd := Gd_1 11 rfl rfl
set_option maxRecDepth 8000 in
theorem w_77 : Cond.classLink "KindSayingsLaw" 7 "KindSayings" ∈ Gd := Gd_1 12 rfl rfl
set_option maxRecDepth 8000 in
theorem w_78 : Cond.instantiable "KindSayings" 8 ∈ Gd := Gd_1 13 rfl rfl
set_option maxRecDepth 8000 in
theorem w_79 : Cond.methodLink "KindSayingsLaw" 9 (⟨"KindSayings", "<init>", "()V"⟩) ∈ Gd := Gd_1 14 rfl rfl
set_option maxRecDepth 8000 in
theorem w_80 : Cond.instanceMethod (⟨"KindSayings", "<init>", "()V"⟩) ∈ Gd := Gd_1 15 rfl rfl
set_option maxRecDepth 8000 in
theorem w_81 : Cond.code (⟨"KindSayings", "<init>", "()V"⟩) prog_1_method_1_code 2 none ∈ Gd := Gd_1 16 rfl rfl
set_option maxRecDepth 8000 in
theorem w_82 : Cond.methodLink "KindSayings" 3 (⟨"java/lang/Object", "<init>", "()V"⟩) ∈ Gd := Gd_1 17 rfl rfl
set_option maxRecDepth 8000 in
theorem w_83 : Cond.instanceMethod (⟨"java/lang/Object", "<init>", "()V"⟩) ∈ Gd := Gd_1 18 rfl rfl
set_option maxRecDepth 8000 in
theorem w_84 : Cond.code (⟨"java/lang/Object", "<init>", "()V"⟩) object_method_1_code 1 none ∈ Gd := Gd_1 19 rfl rfl
set_option maxRecDepth 8000 in
theorem w_85 : Cond.classLink "KindSayings" 9 "KindSayings$Saying" ∈ Gd := Gd_1 20 rfl rfl
set_option maxRecDepth 8000 in
theorem w_87 : Cond.classLink "KindSayings" 19 "KindSayings$Reader" ∈ Gd := Gd_1 22 rfl rfl
set_option maxRecDepth 8000 in
theorem w_88 : Cond.instantiable "KindSayings$Reader" 6 ∈ Gd := Gd_1 23 rfl rfl
set_option maxRecDepth 8000 in
theorem w_90 : Cond.instanceMethod (⟨"KindSayings$Reader", "<init>", "()V"⟩) ∈ Gd := Gd_1 25 rfl rfl
set_option maxRecDepth 8000 in
theorem w_91 : Cond.code (⟨"KindSayings$Reader", "<init>", "()V"⟩) prog_4_method_1_code 1 none ∈ Gd := Gd_1 26 rfl rfl
set_option maxRecDepth 8000 in
theorem w_92 : Cond.methodLink "KindSayings$Reader" 3 (⟨"java/lang/Object", "<init>", "()V"⟩) ∈ Gd := Gd_1 27 rfl rfl
set_option maxRecDepth 8000 in
theorem w_93 : Cond.classLink "KindSayings$Reader" 9 "KindSayings$Tokens" ∈ Gd := Gd_1 28 rfl rfl
set_option maxRecDepth 8000 in
theorem w_94 : Cond.instantiable "KindSayings$Tokens" 7 ∈ Gd := Gd_1 29 rfl rfl
set_option maxRecDepth 8000 in
theorem w_96 : Cond.instanceMethod (⟨"KindSayings$Tokens", "<init>", "()V"⟩) ∈ Gd := Gd_1 31 rfl rfl
set_option maxRecDepth 8000 in
theorem w_97 : Cond.code (⟨"KindSayings$Tokens", "<init>", "()V"⟩) prog_6_method_1_code 1 none ∈ Gd := Gd_1 32 rfl rfl
set_option maxRecDepth 8000 in
theorem w_98 : Cond.methodLink "KindSayings$Tokens" 3 (⟨"java/lang/Object", "<init>", "()V"⟩) ∈ Gd := Gd_1 33 rfl rfl
set_option maxRecDepth 8000 in
theorem w_99 : Cond.fieldLink "KindSayings$Tokens" 9 "KindSayings$Tokens" "text" "[C" ∈ Gd := Gd_1 34 rfl rfl
set_option maxRecDepth 8000 in
theorem w_100 : Cond.fieldLink "KindSayings$Tokens" 15 "KindSayings$Tokens" "length" "I" ∈ Gd := Gd_1 35 rfl rfl
set_option maxRecDepth 8000 in
theorem w_101 : Cond.fieldLink "KindSayings" 91 "KindSayings$Tokens" "length" "I" ∈ Gd := Gd_1 36 rfl rfl
set_option maxRecDepth 8000 in
theorem w_102 : Cond.fieldLink "KindSayings$Reader" 65 "KindSayings$Tokens" "token" "I" ∈ Gd := Gd_1 37 rfl rfl
set_option maxRecDepth 8000 in
theorem w_103 : Cond.fieldLink "KindSayings$Tokens" 40 "KindSayings$Tokens" "token" "I" ∈ Gd := Gd_1 38 rfl rfl
set_option maxRecDepth 8000 in
theorem w_104 : Cond.fieldLink "KindSayings$Reader" 68 "KindSayings$Tokens" "value" "I" ∈ Gd := Gd_1 39 rfl rfl
set_option maxRecDepth 8000 in
theorem w_105 : Cond.fieldLink "KindSayings$Tokens" 37 "KindSayings$Tokens" "value" "I" ∈ Gd := Gd_1 40 rfl rfl
set_option maxRecDepth 8000 in
theorem w_106 : Cond.fieldLink "KindSayings$Tokens" 34 "KindSayings$Tokens" "start" "I" ∈ Gd := Gd_1 41 rfl rfl
set_option maxRecDepth 8000 in
theorem w_107 : Cond.fieldLink "KindSayings$Reader" 113 "KindSayings$Tokens" "start" "I" ∈ Gd := Gd_1 42 rfl rfl
set_option maxRecDepth 8000 in
theorem w_108 : Cond.fieldLink "KindSayings$Tokens" 24 "KindSayings$Tokens" "passed" "I" ∈ Gd := Gd_1 43 rfl rfl
set_option maxRecDepth 8000 in
theorem w_109 : Cond.fieldLink "KindSayings$Reader" 90 "KindSayings$Tokens" "passed" "I" ∈ Gd := Gd_1 44 rfl rfl
set_option maxRecDepth 8000 in
theorem w_110 : Cond.fieldLink "KindSayings$Tokens" 21 "KindSayings$Tokens" "end" "I" ∈ Gd := Gd_1 45 rfl rfl
set_option maxRecDepth 8000 in
theorem w_126 : Cond.arrayClass FieldType.int ∈ Gd := Gd_1 61 rfl rfl
set_option maxRecDepth 8000 in
theorem w_127 : Cond.arrayClass FieldType.char ∈ Gd := Gd_1 62 rfl rfl
set_option maxRecDepth 8000 in
theorem w_128 : Cond.classLink "KindSayings$Reader" 18 "KindSayings$Saying" ∈ Gd := Gd_1 63 rfl rfl
set_option maxRecDepth 8000 in
theorem w_129 : Cond.instantiable "KindSayings$Saying" 6 ∈ Gd := Gd_1 64 rfl rfl
set_option maxRecDepth 8000 in
theorem w_131 : Cond.instanceMethod (⟨"KindSayings$Saying", "<init>", "()V"⟩) ∈ Gd := Gd_1 66 rfl rfl
set_option maxRecDepth 8000 in
theorem w_132 : Cond.code (⟨"KindSayings$Saying", "<init>", "()V"⟩) prog_5_method_1_code 1 none ∈ Gd := Gd_1 67 rfl rfl
set_option maxRecDepth 8000 in
theorem w_133 : Cond.methodLink "KindSayings$Saying" 3 (⟨"java/lang/Object", "<init>", "()V"⟩) ∈ Gd := Gd_1 68 rfl rfl
set_option maxRecDepth 8000 in
theorem w_134 : Cond.fieldLink "KindSayings$Saying" 9 "KindSayings$Saying" "word" "I" ∈ Gd := Gd_1 69 rfl rfl
set_option maxRecDepth 8000 in
theorem w_135 : Cond.fieldLink "KindSayings$Reader" 78 "KindSayings$Saying" "word" "I" ∈ Gd := Gd_1 70 rfl rfl
set_option maxRecDepth 8000 in
theorem w_136 : Cond.fieldLink "KindSayings" 115 "KindSayings$Saying" "word" "I" ∈ Gd := Gd_1 71 rfl rfl
set_option maxRecDepth 8000 in
theorem w_137 : Cond.fieldLink "KindSayings$Saying" 15 "KindSayings$Saying" "number" "I" ∈ Gd := Gd_1 72 rfl rfl
set_option maxRecDepth 8000 in
theorem w_138 : Cond.fieldLink "KindSayings$Reader" 81 "KindSayings$Saying" "number" "I" ∈ Gd := Gd_1 73 rfl rfl
set_option maxRecDepth 8000 in
theorem w_139 : Cond.fieldLink "KindSayings" 124 "KindSayings$Saying" "number" "I" ∈ Gd := Gd_1 74 rfl rfl
set_option maxRecDepth 8000 in
theorem w_140 : Cond.fieldLink "KindSayings$Saying" 22 "KindSayings$Saying" "first" "I" ∈ Gd := Gd_1 75 rfl rfl
set_option maxRecDepth 8000 in
theorem w_141 : Cond.fieldLink "KindSayings$Reader" 45 "KindSayings$Saying" "first" "I" ∈ Gd := Gd_1 76 rfl rfl
set_option maxRecDepth 8000 in
theorem w_142 : Cond.fieldLink "KindSayings" 118 "KindSayings$Saying" "first" "I" ∈ Gd := Gd_1 77 rfl rfl
set_option maxRecDepth 8000 in
theorem w_143 : Cond.fieldLink "KindSayings$Saying" 25 "KindSayings$Saying" "second" "I" ∈ Gd := Gd_1 78 rfl rfl
set_option maxRecDepth 8000 in
theorem w_144 : Cond.fieldLink "KindSayings$Reader" 55 "KindSayings$Saying" "second" "I" ∈ Gd := Gd_1 79 rfl rfl
set_option maxRecDepth 8000 in
theorem w_145 : Cond.fieldLink "KindSayings" 121 "KindSayings$Saying" "second" "I" ∈ Gd := Gd_1 80 rfl rfl
set_option maxRecDepth 8000 in
theorem w_146 : Cond.fieldLink "KindSayings$Saying" 32 "KindSayings$Saying" "fact" "I" ∈ Gd := Gd_1 81 rfl rfl
set_option maxRecDepth 8000 in
theorem w_147 : Cond.fieldLink "KindSayings$Reader" 62 "KindSayings$Saying" "fact" "I" ∈ Gd := Gd_1 82 rfl rfl
set_option maxRecDepth 8000 in
theorem w_148 : Cond.fieldLink "KindSayings" 131 "KindSayings$Saying" "fact" "I" ∈ Gd := Gd_1 83 rfl rfl
set_option maxRecDepth 8000 in
theorem w_149 : Cond.fieldLink "KindSayings$Saying" 35 "KindSayings$Saying" "turned" "Z" ∈ Gd := Gd_1 84 rfl rfl
set_option maxRecDepth 8000 in
theorem w_150 : Cond.fieldLink "KindSayings$Reader" 71 "KindSayings$Saying" "turned" "Z" ∈ Gd := Gd_1 85 rfl rfl
set_option maxRecDepth 8000 in
theorem w_151 : Cond.fieldLink "KindSayings" 127 "KindSayings$Saying" "turned" "Z" ∈ Gd := Gd_1 86 rfl rfl
set_option maxRecDepth 8000 in
theorem w_165 : Cond.fieldLink "KindSayings$Reader" 12 "KindSayings$Reader" "tokens" "LKindSayings$Tokens;" ∈ Gd := Gd_1 100 rfl rfl
set_option maxRecDepth 8000 in
theorem w_166 : Cond.fieldLink "KindSayings" 87 "KindSayings$Reader" "tokens" "LKindSayings$Tokens;" ∈ Gd := Gd_1 101 rfl rfl
set_option maxRecDepth 8000 in
theorem w_167 : Cond.fieldLink "KindSayings$Reader" 21 "KindSayings$Reader" "draft" "LKindSayings$Saying;" ∈ Gd := Gd_1 102 rfl rfl
set_option maxRecDepth 8000 in
theorem w_168 : Cond.fieldLink "KindSayings" 104 "KindSayings$Reader" "draft" "LKindSayings$Saying;" ∈ Gd := Gd_1 103 rfl rfl
set_option maxRecDepth 8000 in
theorem w_169 : Cond.fieldLink "KindSayings$Reader" 25 "KindSayings$Reader" "kinds" "I" ∈ Gd := Gd_1 104 rfl rfl
set_option maxRecDepth 8000 in
theorem w_170 : Cond.fieldLink "KindSayings$Reader" 29 "KindSayings$Reader" "parts" "I" ∈ Gd := Gd_1 105 rfl rfl
set_option maxRecDepth 8000 in
theorem w_171 : Cond.fieldLink "KindSayings$Reader" 32 "KindSayings$Reader" "fault" "I" ∈ Gd := Gd_1 106 rfl rfl
set_option maxRecDepth 8000 in
theorem w_172 : Cond.fieldLink "KindSayings$Reader" 48 "KindSayings$Reader" "loneKind" "I" ∈ Gd := Gd_1 107 rfl rfl
set_option maxRecDepth 8000 in
theorem w_186 : Cond.classLink "KindSayings" 26 "KindSayings$Heaps" ∈ Gd := Gd_1 121 rfl rfl
set_option maxRecDepth 8000 in
theorem w_187 : Cond.instantiable "KindSayings$Heaps" 10 ∈ Gd := Gd_1 122 rfl rfl
set_option maxRecDepth 8000 in
theorem w_188 : Cond.methodLink "KindSayings" 28 (⟨"KindSayings$Heaps", "<init>", "()V"⟩) ∈ Gd := Gd_1 123 rfl rfl
set_option maxRecDepth 8000 in
theorem w_189 : Cond.instanceMethod (⟨"KindSayings$Heaps", "<init>", "()V"⟩) ∈ Gd := Gd_1 124 rfl rfl
set_option maxRecDepth 8000 in
theorem w_190 : Cond.code (⟨"KindSayings$Heaps", "<init>", "()V"⟩) prog_2_method_1_code 2 none ∈ Gd := Gd_1 125 rfl rfl
set_option maxRecDepth 8000 in
theorem w_191 : Cond.methodLink "KindSayings$Heaps" 3 (⟨"java/lang/Object", "<init>", "()V"⟩) ∈ Gd := Gd_1 126 rfl rfl
set_option maxRecDepth 8000 in
theorem w_192 : Cond.classLink "KindSayings$Heaps" 9 "KindSayings$Walk" ∈ Gd := Gd_1 127 rfl rfl
set_option maxRecDepth 8000 in
theorem w_193 : Cond.instantiable "KindSayings$Walk" 6 ∈ Gd := Gd_1 128 rfl rfl
set_option maxRecDepth 8000 in
theorem w_195 : Cond.instanceMethod (⟨"KindSayings$Walk", "<init>", "()V"⟩) ∈ Gd := Gd_1 130 rfl rfl
set_option maxRecDepth 8000 in
theorem w_196 : Cond.code (⟨"KindSayings$Walk", "<init>", "()V"⟩) prog_7_method_1_code 1 none ∈ Gd := Gd_1 131 rfl rfl
set_option maxRecDepth 8000 in
theorem w_197 : Cond.methodLink "KindSayings$Walk" 3 (⟨"java/lang/Object", "<init>", "()V"⟩) ∈ Gd := Gd_1 132 rfl rfl
set_option maxRecDepth 8000 in
theorem w_198 : Cond.fieldLink "KindSayings$Walk" 9 "KindSayings$Walk" "sortOf" "[I" ∈ Gd := Gd_1 133 rfl rfl
set_option maxRecDepth 8000 in
theorem w_199 : Cond.fieldLink "KindSayings$Walk" 15 "KindSayings$Walk" "weights" "[I" ∈ Gd := Gd_1 134 rfl rfl
set_option maxRecDepth 8000 in
theorem w_200 : Cond.fieldLink "KindSayings$Walk" 18 "KindSayings$Walk" "sums" "[I" ∈ Gd := Gd_1 135 rfl rfl
set_option maxRecDepth 8000 in
theorem w_201 : Cond.fieldLink "KindSayings$Walk" 33 "KindSayings$Walk" "sorts" "I" ∈ Gd := Gd_1 136 rfl rfl
set_option maxRecDepth 8000 in
theorem w_202 : Cond.fieldLink "KindSayings$Walk" 37 "KindSayings$Walk" "most" "I" ∈ Gd := Gd_1 137 rfl rfl
set_option maxRecDepth 8000 in
theorem w_203 : Cond.fieldLink "KindSayings$Walk" 40 "KindSayings$Walk" "things" "I" ∈ Gd := Gd_1 138 rfl rfl
set_option maxRecDepth 8000 in
theorem w_217 : Cond.methodLink "KindSayings$Heaps" 36 (⟨"KindSayings$Heaps", "witnessOf", "(I)J"⟩) ∈ Gd := Gd_1 152 rfl rfl
set_option maxRecDepth 8000 in
theorem w_218 : Cond.static (⟨"KindSayings$Heaps", "witnessOf", "(I)J"⟩) ∈ Gd := Gd_1 153 rfl rfl
set_option maxRecDepth 8000 in
theorem w_219 : Cond.code (⟨"KindSayings$Heaps", "witnessOf", "(I)J"⟩) prog_2_method_2_code 5 (Option.some FieldType.long) ∈ Gd := Gd_1 154 rfl rfl
set_option maxRecDepth 8000 in
theorem w_221 : Cond.static (⟨"KindSayings", "has", "(II)Z"⟩) ∈ Gd := Gd_1 156 rfl rfl
set_option maxRecDepth 8000 in
theorem w_222 : Cond.code (⟨"KindSayings", "has", "(II)Z"⟩) prog_1_method_39_code 2 (Option.some FieldType.boolean) ∈ Gd := Gd_1 157 rfl rfl
set_option maxRecDepth 8000 in
theorem w_224 : Cond.static (⟨"KindSayings", "factNumber", "(III)I"⟩) ∈ Gd := Gd_1 159 rfl rfl
set_option maxRecDepth 8000 in
theorem w_225 : Cond.code (⟨"KindSayings", "factNumber", "(III)I"⟩) prog_1_method_41_code 3 (Option.some FieldType.int) ∈ Gd := Gd_1 160 rfl rfl
set_option maxRecDepth 8000 in
theorem w_226 : Cond.fieldLink "KindSayings$Heaps" 12 "KindSayings$Heaps" "walk" "LKindSayings$Walk;" ∈ Gd := Gd_1 161 rfl rfl
set_option maxRecDepth 8000 in
theorem w_227 : Cond.fieldLink "KindSayings$Heaps" 18 "KindSayings$Heaps" "many" "[I" ∈ Gd := Gd_1 162 rfl rfl
set_option maxRecDepth 8000 in
theorem w_228 : Cond.fieldLink "KindSayings$Heaps" 22 "KindSayings$Heaps" "firsts" "[I" ∈ Gd := Gd_1 163 rfl rfl
set_option maxRecDepth 8000 in
theorem w_229 : Cond.fieldLink "KindSayings$Heaps" 25 "KindSayings$Heaps" "together" "[I" ∈ Gd := Gd_1 164 rfl rfl
set_option maxRecDepth 8000 in
theorem w_230 : Cond.fieldLink "KindSayings$Heaps" 28 "KindSayings$Heaps" "witness" "[J" ∈ Gd := Gd_1 165 rfl rfl
set_option maxRecDepth 8000 in
theorem w_231 : Cond.fieldLink "KindSayings$Heaps" 32 "KindSayings$Heaps" "marks" "[C" ∈ Gd := Gd_1 166 rfl rfl
set_option maxRecDepth 8000 in
theorem w_232 : Cond.fieldLink "KindSayings$Heaps" 48 "KindSayings$Heaps" "sorts" "I" ∈ Gd := Gd_1 167 rfl rfl
set_option maxRecDepth 8000 in
theorem w_233 : Cond.fieldLink "KindSayings$Heaps" 52 "KindSayings$Heaps" "most" "I" ∈ Gd := Gd_1 168 rfl rfl
set_option maxRecDepth 8000 in
theorem w_234 : Cond.fieldLink "KindSayings$Heaps" 59 "KindSayings$Heaps" "total" "I" ∈ Gd := Gd_1 169 rfl rfl
set_option maxRecDepth 8000 in
theorem w_235 : Cond.fieldLink "KindSayings" 62 "KindSayings$Heaps" "total" "I" ∈ Gd := Gd_1 170 rfl rfl
set_option maxRecDepth 8000 in
theorem w_236 : Cond.fieldLink "KindSayings$Heaps" 62 "KindSayings$Heaps" "stale" "I" ∈ Gd := Gd_1 171 rfl rfl
set_option maxRecDepth 8000 in
theorem w_237 : Cond.fieldLink "KindSayings" 112 "KindSayings$Heaps" "stale" "I" ∈ Gd := Gd_1 172 rfl rfl
set_option maxRecDepth 8000 in
theorem w_259 : Cond.arrayClass FieldType.long ∈ Gd := Gd_1 194 rfl rfl
set_option maxRecDepth 8000 in
theorem w_260 : Cond.classLink "KindSayings" 33 "KindSayings$Proof" ∈ Gd := Gd_1 195 rfl rfl
set_option maxRecDepth 8000 in
theorem w_261 : Cond.instantiable "KindSayings$Proof" 8 ∈ Gd := Gd_1 196 rfl rfl
set_option maxRecDepth 8000 in
theorem w_263 : Cond.instanceMethod (⟨"KindSayings$Proof", "<init>", "()V"⟩) ∈ Gd := Gd_1 198 rfl rfl
set_option maxRecDepth 8000 in
theorem w_264 : Cond.code (⟨"KindSayings$Proof", "<init>", "()V"⟩) prog_3_method_1_code 1 none ∈ Gd := Gd_1 199 rfl rfl
set_option maxRecDepth 8000 in
theorem w_265 : Cond.methodLink "KindSayings$Proof" 3 (⟨"java/lang/Object", "<init>", "()V"⟩) ∈ Gd := Gd_1 200 rfl rfl
set_option maxRecDepth 8000 in
theorem w_266 : Cond.fieldLink "KindSayings$Proof" 9 "KindSayings$Proof" "roundOf" "[I" ∈ Gd := Gd_1 201 rfl rfl
set_option maxRecDepth 8000 in
theorem w_267 : Cond.fieldLink "KindSayings$Proof" 15 "KindSayings$Proof" "told" "J" ∈ Gd := Gd_1 202 rfl rfl
set_option maxRecDepth 8000 in
theorem w_268 : Cond.fieldLink "KindSayings$Proof" 44 "KindSayings$Proof" "ahead" "J" ∈ Gd := Gd_1 203 rfl rfl
set_option maxRecDepth 8000 in
theorem w_269 : Cond.fieldLink "KindSayings$Proof" 19 "KindSayings$Proof" "moods" "I" ∈ Gd := Gd_1 204 rfl rfl
set_option maxRecDepth 8000 in
theorem w_270 : Cond.fieldLink "KindSayings$Proof" 23 "KindSayings$Proof" "kinds" "I" ∈ Gd := Gd_1 205 rfl rfl
set_option maxRecDepth 8000 in
theorem w_271 : Cond.fieldLink "KindSayings$Proof" 60 "KindSayings$Proof" "firstFact" "I" ∈ Gd := Gd_1 206 rfl rfl
set_option maxRecDepth 8000 in
theorem w_272 : Cond.fieldLink "KindSayings$Proof" 63 "KindSayings$Proof" "secondFact" "I" ∈ Gd := Gd_1 207 rfl rfl
set_option maxRecDepth 8000 in
theorem w_273 : Cond.fieldLink "KindSayings$Proof" 26 "KindSayings$Proof" "lastRound" "I" ∈ Gd := Gd_1 208 rfl rfl
set_option maxRecDepth 8000 in
theorem w_274 : Cond.fieldLink "KindSayings" 204 "KindSayings$Proof" "lastRound" "I" ∈ Gd := Gd_1 209 rfl rfl
set_option maxRecDepth 8000 in
theorem w_293 : Cond.methodLink "KindSayings" 51 (⟨"KindSayings", "startOver", "()V"⟩) ∈ Gd := Gd_1 228 rfl rfl
set_option maxRecDepth 8000 in
theorem w_295 : Cond.instanceMethod (⟨"KindSayings", "startOver", "()V"⟩) ∈ Gd := Gd_1 230 rfl rfl
set_option maxRecDepth 8000 in
theorem w_296 : Cond.code (⟨"KindSayings", "startOver", "()V"⟩) prog_1_method_26_code 3 none ∈ Gd := Gd_1 231 rfl rfl
set_option maxRecDepth 8000 in
theorem w_297 : Cond.methodLink "KindSayings" 223 (⟨"KindSayings$Saying", "becomeFirst", "(I)V"⟩) ∈ Gd := Gd_1 232 rfl rfl
set_option maxRecDepth 8000 in
theorem w_298 : Cond.instanceMethod (⟨"KindSayings$Saying", "becomeFirst", "(I)V"⟩) ∈ Gd := Gd_1 233 rfl rfl
set_option maxRecDepth 8000 in
theorem w_299 : Cond.selects "KindSayings$Saying" (⟨"KindSayings$Saying", "becomeFirst", "(I)V"⟩) (⟨"KindSayings$Saying", "becomeFirst", "(I)V"⟩) ∈ Gd := Gd_1 234 rfl rfl
set_option maxRecDepth 8000 in
theorem w_300 : Cond.code (⟨"KindSayings$Saying", "becomeFirst", "(I)V"⟩) prog_5_method_2_code 2 none ∈ Gd := Gd_1 235 rfl rfl
set_option maxRecDepth 8000 in
theorem w_302 : Cond.static (⟨"KindSayings", "sortsOfKind", "(II)I"⟩) ∈ Gd := Gd_1 237 rfl rfl
set_option maxRecDepth 8000 in
theorem w_303 : Cond.code (⟨"KindSayings", "sortsOfKind", "(II)I"⟩) prog_1_method_43_code 4 (Option.some FieldType.int) ∈ Gd := Gd_1 238 rfl rfl
set_option maxRecDepth 8000 in
theorem w_304 : Cond.methodLink "KindSayings" 158 (⟨"KindSayings", "has", "(II)Z"⟩) ∈ Gd := Gd_1 239 rfl rfl
set_option maxRecDepth 8000 in
theorem w_305 : Cond.methodLink "KindSayings" 238 (⟨"KindSayings", "everySort", "(I)I"⟩) ∈ Gd := Gd_2 0 rfl rfl
set_option maxRecDepth 8000 in
theorem w_306 : Cond.static (⟨"KindSayings", "everySort", "(I)I"⟩) ∈ Gd := Gd_2 1 rfl rfl
set_option maxRecDepth 8000 in
theorem w_307 : Cond.code (⟨"KindSayings", "everySort", "(I)I"⟩) prog_1_method_44_code 1 (Option.some FieldType.int) ∈ Gd := Gd_2 2 rfl rfl
set_option maxRecDepth 8000 in
theorem w_309 : Cond.methodLink "KindSayings" 54 (⟨"KindSayings", "sortCount", "()I"⟩) ∈ Gd := Gd_2 4 rfl rfl
set_option maxRecDepth 8000 in
theorem w_311 : Cond.instanceMethod (⟨"KindSayings", "sortCount", "()I"⟩) ∈ Gd := Gd_2 6 rfl rfl
set_option maxRecDepth 8000 in
theorem w_312 : Cond.code (⟨"KindSayings", "sortCount", "()I"⟩) prog_1_method_28_code 1 (Option.some FieldType.int) ∈ Gd := Gd_2 7 rfl rfl
set_option maxRecDepth 8000 in
theorem w_313 : Cond.methodLink "KindSayings" 58 (⟨"KindSayings$Heaps", "shape", "(II)V"⟩) ∈ Gd := Gd_2 8 rfl rfl
set_option maxRecDepth 8000 in
theorem w_314 : Cond.instanceMethod (⟨"KindSayings$Heaps", "shape", "(II)V"⟩) ∈ Gd := Gd_2 9 rfl rfl
set_option maxRecDepth 8000 in
theorem w_315 : Cond.selects "KindSayings$Heaps" (⟨"KindSayings$Heaps", "shape", "(II)V"⟩) (⟨"KindSayings$Heaps", "shape", "(II)V"⟩) ∈ Gd := Gd_2 10 rfl rfl
set_option maxRecDepth 8000 in
theorem w_316 : Cond.code (⟨"KindSayings$Heaps", "shape", "(II)V"⟩) prog_2_method_3_code 3 none ∈ Gd := Gd_2 11 rfl rfl
set_option maxRecDepth 8000 in
theorem w_317 : Cond.methodLink "KindSayings$Heaps" 55 (⟨"KindSayings$Heaps", "choose", "(II)I"⟩) ∈ Gd := Gd_2 12 rfl rfl
set_option maxRecDepth 8000 in
theorem w_318 : Cond.static (⟨"KindSayings$Heaps", "choose", "(II)I"⟩) ∈ Gd := Gd_2 13 rfl rfl
set_option maxRecDepth 8000 in
theorem w_319 : Cond.code (⟨"KindSayings$Heaps", "choose", "(II)I"⟩) prog_2_method_16_code 4 (Option.some FieldType.int) ∈ Gd := Gd_2 14 rfl rfl
set_option maxRecDepth 8000 in
theorem w_320 : Cond.fieldLink "KindSayings" 11 "KindSayings" "sayings" "[LKindSayings$Saying;" ∈ Gd := Gd_2 15 rfl rfl
set_option maxRecDepth 8000 in
theorem w_321 : Cond.fieldLink "KindSayings" 15 "KindSayings" "worldThings" "[I" ∈ Gd := Gd_2 16 rfl rfl
set_option maxRecDepth 8000 in
theorem w_322 : Cond.fieldLink "KindSayings" 22 "KindSayings" "reader" "LKindSayings$Reader;" ∈ Gd := Gd_2 17 rfl rfl
set_option maxRecDepth 8000 in
theorem w_323 : Cond.fieldLink "KindSayings" 29 "KindSayings" "heapTable" "LKindSayings$Heaps;" ∈ Gd := Gd_2 18 rfl rfl
set_option maxRecDepth 8000 in
theorem w_324 : Cond.fieldLink "KindSayings" 36 "KindSayings" "proof" "LKindSayings$Proof;" ∈ Gd := Gd_2 19 rfl rfl
set_option maxRecDepth 8000 in
theorem w_325 : Cond.fieldLink "KindSayings" 40 "KindSayings" "kindCount" "I" ∈ Gd := Gd_2 20 rfl rfl
set_option maxRecDepth 8000 in
theorem w_326 : Cond.fieldLink "KindSayings" 44 "KindSayings" "mostThings" "I" ∈ Gd := Gd_2 21 rfl rfl
set_option maxRecDepth 8000 in
theorem w_327 : Cond.fieldLink "KindSayings" 47 "KindSayings" "moodBits" "I" ∈ Gd := Gd_2 22 rfl rfl
set_option maxRecDepth 8000 in
theorem w_345 : Cond.methodLink "KindSayingsLaw" 13 (⟨"KindSayings", "kinds", "(I)I"⟩) ∈ Gd := Gd_2 40 rfl rfl
set_option maxRecDepth 8000 in
theorem w_346 : Cond.instanceMethod (⟨"KindSayings", "kinds", "(I)I"⟩) ∈ Gd := Gd_2 41 rfl rfl
set_option maxRecDepth 8000 in
theorem w_347 : Cond.selects "KindSayings" (⟨"KindSayings", "kinds", "(I)I"⟩) (⟨"KindSayings", "kinds", "(I)I"⟩) ∈ Gd := Gd_2 42 rfl rfl
set_option maxRecDepth 8000 in
theorem w_348 : Cond.code (⟨"KindSayings", "kinds", "(I)I"⟩) prog_1_method_2_code 3 (Option.some FieldType.int) ∈ Gd := Gd_2 43 rfl rfl
set_option maxRecDepth 8000 in
theorem w_349 : Cond.methodLink "KindSayingsLaw" 18 (⟨"KindSayings", "most", "(I)I"⟩) ∈ Gd := Gd_2 44 rfl rfl
set_option maxRecDepth 8000 in
theorem w_350 : Cond.instanceMethod (⟨"KindSayings", "most", "(I)I"⟩) ∈ Gd := Gd_2 45 rfl rfl
set_option maxRecDepth 8000 in
theorem w_351 : Cond.selects "KindSayings" (⟨"KindSayings", "most", "(I)I"⟩) (⟨"KindSayings", "most", "(I)I"⟩) ∈ Gd := Gd_2 46 rfl rfl
set_option maxRecDepth 8000 in
theorem w_352 : Cond.code (⟨"KindSayings", "most", "(I)I"⟩) prog_1_method_3_code 3 (Option.some FieldType.int) ∈ Gd := Gd_2 47 rfl rfl
set_option maxRecDepth 8000 in
theorem w_353 : Cond.methodLink "KindSayingsLaw" 22 (⟨"KindSayings", "worlds", "()I"⟩) ∈ Gd := Gd_2 48 rfl rfl
set_option maxRecDepth 8000 in
theorem w_354 : Cond.instanceMethod (⟨"KindSayings", "worlds", "()I"⟩) ∈ Gd := Gd_2 49 rfl rfl
set_option maxRecDepth 8000 in
theorem w_355 : Cond.selects "KindSayings" (⟨"KindSayings", "worlds", "()I"⟩) (⟨"KindSayings", "worlds", "()I"⟩) ∈ Gd := Gd_2 50 rfl rfl
set_option maxRecDepth 8000 in
theorem w_356 : Cond.code (⟨"KindSayings", "worlds", "()I"⟩) prog_1_method_4_code 1 (Option.some FieldType.int) ∈ Gd := Gd_2 51 rfl rfl
set_option maxRecDepth 8000 in
theorem w_357 : Cond.methodLink "KindSayingsLaw" 27 (⟨"KindSayings", "put", "(II)I"⟩) ∈ Gd := Gd_2 52 rfl rfl
set_option maxRecDepth 8000 in
theorem w_358 : Cond.instanceMethod (⟨"KindSayings", "put", "(II)I"⟩) ∈ Gd := Gd_2 53 rfl rfl
set_option maxRecDepth 8000 in
theorem w_359 : Cond.selects "KindSayings" (⟨"KindSayings", "put", "(II)I"⟩) (⟨"KindSayings", "put", "(II)I"⟩) ∈ Gd := Gd_2 54 rfl rfl
set_option maxRecDepth 8000 in
theorem w_360 : Cond.code (⟨"KindSayings", "put", "(II)I"⟩) prog_1_method_5_code 4 (Option.some FieldType.int) ∈ Gd := Gd_2 55 rfl rfl
set_option maxRecDepth 8000 in
theorem w_361 : Cond.methodLink "KindSayings" 65 (⟨"KindSayings", "isSort", "(I)Z"⟩) ∈ Gd := Gd_2 56 rfl rfl
set_option maxRecDepth 8000 in
theorem w_363 : Cond.instanceMethod (⟨"KindSayings", "isSort", "(I)Z"⟩) ∈ Gd := Gd_2 58 rfl rfl
set_option maxRecDepth 8000 in
theorem w_364 : Cond.code (⟨"KindSayings", "isSort", "(I)Z"⟩) prog_1_method_29_code 2 (Option.some FieldType.boolean) ∈ Gd := Gd_2 59 rfl rfl
set_option maxRecDepth 8000 in
theorem w_365 : Cond.methodLink "KindSayings" 69 (⟨"KindSayings", "thingsAtHand", "()I"⟩) ∈ Gd := Gd_2 60 rfl rfl
set_option maxRecDepth 8000 in
theorem w_367 : Cond.instanceMethod (⟨"KindSayings", "thingsAtHand", "()I"⟩) ∈ Gd := Gd_2 62 rfl rfl
set_option maxRecDepth 8000 in
theorem w_368 : Cond.code (⟨"KindSayings", "thingsAtHand", "()I"⟩) prog_1_method_32_code 3 (Option.some FieldType.int) ∈ Gd := Gd_2 63 rfl rfl
set_option maxRecDepth 8000 in
theorem w_369 : Cond.methodLink "KindSayingsLaw" 32 (⟨"KindSayings", "holds", "(I)I"⟩) ∈ Gd := Gd_2 64 rfl rfl
set_option maxRecDepth 8000 in
theorem w_370 : Cond.instanceMethod (⟨"KindSayings", "holds", "(I)I"⟩) ∈ Gd := Gd_2 65 rfl rfl
set_option maxRecDepth 8000 in
theorem w_371 : Cond.selects "KindSayings" (⟨"KindSayings", "holds", "(I)I"⟩) (⟨"KindSayings", "holds", "(I)I"⟩) ∈ Gd := Gd_2 66 rfl rfl
set_option maxRecDepth 8000 in
theorem w_372 : Cond.code (⟨"KindSayings", "holds", "(I)I"⟩) prog_1_method_6_code 4 (Option.some FieldType.int) ∈ Gd := Gd_2 67 rfl rfl
set_option maxRecDepth 8000 in
theorem w_373 : Cond.methodLink "KindSayings" 72 (⟨"KindSayings", "sayingAt", "(I)LKindSayings$Saying;"⟩) ∈ Gd := Gd_2 68 rfl rfl
set_option maxRecDepth 8000 in
theorem w_375 : Cond.instanceMethod (⟨"KindSayings", "sayingAt", "(I)LKindSayings$Saying;"⟩) ∈ Gd := Gd_2 70 rfl rfl
set_option maxRecDepth 8000 in
theorem w_376 : Cond.code (⟨"KindSayings", "sayingAt", "(I)LKindSayings$Saying;"⟩) prog_1_method_27_code 2 (Option.some (FieldType.object "KindSayings$Saying")) ∈ Gd := Gd_2 71 rfl rfl
set_option maxRecDepth 8000 in
theorem w_377 : Cond.methodLink "KindSayings" 76 (⟨"KindSayings", "sumAtHand", "(LKindSayings$Saying;)I"⟩) ∈ Gd := Gd_2 72 rfl rfl
set_option maxRecDepth 8000 in
theorem w_379 : Cond.instanceMethod (⟨"KindSayings", "sumAtHand", "(LKindSayings$Saying;)I"⟩) ∈ Gd := Gd_2 74 rfl rfl
set_option maxRecDepth 8000 in
theorem w_380 : Cond.code (⟨"KindSayings", "sumAtHand", "(LKindSayings$Saying;)I"⟩) prog_1_method_33_code 4 (Option.some FieldType.int) ∈ Gd := Gd_2 75 rfl rfl
set_option maxRecDepth 8000 in
theorem w_381 : Cond.methodLink "KindSayings" 226 (⟨"KindSayings$Saying", "weight", "(I)I"⟩) ∈ Gd := Gd_2 76 rfl rfl
set_option maxRecDepth 8000 in
theorem w_382 : Cond.instanceMethod (⟨"KindSayings$Saying", "weight", "(I)I"⟩) ∈ Gd := Gd_2 77 rfl rfl
set_option maxRecDepth 8000 in
theorem w_383 : Cond.selects "KindSayings$Saying" (⟨"KindSayings$Saying", "weight", "(I)I"⟩) (⟨"KindSayings$Saying", "weight", "(I)I"⟩) ∈ Gd := Gd_2 78 rfl rfl
set_option maxRecDepth 8000 in
theorem w_384 : Cond.code (⟨"KindSayings$Saying", "weight", "(I)I"⟩) prog_5_method_5_code 4 (Option.some FieldType.int) ∈ Gd := Gd_2 79 rfl rfl
set_option maxRecDepth 8000 in
theorem w_385 : Cond.methodLink "KindSayings" 80 (⟨"KindSayings$Saying", "isTrue", "(I)Z"⟩) ∈ Gd := Gd_2 80 rfl rfl
set_option maxRecDepth 8000 in
theorem w_386 : Cond.instanceMethod (⟨"KindSayings$Saying", "isTrue", "(I)Z"⟩) ∈ Gd := Gd_2 81 rfl rfl
set_option maxRecDepth 8000 in
theorem w_387 : Cond.selects "KindSayings$Saying" (⟨"KindSayings$Saying", "isTrue", "(I)Z"⟩) (⟨"KindSayings$Saying", "isTrue", "(I)Z"⟩) ∈ Gd := Gd_2 82 rfl rfl
set_option maxRecDepth 8000 in
theorem w_388 : Cond.code (⟨"KindSayings$Saying", "isTrue", "(I)Z"⟩) prog_5_method_6_code 2 (Option.some FieldType.boolean) ∈ Gd := Gd_2 83 rfl rfl
set_option maxRecDepth 8000 in
theorem w_389 : Cond.methodLink "KindSayings$Saying" 39 (⟨"KindSayings$Saying", "isTrueUnturned", "(III)Z"⟩) ∈ Gd := Gd_2 84 rfl rfl
set_option maxRecDepth 8000 in
theorem w_391 : Cond.instanceMethod (⟨"KindSayings$Saying", "isTrueUnturned", "(III)Z"⟩) ∈ Gd := Gd_2 86 rfl rfl
set_option maxRecDepth 8000 in
theorem w_392 : Cond.code (⟨"KindSayings$Saying", "isTrueUnturned", "(III)Z"⟩) prog_5_method_7_code 4 (Option.some FieldType.boolean) ∈ Gd := Gd_2 87 rfl rfl
set_option maxRecDepth 8000 in
theorem w_393 : Cond.methodLink "KindSayings" 83 (⟨"KindSayings", "bit", "(Z)I"⟩) ∈ Gd := Gd_2 88 rfl rfl
set_option maxRecDepth 8000 in
theorem w_394 : Cond.static (⟨"KindSayings", "bit", "(Z)I"⟩) ∈ Gd := Gd_2 89 rfl rfl
set_option maxRecDepth 8000 in
theorem w_395 : Cond.code (⟨"KindSayings", "bit", "(Z)I"⟩) prog_1_method_40_code 1 (Option.some FieldType.int) ∈ Gd := Gd_2 90 rfl rfl
set_option maxRecDepth 8000 in
theorem w_396 : Cond.methodLink "KindSayingsLaw" 36 (⟨"KindSayings", "size", "(II)I"⟩) ∈ Gd := Gd_2 91 rfl rfl
set_option maxRecDepth 8000 in
theorem w_397 : Cond.instanceMethod (⟨"KindSayings", "size", "(II)I"⟩) ∈ Gd := Gd_2 92 rfl rfl
set_option maxRecDepth 8000 in
theorem w_398 : Cond.selects "KindSayings" (⟨"KindSayings", "size", "(II)I"⟩) (⟨"KindSayings", "size", "(II)I"⟩) ∈ Gd := Gd_2 93 rfl rfl
set_option maxRecDepth 8000 in
theorem w_399 : Cond.code (⟨"KindSayings", "size", "(II)I"⟩) prog_1_method_7_code 4 (Option.some FieldType.int) ∈ Gd := Gd_2 94 rfl rfl
set_option maxRecDepth 8000 in
theorem w_400 : Cond.methodLink "KindSayingsLaw" 42 (⟨"KindSayings", "type", "(JI)I"⟩) ∈ Gd := Gd_2 95 rfl rfl
set_option maxRecDepth 8000 in
theorem w_401 : Cond.instanceMethod (⟨"KindSayings", "type", "(JI)I"⟩) ∈ Gd := Gd_2 96 rfl rfl
set_option maxRecDepth 8000 in
theorem w_402 : Cond.selects "KindSayings" (⟨"KindSayings", "type", "(JI)I"⟩) (⟨"KindSayings", "type", "(JI)I"⟩) ∈ Gd := Gd_2 97 rfl rfl
set_option maxRecDepth 8000 in
theorem w_403 : Cond.code (⟨"KindSayings", "type", "(JI)I"⟩) prog_1_method_8_code 5 (Option.some FieldType.int) ∈ Gd := Gd_2 98 rfl rfl
set_option maxRecDepth 8000 in
theorem w_404 : Cond.methodLink "KindSayings" 96 (⟨"KindSayings$Tokens", "append", "(JI)V"⟩) ∈ Gd := Gd_2 99 rfl rfl
set_option maxRecDepth 8000 in
theorem w_405 : Cond.instanceMethod (⟨"KindSayings$Tokens", "append", "(JI)V"⟩) ∈ Gd := Gd_2 100 rfl rfl
set_option maxRecDepth 8000 in
theorem w_406 : Cond.selects "KindSayings$Tokens" (⟨"KindSayings$Tokens", "append", "(JI)V"⟩) (⟨"KindSayings$Tokens", "append", "(JI)V"⟩) ∈ Gd := Gd_2 101 rfl rfl
set_option maxRecDepth 8000 in
theorem w_407 : Cond.code (⟨"KindSayings$Tokens", "append", "(JI)V"⟩) prog_6_method_2_code 5 none ∈ Gd := Gd_2 102 rfl rfl
set_option maxRecDepth 8000 in
theorem w_408 : Cond.constantLong "KindSayings$Tokens" 19 (255 : Int64) ∈ Gd := Gd_2 103 rfl rfl
set_option maxRecDepth 8000 in
theorem w_409 : Cond.methodLink "KindSayingsLaw" 47 (⟨"KindSayings", "clear", "()I"⟩) ∈ Gd := Gd_2 104 rfl rfl
set_option maxRecDepth 8000 in
theorem w_410 : Cond.instanceMethod (⟨"KindSayings", "clear", "()I"⟩) ∈ Gd := Gd_2 105 rfl rfl
set_option maxRecDepth 8000 in
theorem w_411 : Cond.selects "KindSayings" (⟨"KindSayings", "clear", "()I"⟩) (⟨"KindSayings", "clear", "()I"⟩) ∈ Gd := Gd_2 106 rfl rfl
set_option maxRecDepth 8000 in
theorem w_412 : Cond.code (⟨"KindSayings", "clear", "()I"⟩) prog_1_method_9_code 2 (Option.some FieldType.int) ∈ Gd := Gd_2 107 rfl rfl
set_option maxRecDepth 8000 in
theorem w_413 : Cond.methodLink "KindSayingsLaw" 51 (⟨"KindSayings", "read", "(I)I"⟩) ∈ Gd := Gd_2 108 rfl rfl
set_option maxRecDepth 8000 in
theorem w_414 : Cond.instanceMethod (⟨"KindSayings", "read", "(I)I"⟩) ∈ Gd := Gd_2 109 rfl rfl
set_option maxRecDepth 8000 in
theorem w_415 : Cond.selects "KindSayings" (⟨"KindSayings", "read", "(I)I"⟩) (⟨"KindSayings", "read", "(I)I"⟩) ∈ Gd := Gd_2 110 rfl rfl
set_option maxRecDepth 8000 in
theorem w_416 : Cond.code (⟨"KindSayings", "read", "(I)I"⟩) prog_1_method_10_code 4 (Option.some FieldType.int) ∈ Gd := Gd_2 111 rfl rfl
set_option maxRecDepth 8000 in
theorem w_417 : Cond.methodLink "KindSayings" 100 (⟨"KindSayings$Reader", "readDraft", "(I)I"⟩) ∈ Gd := Gd_2 112 rfl rfl
set_option maxRecDepth 8000 in
theorem w_418 : Cond.instanceMethod (⟨"KindSayings$Reader", "readDraft", "(I)I"⟩) ∈ Gd := Gd_2 113 rfl rfl
set_option maxRecDepth 8000 in
theorem w_419 : Cond.selects "KindSayings$Reader" (⟨"KindSayings$Reader", "readDraft", "(I)I"⟩) (⟨"KindSayings$Reader", "readDraft", "(I)I"⟩) ∈ Gd := Gd_2 114 rfl rfl
set_option maxRecDepth 8000 in
theorem w_420 : Cond.code (⟨"KindSayings$Reader", "readDraft", "(I)I"⟩) prog_4_method_2_code 4 (Option.some FieldType.int) ∈ Gd := Gd_2 115 rfl rfl
set_option maxRecDepth 8000 in
theorem w_421 : Cond.methodLink "KindSayings$Reader" 35 (⟨"KindSayings$Tokens", "begin", "()V"⟩) ∈ Gd := Gd_2 116 rfl rfl
set_option maxRecDepth 8000 in
theorem w_422 : Cond.instanceMethod (⟨"KindSayings$Tokens", "begin", "()V"⟩) ∈ Gd := Gd_2 117 rfl rfl
set_option maxRecDepth 8000 in
theorem w_423 : Cond.selects "KindSayings$Tokens" (⟨"KindSayings$Tokens", "begin", "()V"⟩) (⟨"KindSayings$Tokens", "begin", "()V"⟩) ∈ Gd := Gd_2 118 rfl rfl
set_option maxRecDepth 8000 in
theorem w_424 : Cond.code (⟨"KindSayings$Tokens", "begin", "()V"⟩) prog_6_method_3_code 1 none ∈ Gd := Gd_2 119 rfl rfl
set_option maxRecDepth 8000 in
theorem w_425 : Cond.methodLink "KindSayings$Tokens" 27 (⟨"KindSayings$Tokens", "advance", "()V"⟩) ∈ Gd := Gd_2 120 rfl rfl
set_option maxRecDepth 8000 in
theorem w_426 : Cond.instanceMethod (⟨"KindSayings$Tokens", "advance", "()V"⟩) ∈ Gd := Gd_2 121 rfl rfl
set_option maxRecDepth 8000 in
theorem w_427 : Cond.selects "KindSayings$Tokens" (⟨"KindSayings$Tokens", "advance", "()V"⟩) (⟨"KindSayings$Tokens", "advance", "()V"⟩) ∈ Gd := Gd_2 122 rfl rfl
set_option maxRecDepth 8000 in
theorem w_428 : Cond.code (⟨"KindSayings$Tokens", "advance", "()V"⟩) prog_6_method_4_code 2 none ∈ Gd := Gd_2 123 rfl rfl
set_option maxRecDepth 8000 in
theorem w_429 : Cond.methodLink "KindSayings$Tokens" 30 (⟨"KindSayings$Tokens", "byteAt", "(I)I"⟩) ∈ Gd := Gd_2 124 rfl rfl
set_option maxRecDepth 8000 in
theorem w_431 : Cond.instanceMethod (⟨"KindSayings$Tokens", "byteAt", "(I)I"⟩) ∈ Gd := Gd_2 126 rfl rfl
set_option maxRecDepth 8000 in
theorem w_432 : Cond.code (⟨"KindSayings$Tokens", "byteAt", "(I)I"⟩) prog_6_method_8_code 2 (Option.some FieldType.int) ∈ Gd := Gd_2 127 rfl rfl
set_option maxRecDepth 8000 in
theorem w_433 : Cond.methodLink "KindSayings$Tokens" 43 (⟨"KindSayings$Tokens", "isLetter", "(I)Z"⟩) ∈ Gd := Gd_2 128 rfl rfl
set_option maxRecDepth 8000 in
theorem w_434 : Cond.static (⟨"KindSayings$Tokens", "isLetter", "(I)Z"⟩) ∈ Gd := Gd_2 129 rfl rfl
set_option maxRecDepth 8000 in
theorem w_435 : Cond.code (⟨"KindSayings$Tokens", "isLetter", "(I)Z"⟩) prog_6_method_9_code 1 (Option.some FieldType.boolean) ∈ Gd := Gd_2 130 rfl rfl
set_option maxRecDepth 8000 in
theorem w_436 : Cond.methodLink "KindSayings$Tokens" 47 (⟨"KindSayings$Tokens", "takeWord", "()V"⟩) ∈ Gd := Gd_2 131 rfl rfl
set_option maxRecDepth 8000 in
theorem w_438 : Cond.instanceMethod (⟨"KindSayings$Tokens", "takeWord", "()V"⟩) ∈ Gd := Gd_2 133 rfl rfl
set_option maxRecDepth 8000 in
theorem w_439 : Cond.code (⟨"KindSayings$Tokens", "takeWord", "()V"⟩) prog_6_method_5_code 4 none ∈ Gd := Gd_2 134 rfl rfl
set_option maxRecDepth 8000 in
theorem w_442 : Cond.methodLink "KindSayings$Tokens" 50 (⟨"KindSayings$Tokens", "isFigure", "(I)Z"⟩) ∈ Gd := Gd_2 137 rfl rfl
set_option maxRecDepth 8000 in
theorem w_443 : Cond.static (⟨"KindSayings$Tokens", "isFigure", "(I)Z"⟩) ∈ Gd := Gd_2 138 rfl rfl
set_option maxRecDepth 8000 in
theorem w_444 : Cond.code (⟨"KindSayings$Tokens", "isFigure", "(I)Z"⟩) prog_6_method_10_code 1 (Option.some FieldType.boolean) ∈ Gd := Gd_2 139 rfl rfl
set_option maxRecDepth 8000 in
theorem w_445 : Cond.methodLink "KindSayings$Tokens" 53 (⟨"KindSayings$Tokens", "takeNumber", "()V"⟩) ∈ Gd := Gd_2 140 rfl rfl
set_option maxRecDepth 8000 in
theorem w_447 : Cond.instanceMethod (⟨"KindSayings$Tokens", "takeNumber", "()V"⟩) ∈ Gd := Gd_2 142 rfl rfl
set_option maxRecDepth 8000 in
theorem w_448 : Cond.code (⟨"KindSayings$Tokens", "takeNumber", "()V"⟩) prog_6_method_6_code 2 none ∈ Gd := Gd_2 143 rfl rfl
set_option maxRecDepth 8000 in
theorem w_449 : Cond.methodLink "KindSayings$Tokens" 64 (⟨"java/lang/Math", "min", "(II)I"⟩) ∈ Gd := Gd_2 144 rfl rfl
set_option maxRecDepth 8000 in
theorem w_450 : Cond.static (⟨"java/lang/Math", "min", "(II)I"⟩) ∈ Gd := Gd_2 145 rfl rfl
set_option maxRecDepth 8000 in
theorem w_451 : Cond.code (⟨"java/lang/Math", "min", "(II)I"⟩) prog_12_method_69_code 2 (Option.some FieldType.int) ∈ Gd := Gd_2 146 rfl rfl
set_option maxRecDepth 8000 in
theorem w_452 : Cond.methodLink "KindSayings$Tokens" 56 (⟨"KindSayings$Tokens", "takeSign", "(I)V"⟩) ∈ Gd := Gd_2 147 rfl rfl
set_option maxRecDepth 8000 in
theorem w_454 : Cond.instanceMethod (⟨"KindSayings$Tokens", "takeSign", "(I)V"⟩) ∈ Gd := Gd_2 149 rfl rfl
set_option maxRecDepth 8000 in
theorem w_455 : Cond.code (⟨"KindSayings$Tokens", "takeSign", "(I)V"⟩) prog_6_method_7_code 2 none ∈ Gd := Gd_2 150 rfl rfl
set_option maxRecDepth 8000 in
theorem w_456 : Cond.methodLink "KindSayings$Reader" 38 (⟨"KindSayings$Reader", "readHead", "()V"⟩) ∈ Gd := Gd_2 151 rfl rfl
set_option maxRecDepth 8000 in
theorem w_458 : Cond.instanceMethod (⟨"KindSayings$Reader", "readHead", "()V"⟩) ∈ Gd := Gd_2 153 rfl rfl
set_option maxRecDepth 8000 in
theorem w_459 : Cond.code (⟨"KindSayings$Reader", "readHead", "()V"⟩) prog_4_method_3_code 1 none ∈ Gd := Gd_2 154 rfl rfl
set_option maxRecDepth 8000 in
theorem w_460 : Cond.methodLink "KindSayings$Reader" 75 (⟨"KindSayings$Tokens", "advance", "()V"⟩) ∈ Gd := Gd_2 155 rfl rfl
set_option maxRecDepth 8000 in
theorem w_461 : Cond.methodLink "KindSayings$Reader" 84 (⟨"KindSayings$Reader", "fail", "()V"⟩) ∈ Gd := Gd_2 156 rfl rfl
set_option maxRecDepth 8000 in
theorem w_463 : Cond.instanceMethod (⟨"KindSayings$Reader", "fail", "()V"⟩) ∈ Gd := Gd_2 158 rfl rfl
set_option maxRecDepth 8000 in
theorem w_464 : Cond.code (⟨"KindSayings$Reader", "fail", "()V"⟩) prog_4_method_11_code 1 none ∈ Gd := Gd_2 159 rfl rfl
set_option maxRecDepth 8000 in
theorem w_465 : Cond.methodLink "KindSayings$Reader" 51 (⟨"KindSayings$Reader", "pass", "(I)V"⟩) ∈ Gd := Gd_2 160 rfl rfl
set_option maxRecDepth 8000 in
theorem w_467 : Cond.instanceMethod (⟨"KindSayings$Reader", "pass", "(I)V"⟩) ∈ Gd := Gd_2 162 rfl rfl
set_option maxRecDepth 8000 in
theorem w_468 : Cond.code (⟨"KindSayings$Reader", "pass", "(I)V"⟩) prog_4_method_10_code 2 none ∈ Gd := Gd_2 163 rfl rfl
set_option maxRecDepth 8000 in
theorem w_469 : Cond.methodLink "KindSayings$Reader" 87 (⟨"KindSayings$Reader", "readNumber", "()V"⟩) ∈ Gd := Gd_2 164 rfl rfl
set_option maxRecDepth 8000 in
theorem w_471 : Cond.instanceMethod (⟨"KindSayings$Reader", "readNumber", "()V"⟩) ∈ Gd := Gd_2 166 rfl rfl
set_option maxRecDepth 8000 in
theorem w_472 : Cond.code (⟨"KindSayings$Reader", "readNumber", "()V"⟩) prog_4_method_4_code 1 none ∈ Gd := Gd_2 167 rfl rfl
set_option maxRecDepth 8000 in
theorem w_473 : Cond.methodLink "KindSayings$Reader" 41 (⟨"KindSayings$Reader", "readSide", "()I"⟩) ∈ Gd := Gd_2 168 rfl rfl
set_option maxRecDepth 8000 in
theorem w_475 : Cond.instanceMethod (⟨"KindSayings$Reader", "readSide", "()I"⟩) ∈ Gd := Gd_2 170 rfl rfl
set_option maxRecDepth 8000 in
theorem w_476 : Cond.code (⟨"KindSayings$Reader", "readSide", "()I"⟩) prog_4_method_5_code 4 (Option.some FieldType.int) ∈ Gd := Gd_2 171 rfl rfl
set_option maxRecDepth 8000 in
theorem w_477 : Cond.methodLink "KindSayings$Reader" 93 (⟨"KindSayings$Reader", "readUnion", "(I)I"⟩) ∈ Gd := Gd_2 172 rfl rfl
set_option maxRecDepth 8000 in
theorem w_479 : Cond.instanceMethod (⟨"KindSayings$Reader", "readUnion", "(I)I"⟩) ∈ Gd := Gd_2 174 rfl rfl
set_option maxRecDepth 8000 in
theorem w_480 : Cond.code (⟨"KindSayings$Reader", "readUnion", "(I)I"⟩) prog_4_method_6_code 4 (Option.some FieldType.int) ∈ Gd := Gd_2 175 rfl rfl
set_option maxRecDepth 8000 in
theorem w_481 : Cond.methodLink "KindSayings$Reader" 97 (⟨"KindSayings$Reader", "readMeet", "(I)I"⟩) ∈ Gd := Gd_2 176 rfl rfl
set_option maxRecDepth 8000 in
theorem w_483 : Cond.instanceMethod (⟨"KindSayings$Reader", "readMeet", "(I)I"⟩) ∈ Gd := Gd_2 178 rfl rfl
set_option maxRecDepth 8000 in
theorem w_484 : Cond.code (⟨"KindSayings$Reader", "readMeet", "(I)I"⟩) prog_4_method_7_code 4 (Option.some FieldType.int) ∈ Gd := Gd_2 179 rfl rfl
set_option maxRecDepth 8000 in
theorem w_485 : Cond.methodLink "KindSayings$Reader" 100 (⟨"KindSayings$Reader", "readPart", "(I)I"⟩) ∈ Gd := Gd_2 180 rfl rfl
set_option maxRecDepth 8000 in
theorem w_487 : Cond.instanceMethod (⟨"KindSayings$Reader", "readPart", "(I)I"⟩) ∈ Gd := Gd_2 182 rfl rfl
set_option maxRecDepth 8000 in
theorem w_488 : Cond.code (⟨"KindSayings$Reader", "readPart", "(I)I"⟩) prog_4_method_8_code 5 (Option.some FieldType.int) ∈ Gd := Gd_2 183 rfl rfl
set_option maxRecDepth 8000 in
theorem w_489 : Cond.methodLink "KindSayings$Reader" 103 (⟨"KindSayings$Reader", "isPart", "(III)Z"⟩) ∈ Gd := Gd_2 184 rfl rfl
set_option maxRecDepth 8000 in
theorem w_491 : Cond.instanceMethod (⟨"KindSayings$Reader", "isPart", "(III)Z"⟩) ∈ Gd := Gd_2 186 rfl rfl
set_option maxRecDepth 8000 in
theorem w_492 : Cond.code (⟨"KindSayings$Reader", "isPart", "(III)Z"⟩) prog_4_method_9_code 4 (Option.some FieldType.boolean) ∈ Gd := Gd_2 187 rfl rfl
set_option maxRecDepth 8000 in
theorem w_495 : Cond.methodLink "KindSayings$Reader" 58 (⟨"KindSayings$Reader", "factTold", "(II)I"⟩) ∈ Gd := Gd_2 190 rfl rfl
set_option maxRecDepth 8000 in
theorem w_497 : Cond.instanceMethod (⟨"KindSayings$Reader", "factTold", "(II)I"⟩) ∈ Gd := Gd_2 192 rfl rfl
set_option maxRecDepth 8000 in
theorem w_498 : Cond.code (⟨"KindSayings$Reader", "factTold", "(II)I"⟩) prog_4_method_12_code 3 (Option.some FieldType.int) ∈ Gd := Gd_2 193 rfl rfl
set_option maxRecDepth 8000 in
theorem w_500 : Cond.methodLink "KindSayings" 108 (⟨"KindSayings$Saying", "become", "(LKindSayings$Saying;)V"⟩) ∈ Gd := Gd_2 195 rfl rfl
set_option maxRecDepth 8000 in
theorem w_501 : Cond.instanceMethod (⟨"KindSayings$Saying", "become", "(LKindSayings$Saying;)V"⟩) ∈ Gd := Gd_2 196 rfl rfl
set_option maxRecDepth 8000 in
theorem w_502 : Cond.selects "KindSayings$Saying" (⟨"KindSayings$Saying", "become", "(LKindSayings$Saying;)V"⟩) (⟨"KindSayings$Saying", "become", "(LKindSayings$Saying;)V"⟩) ∈ Gd := Gd_2 197 rfl rfl
set_option maxRecDepth 8000 in
theorem w_503 : Cond.code (⟨"KindSayings$Saying", "become", "(LKindSayings$Saying;)V"⟩) prog_5_method_3_code 2 none ∈ Gd := Gd_2 198 rfl rfl
set_option maxRecDepth 8000 in
theorem w_504 : Cond.methodLink "KindSayingsLaw" 55 (⟨"KindSayings", "about", "(II)I"⟩) ∈ Gd := Gd_2 199 rfl rfl
set_option maxRecDepth 8000 in
theorem w_505 : Cond.instanceMethod (⟨"KindSayings", "about", "(II)I"⟩) ∈ Gd := Gd_2 200 rfl rfl
set_option maxRecDepth 8000 in
theorem w_506 : Cond.selects "KindSayings" (⟨"KindSayings", "about", "(II)I"⟩) (⟨"KindSayings", "about", "(II)I"⟩) ∈ Gd := Gd_2 201 rfl rfl
set_option maxRecDepth 8000 in
theorem w_507 : Cond.code (⟨"KindSayings", "about", "(II)I"⟩) prog_1_method_11_code 4 (Option.some FieldType.int) ∈ Gd := Gd_2 202 rfl rfl
set_option maxRecDepth 8000 in
theorem w_508 : Cond.methodLink "KindSayingsLaw" 59 (⟨"KindSayings", "can", "(I)I"⟩) ∈ Gd := Gd_2 203 rfl rfl
set_option maxRecDepth 8000 in
theorem w_509 : Cond.instanceMethod (⟨"KindSayings", "can", "(I)I"⟩) ∈ Gd := Gd_2 204 rfl rfl
set_option maxRecDepth 8000 in
theorem w_510 : Cond.selects "KindSayings" (⟨"KindSayings", "can", "(I)I"⟩) (⟨"KindSayings", "can", "(I)I"⟩) ∈ Gd := Gd_2 205 rfl rfl
set_option maxRecDepth 8000 in
theorem w_511 : Cond.code (⟨"KindSayings", "can", "(I)I"⟩) prog_1_method_12_code 2 (Option.some FieldType.int) ∈ Gd := Gd_2 206 rfl rfl
set_option maxRecDepth 8000 in
theorem w_512 : Cond.methodLink "KindSayings" 134 (⟨"KindSayings", "isSet", "(I)Z"⟩) ∈ Gd := Gd_2 207 rfl rfl
set_option maxRecDepth 8000 in
theorem w_513 : Cond.static (⟨"KindSayings", "isSet", "(I)Z"⟩) ∈ Gd := Gd_2 208 rfl rfl
set_option maxRecDepth 8000 in
theorem w_514 : Cond.code (⟨"KindSayings", "isSet", "(I)Z"⟩) prog_1_method_38_code 1 (Option.some FieldType.boolean) ∈ Gd := Gd_2 209 rfl rfl
set_option maxRecDepth 8000 in
theorem w_515 : Cond.methodLink "KindSayings" 137 (⟨"KindSayings", "freshHeaps", "()LKindSayings$Heaps;"⟩) ∈ Gd := Gd_2 210 rfl rfl
set_option maxRecDepth 8000 in
theorem w_517 : Cond.instanceMethod (⟨"KindSayings", "freshHeaps", "()LKindSayings$Heaps;"⟩) ∈ Gd := Gd_2 212 rfl rfl
set_option maxRecDepth 8000 in
theorem w_518 : Cond.code (⟨"KindSayings", "freshHeaps", "()LKindSayings$Heaps;"⟩) prog_1_method_34_code 1 (Option.some (FieldType.object "KindSayings$Heaps")) ∈ Gd := Gd_2 213 rfl rfl
set_option maxRecDepth 8000 in
theorem w_519 : Cond.methodLink "KindSayings" 229 (⟨"KindSayings$Heaps", "refresh", "([LKindSayings$Saying;)V"⟩) ∈ Gd := Gd_2 214 rfl rfl
set_option maxRecDepth 8000 in
theorem w_520 : Cond.instanceMethod (⟨"KindSayings$Heaps", "refresh", "([LKindSayings$Saying;)V"⟩) ∈ Gd := Gd_2 215 rfl rfl
set_option maxRecDepth 8000 in
theorem w_521 : Cond.selects "KindSayings$Heaps" (⟨"KindSayings$Heaps", "refresh", "([LKindSayings$Saying;)V"⟩) (⟨"KindSayings$Heaps", "refresh", "([LKindSayings$Saying;)V"⟩) ∈ Gd := Gd_2 216 rfl rfl
set_option maxRecDepth 8000 in
theorem w_522 : Cond.code (⟨"KindSayings$Heaps", "refresh", "([LKindSayings$Saying;)V"⟩) prog_2_method_4_code 5 none ∈ Gd := Gd_2 217 rfl rfl
set_option maxRecDepth 8000 in
theorem w_523 : Cond.methodLink "KindSayings$Heaps" 65 (⟨"KindSayings$Heaps", "likes", "([LKindSayings$Saying;LKindSayings$Saying;)I"⟩) ∈ Gd := Gd_2 218 rfl rfl
set_option maxRecDepth 8000 in
theorem w_524 : Cond.static (⟨"KindSayings$Heaps", "likes", "([LKindSayings$Saying;LKindSayings$Saying;)I"⟩) ∈ Gd := Gd_2 219 rfl rfl
set_option maxRecDepth 8000 in
theorem w_525 : Cond.code (⟨"KindSayings$Heaps", "likes", "([LKindSayings$Saying;LKindSayings$Saying;)I"⟩) prog_2_method_5_code 5 (Option.some FieldType.int) ∈ Gd := Gd_2 220 rfl rfl
set_option maxRecDepth 8000 in
theorem w_526 : Cond.methodLink "KindSayings$Heaps" 79 (⟨"KindSayings$Saying", "isLike", "(LKindSayings$Saying;)Z"⟩) ∈ Gd := Gd_2 221 rfl rfl
set_option maxRecDepth 8000 in
theorem w_527 : Cond.instanceMethod (⟨"KindSayings$Saying", "isLike", "(LKindSayings$Saying;)Z"⟩) ∈ Gd := Gd_2 222 rfl rfl
set_option maxRecDepth 8000 in
theorem w_528 : Cond.selects "KindSayings$Saying" (⟨"KindSayings$Saying", "isLike", "(LKindSayings$Saying;)Z"⟩) (⟨"KindSayings$Saying", "isLike", "(LKindSayings$Saying;)Z"⟩) ∈ Gd := Gd_2 223 rfl rfl
set_option maxRecDepth 8000 in
theorem w_529 : Cond.code (⟨"KindSayings$Saying", "isLike", "(LKindSayings$Saying;)Z"⟩) prog_5_method_4_code 2 (Option.some FieldType.boolean) ∈ Gd := Gd_2 224 rfl rfl
set_option maxRecDepth 8000 in
theorem w_530 : Cond.methodLink "KindSayings$Heaps" 69 (⟨"KindSayings$Heaps", "mark", "(LKindSayings$Saying;I)V"⟩) ∈ Gd := Gd_2 225 rfl rfl
set_option maxRecDepth 8000 in
theorem w_532 : Cond.instanceMethod (⟨"KindSayings$Heaps", "mark", "(LKindSayings$Saying;I)V"⟩) ∈ Gd := Gd_2 227 rfl rfl
set_option maxRecDepth 8000 in
theorem w_533 : Cond.code (⟨"KindSayings$Heaps", "mark", "(LKindSayings$Saying;I)V"⟩) prog_2_method_6_code 6 none ∈ Gd := Gd_2 228 rfl rfl
set_option maxRecDepth 8000 in
theorem w_534 : Cond.methodLink "KindSayings$Heaps" 85 (⟨"KindSayings$Walk", "begin", "(IILKindSayings$Saying;)V"⟩) ∈ Gd := Gd_2 229 rfl rfl
set_option maxRecDepth 8000 in
theorem w_535 : Cond.instanceMethod (⟨"KindSayings$Walk", "begin", "(IILKindSayings$Saying;)V"⟩) ∈ Gd := Gd_2 230 rfl rfl
set_option maxRecDepth 8000 in
theorem w_536 : Cond.selects "KindSayings$Walk" (⟨"KindSayings$Walk", "begin", "(IILKindSayings$Saying;)V"⟩) (⟨"KindSayings$Walk", "begin", "(IILKindSayings$Saying;)V"⟩) ∈ Gd := Gd_2 231 rfl rfl
set_option maxRecDepth 8000 in
theorem w_537 : Cond.code (⟨"KindSayings$Walk", "begin", "(IILKindSayings$Saying;)V"⟩) prog_7_method_2_code 5 none ∈ Gd := Gd_2 232 rfl rfl
set_option maxRecDepth 8000 in
theorem w_538 : Cond.methodLink "KindSayings$Walk" 21 (⟨"KindSayings$Saying", "weight", "(I)I"⟩) ∈ Gd := Gd_2 233 rfl rfl
set_option maxRecDepth 8000 in
theorem w_539 : Cond.methodLink "KindSayings$Walk" 27 (⟨"java/lang/Math", "min", "(II)I"⟩) ∈ Gd := Gd_2 234 rfl rfl
set_option maxRecDepth 8000 in
theorem w_540 : Cond.methodLink "KindSayings$Heaps" 89 (⟨"KindSayings$Walk", "sum", "()I"⟩) ∈ Gd := Gd_2 235 rfl rfl
set_option maxRecDepth 8000 in
theorem w_541 : Cond.instanceMethod (⟨"KindSayings$Walk", "sum", "()I"⟩) ∈ Gd := Gd_2 236 rfl rfl
set_option maxRecDepth 8000 in
theorem w_542 : Cond.selects "KindSayings$Walk" (⟨"KindSayings$Walk", "sum", "()I"⟩) (⟨"KindSayings$Walk", "sum", "()I"⟩) ∈ Gd := Gd_2 237 rfl rfl
set_option maxRecDepth 8000 in
theorem w_543 : Cond.code (⟨"KindSayings$Walk", "sum", "()I"⟩) prog_7_method_5_code 1 (Option.some FieldType.int) ∈ Gd := Gd_2 238 rfl rfl
set_option maxRecDepth 8000 in
theorem w_544 : Cond.methodLink "KindSayings$Heaps" 93 (⟨"KindSayings$Saying", "isTrue", "(I)Z"⟩) ∈ Gd := Gd_2 239 rfl rfl
set_option maxRecDepth 8000 in
theorem w_545 : Cond.methodLink "KindSayings$Heaps" 97 (⟨"KindSayings$Walk", "advance", "()Z"⟩) ∈ Gd := Gd_3 0 rfl rfl
set_option maxRecDepth 8000 in
theorem w_546 : Cond.instanceMethod (⟨"KindSayings$Walk", "advance", "()Z"⟩) ∈ Gd := Gd_3 1 rfl rfl
set_option maxRecDepth 8000 in
theorem w_547 : Cond.selects "KindSayings$Walk" (⟨"KindSayings$Walk", "advance", "()Z"⟩) (⟨"KindSayings$Walk", "advance", "()Z"⟩) ∈ Gd := Gd_3 2 rfl rfl
set_option maxRecDepth 8000 in
theorem w_548 : Cond.code (⟨"KindSayings$Walk", "advance", "()Z"⟩) prog_7_method_3_code 2 (Option.some FieldType.boolean) ∈ Gd := Gd_3 3 rfl rfl
set_option maxRecDepth 8000 in
theorem w_549 : Cond.methodLink "KindSayings$Walk" 43 (⟨"KindSayings$Walk", "fillFrom", "(II)V"⟩) ∈ Gd := Gd_3 4 rfl rfl
set_option maxRecDepth 8000 in
theorem w_551 : Cond.instanceMethod (⟨"KindSayings$Walk", "fillFrom", "(II)V"⟩) ∈ Gd := Gd_3 6 rfl rfl
set_option maxRecDepth 8000 in
theorem w_552 : Cond.code (⟨"KindSayings$Walk", "fillFrom", "(II)V"⟩) prog_7_method_4_code 5 none ∈ Gd := Gd_3 7 rfl rfl
set_option maxRecDepth 8000 in
theorem w_553 : Cond.methodLink "KindSayings$Heaps" 73 (⟨"KindSayings$Heaps", "fillHeaps", "()V"⟩) ∈ Gd := Gd_3 8 rfl rfl
set_option maxRecDepth 8000 in
theorem w_555 : Cond.instanceMethod (⟨"KindSayings$Heaps", "fillHeaps", "()V"⟩) ∈ Gd := Gd_3 10 rfl rfl
set_option maxRecDepth 8000 in
theorem w_556 : Cond.code (⟨"KindSayings$Heaps", "fillHeaps", "()V"⟩) prog_2_method_7_code 3 none ∈ Gd := Gd_3 11 rfl rfl
set_option maxRecDepth 8000 in
theorem w_557 : Cond.methodLink "KindSayings$Heaps" 76 (⟨"KindSayings$Heaps", "addTogether", "()V"⟩) ∈ Gd := Gd_3 12 rfl rfl
set_option maxRecDepth 8000 in
theorem w_559 : Cond.instanceMethod (⟨"KindSayings$Heaps", "addTogether", "()V"⟩) ∈ Gd := Gd_3 14 rfl rfl
set_option maxRecDepth 8000 in
theorem w_560 : Cond.code (⟨"KindSayings$Heaps", "addTogether", "()V"⟩) prog_2_method_8_code 4 none ∈ Gd := Gd_3 15 rfl rfl
set_option maxRecDepth 8000 in
theorem w_561 : Cond.methodLink "KindSayings" 141 (⟨"KindSayings$Heaps", "worldsOf", "(I)I"⟩) ∈ Gd := Gd_3 16 rfl rfl
set_option maxRecDepth 8000 in
theorem w_562 : Cond.instanceMethod (⟨"KindSayings$Heaps", "worldsOf", "(I)I"⟩) ∈ Gd := Gd_3 17 rfl rfl
set_option maxRecDepth 8000 in
theorem w_563 : Cond.selects "KindSayings$Heaps" (⟨"KindSayings$Heaps", "worldsOf", "(I)I"⟩) (⟨"KindSayings$Heaps", "worldsOf", "(I)I"⟩) ∈ Gd := Gd_3 18 rfl rfl
set_option maxRecDepth 8000 in
theorem w_564 : Cond.code (⟨"KindSayings$Heaps", "worldsOf", "(I)I"⟩) prog_2_method_9_code 2 (Option.some FieldType.int) ∈ Gd := Gd_3 19 rfl rfl
set_option maxRecDepth 8000 in
theorem w_565 : Cond.methodLink "KindSayingsLaw" 63 (⟨"KindSayings", "least", "(II)I"⟩) ∈ Gd := Gd_3 20 rfl rfl
set_option maxRecDepth 8000 in
theorem w_566 : Cond.instanceMethod (⟨"KindSayings", "least", "(II)I"⟩) ∈ Gd := Gd_3 21 rfl rfl
set_option maxRecDepth 8000 in
theorem w_567 : Cond.selects "KindSayings" (⟨"KindSayings", "least", "(II)I"⟩) (⟨"KindSayings", "least", "(II)I"⟩) ∈ Gd := Gd_3 22 rfl rfl
set_option maxRecDepth 8000 in
theorem w_568 : Cond.code (⟨"KindSayings", "least", "(II)I"⟩) prog_1_method_13_code 4 (Option.some FieldType.int) ∈ Gd := Gd_3 23 rfl rfl
set_option maxRecDepth 8000 in
theorem w_569 : Cond.methodLink "KindSayings" 144 (⟨"KindSayings", "isSortOrEvery", "(I)Z"⟩) ∈ Gd := Gd_3 24 rfl rfl
set_option maxRecDepth 8000 in
theorem w_571 : Cond.instanceMethod (⟨"KindSayings", "isSortOrEvery", "(I)Z"⟩) ∈ Gd := Gd_3 26 rfl rfl
set_option maxRecDepth 8000 in
theorem w_572 : Cond.code (⟨"KindSayings", "isSortOrEvery", "(I)Z"⟩) prog_1_method_30_code 2 (Option.some FieldType.boolean) ∈ Gd := Gd_3 27 rfl rfl
set_option maxRecDepth 8000 in
theorem w_573 : Cond.methodLink "KindSayings" 147 (⟨"KindSayings$Heaps", "firstWorld", "(II)I"⟩) ∈ Gd := Gd_3 28 rfl rfl
set_option maxRecDepth 8000 in
theorem w_574 : Cond.instanceMethod (⟨"KindSayings$Heaps", "firstWorld", "(II)I"⟩) ∈ Gd := Gd_3 29 rfl rfl
set_option maxRecDepth 8000 in
theorem w_575 : Cond.selects "KindSayings$Heaps" (⟨"KindSayings$Heaps", "firstWorld", "(II)I"⟩) (⟨"KindSayings$Heaps", "firstWorld", "(II)I"⟩) ∈ Gd := Gd_3 30 rfl rfl
set_option maxRecDepth 8000 in
theorem w_576 : Cond.code (⟨"KindSayings$Heaps", "firstWorld", "(II)I"⟩) prog_2_method_11_code 6 (Option.some FieldType.int) ∈ Gd := Gd_3 31 rfl rfl
set_option maxRecDepth 8000 in
theorem w_577 : Cond.methodLink "KindSayings" 151 (⟨"KindSayings$Heaps", "thingsIn", "(II)I"⟩) ∈ Gd := Gd_3 32 rfl rfl
set_option maxRecDepth 8000 in
theorem w_578 : Cond.instanceMethod (⟨"KindSayings$Heaps", "thingsIn", "(II)I"⟩) ∈ Gd := Gd_3 33 rfl rfl
set_option maxRecDepth 8000 in
theorem w_579 : Cond.selects "KindSayings$Heaps" (⟨"KindSayings$Heaps", "thingsIn", "(II)I"⟩) (⟨"KindSayings$Heaps", "thingsIn", "(II)I"⟩) ∈ Gd := Gd_3 34 rfl rfl
set_option maxRecDepth 8000 in
theorem w_580 : Cond.code (⟨"KindSayings$Heaps", "thingsIn", "(II)I"⟩) prog_2_method_14_code 7 (Option.some FieldType.int) ∈ Gd := Gd_3 35 rfl rfl
set_option maxRecDepth 8000 in
theorem w_581 : Cond.methodLink "KindSayings$Heaps" 110 (⟨"KindSayings$Heaps", "rowsOf", "(II)I"⟩) ∈ Gd := Gd_3 36 rfl rfl
set_option maxRecDepth 8000 in
theorem w_582 : Cond.static (⟨"KindSayings$Heaps", "rowsOf", "(II)I"⟩) ∈ Gd := Gd_3 37 rfl rfl
set_option maxRecDepth 8000 in
theorem w_583 : Cond.code (⟨"KindSayings$Heaps", "rowsOf", "(II)I"⟩) prog_2_method_15_code 2 (Option.some FieldType.int) ∈ Gd := Gd_3 38 rfl rfl
set_option maxRecDepth 8000 in
theorem w_584 : Cond.methodLink "KindSayingsLaw" 67 (⟨"KindSayings", "follows", "(II)I"⟩) ∈ Gd := Gd_3 39 rfl rfl
set_option maxRecDepth 8000 in
theorem w_585 : Cond.instanceMethod (⟨"KindSayings", "follows", "(II)I"⟩) ∈ Gd := Gd_3 40 rfl rfl
set_option maxRecDepth 8000 in
theorem w_586 : Cond.selects "KindSayings" (⟨"KindSayings", "follows", "(II)I"⟩) (⟨"KindSayings", "follows", "(II)I"⟩) ∈ Gd := Gd_3 41 rfl rfl
set_option maxRecDepth 8000 in
theorem w_587 : Cond.code (⟨"KindSayings", "follows", "(II)I"⟩) prog_1_method_14_code 3 (Option.some FieldType.int) ∈ Gd := Gd_3 42 rfl rfl
set_option maxRecDepth 8000 in
theorem w_588 : Cond.methodLink "KindSayings" 154 (⟨"KindSayings$Heaps", "isFollowing", "(II)Z"⟩) ∈ Gd := Gd_3 43 rfl rfl
set_option maxRecDepth 8000 in
theorem w_589 : Cond.instanceMethod (⟨"KindSayings$Heaps", "isFollowing", "(II)Z"⟩) ∈ Gd := Gd_3 44 rfl rfl
set_option maxRecDepth 8000 in
theorem w_590 : Cond.selects "KindSayings$Heaps" (⟨"KindSayings$Heaps", "isFollowing", "(II)Z"⟩) (⟨"KindSayings$Heaps", "isFollowing", "(II)Z"⟩) ∈ Gd := Gd_3 45 rfl rfl
set_option maxRecDepth 8000 in
theorem w_591 : Cond.code (⟨"KindSayings$Heaps", "isFollowing", "(II)Z"⟩) prog_2_method_10_code 3 (Option.some FieldType.boolean) ∈ Gd := Gd_3 46 rfl rfl
set_option maxRecDepth 8000 in
theorem w_592 : Cond.methodLink "KindSayings$Heaps" 101 (⟨"KindSayings$Heaps", "worldsOf", "(I)I"⟩) ∈ Gd := Gd_3 47 rfl rfl
set_option maxRecDepth 8000 in
theorem w_593 : Cond.methodLink "KindSayingsLaw" 71 (⟨"KindSayings", "against", "(III)I"⟩) ∈ Gd := Gd_3 48 rfl rfl
set_option maxRecDepth 8000 in
theorem w_594 : Cond.instanceMethod (⟨"KindSayings", "against", "(III)I"⟩) ∈ Gd := Gd_3 49 rfl rfl
set_option maxRecDepth 8000 in
theorem w_595 : Cond.selects "KindSayings" (⟨"KindSayings", "against", "(III)I"⟩) (⟨"KindSayings", "against", "(III)I"⟩) ∈ Gd := Gd_3 50 rfl rfl
set_option maxRecDepth 8000 in
theorem w_596 : Cond.code (⟨"KindSayings", "against", "(III)I"⟩) prog_1_method_15_code 5 (Option.some FieldType.int) ∈ Gd := Gd_3 51 rfl rfl
set_option maxRecDepth 8000 in
theorem w_597 : Cond.methodLink "KindSayingsLaw" 76 (⟨"KindSayings", "unsaid", "(I)I"⟩) ∈ Gd := Gd_3 52 rfl rfl
set_option maxRecDepth 8000 in
theorem w_598 : Cond.instanceMethod (⟨"KindSayings", "unsaid", "(I)I"⟩) ∈ Gd := Gd_3 53 rfl rfl
set_option maxRecDepth 8000 in
theorem w_599 : Cond.selects "KindSayings" (⟨"KindSayings", "unsaid", "(I)I"⟩) (⟨"KindSayings", "unsaid", "(I)I"⟩) ∈ Gd := Gd_3 54 rfl rfl
set_option maxRecDepth 8000 in
theorem w_600 : Cond.code (⟨"KindSayings", "unsaid", "(I)I"⟩) prog_1_method_16_code 5 (Option.some FieldType.int) ∈ Gd := Gd_3 55 rfl rfl
set_option maxRecDepth 8000 in
theorem w_601 : Cond.methodLink "KindSayingsLaw" 80 (⟨"KindSayings", "clash", "(II)I"⟩) ∈ Gd := Gd_3 56 rfl rfl
set_option maxRecDepth 8000 in
theorem w_602 : Cond.instanceMethod (⟨"KindSayings", "clash", "(II)I"⟩) ∈ Gd := Gd_3 57 rfl rfl
set_option maxRecDepth 8000 in
theorem w_603 : Cond.selects "KindSayings" (⟨"KindSayings", "clash", "(II)I"⟩) (⟨"KindSayings", "clash", "(II)I"⟩) ∈ Gd := Gd_3 58 rfl rfl
set_option maxRecDepth 8000 in
theorem w_604 : Cond.code (⟨"KindSayings", "clash", "(II)I"⟩) prog_1_method_17_code 4 (Option.some FieldType.int) ∈ Gd := Gd_3 59 rfl rfl
set_option maxRecDepth 8000 in
theorem w_605 : Cond.methodLink "KindSayings" 161 (⟨"KindSayings$Heaps", "fewestClashing", "(I)I"⟩) ∈ Gd := Gd_3 60 rfl rfl
set_option maxRecDepth 8000 in
theorem w_606 : Cond.instanceMethod (⟨"KindSayings$Heaps", "fewestClashing", "(I)I"⟩) ∈ Gd := Gd_3 61 rfl rfl
set_option maxRecDepth 8000 in
theorem w_607 : Cond.selects "KindSayings$Heaps" (⟨"KindSayings$Heaps", "fewestClashing", "(I)I"⟩) (⟨"KindSayings$Heaps", "fewestClashing", "(I)I"⟩) ∈ Gd := Gd_3 62 rfl rfl
set_option maxRecDepth 8000 in
theorem w_608 : Cond.code (⟨"KindSayings$Heaps", "fewestClashing", "(I)I"⟩) prog_2_method_13_code 5 (Option.some FieldType.int) ∈ Gd := Gd_3 63 rfl rfl
set_option maxRecDepth 8000 in
theorem w_609 : Cond.methodLink "KindSayings$Heaps" 105 (⟨"java/lang/Integer", "bitCount", "(I)I"⟩) ∈ Gd := Gd_3 64 rfl rfl
set_option maxRecDepth 8000 in
theorem w_610 : Cond.static (⟨"java/lang/Integer", "bitCount", "(I)I"⟩) ∈ Gd := Gd_3 65 rfl rfl
set_option maxRecDepth 8000 in
theorem w_611 : Cond.code (⟨"java/lang/Integer", "bitCount", "(I)I"⟩) prog_10_method_49_code 1 (Option.some FieldType.int) ∈ Gd := Gd_3 66 rfl rfl
set_option maxRecDepth 8000 in
theorem w_612 : Cond.constant "java/lang/Integer" 265 (1431655765 : Int32) ∈ Gd := Gd_3 67 rfl rfl
set_option maxRecDepth 8000 in
theorem w_613 : Cond.constant "java/lang/Integer" 266 (858993459 : Int32) ∈ Gd := Gd_3 68 rfl rfl
set_option maxRecDepth 8000 in
theorem w_614 : Cond.constant "java/lang/Integer" 267 (252645135 : Int32) ∈ Gd := Gd_3 69 rfl rfl
set_option maxRecDepth 8000 in
theorem w_615 : Cond.methodLink "KindSayings" 164 (⟨"java/lang/Integer", "bitCount", "(I)I"⟩) ∈ Gd := Gd_3 70 rfl rfl
set_option maxRecDepth 8000 in
theorem w_616 : Cond.methodLink "KindSayingsLaw" 84 (⟨"KindSayings", "ask", "(I)I"⟩) ∈ Gd := Gd_3 71 rfl rfl
set_option maxRecDepth 8000 in
theorem w_617 : Cond.instanceMethod (⟨"KindSayings", "ask", "(I)I"⟩) ∈ Gd := Gd_3 72 rfl rfl
set_option maxRecDepth 8000 in
theorem w_618 : Cond.selects "KindSayings" (⟨"KindSayings", "ask", "(I)I"⟩) (⟨"KindSayings", "ask", "(I)I"⟩) ∈ Gd := Gd_3 73 rfl rfl
set_option maxRecDepth 8000 in
theorem w_619 : Cond.code (⟨"KindSayings", "ask", "(I)I"⟩) prog_1_method_18_code 9 (Option.some FieldType.int) ∈ Gd := Gd_3 74 rfl rfl
set_option maxRecDepth 8000 in
theorem w_620 : Cond.methodLink "KindSayings" 169 (⟨"java/lang/Math", "max", "(II)I"⟩) ∈ Gd := Gd_3 75 rfl rfl
set_option maxRecDepth 8000 in
theorem w_621 : Cond.static (⟨"java/lang/Math", "max", "(II)I"⟩) ∈ Gd := Gd_3 76 rfl rfl
set_option maxRecDepth 8000 in
theorem w_622 : Cond.code (⟨"java/lang/Math", "max", "(II)I"⟩) prog_12_method_65_code 2 (Option.some FieldType.int) ∈ Gd := Gd_3 77 rfl rfl
set_option maxRecDepth 8000 in
theorem w_623 : Cond.methodLink "KindSayingsLaw" 88 (⟨"KindSayings", "heaps", "(I)I"⟩) ∈ Gd := Gd_3 78 rfl rfl
set_option maxRecDepth 8000 in
theorem w_624 : Cond.instanceMethod (⟨"KindSayings", "heaps", "(I)I"⟩) ∈ Gd := Gd_3 79 rfl rfl
set_option maxRecDepth 8000 in
theorem w_625 : Cond.selects "KindSayings" (⟨"KindSayings", "heaps", "(I)I"⟩) (⟨"KindSayings", "heaps", "(I)I"⟩) ∈ Gd := Gd_3 80 rfl rfl
set_option maxRecDepth 8000 in
theorem w_626 : Cond.code (⟨"KindSayings", "heaps", "(I)I"⟩) prog_1_method_19_code 2 (Option.some FieldType.int) ∈ Gd := Gd_3 81 rfl rfl
set_option maxRecDepth 8000 in
theorem w_627 : Cond.methodLink "KindSayings" 174 (⟨"KindSayings$Heaps", "heapsOf", "(I)I"⟩) ∈ Gd := Gd_3 82 rfl rfl
set_option maxRecDepth 8000 in
theorem w_628 : Cond.instanceMethod (⟨"KindSayings$Heaps", "heapsOf", "(I)I"⟩) ∈ Gd := Gd_3 83 rfl rfl
set_option maxRecDepth 8000 in
theorem w_629 : Cond.selects "KindSayings$Heaps" (⟨"KindSayings$Heaps", "heapsOf", "(I)I"⟩) (⟨"KindSayings$Heaps", "heapsOf", "(I)I"⟩) ∈ Gd := Gd_3 84 rfl rfl
set_option maxRecDepth 8000 in
theorem w_630 : Cond.code (⟨"KindSayings$Heaps", "heapsOf", "(I)I"⟩) prog_2_method_12_code 4 (Option.some FieldType.int) ∈ Gd := Gd_3 85 rfl rfl
set_option maxRecDepth 8000 in
theorem w_631 : Cond.methodLink "KindSayingsLaw" 92 (⟨"KindSayings", "twin", "(I)I"⟩) ∈ Gd := Gd_3 86 rfl rfl
set_option maxRecDepth 8000 in
theorem w_632 : Cond.instanceMethod (⟨"KindSayings", "twin", "(I)I"⟩) ∈ Gd := Gd_3 87 rfl rfl
set_option maxRecDepth 8000 in
theorem w_633 : Cond.selects "KindSayings" (⟨"KindSayings", "twin", "(I)I"⟩) (⟨"KindSayings", "twin", "(I)I"⟩) ∈ Gd := Gd_3 88 rfl rfl
set_option maxRecDepth 8000 in
theorem w_634 : Cond.code (⟨"KindSayings", "twin", "(I)I"⟩) prog_1_method_20_code 4 (Option.some FieldType.int) ∈ Gd := Gd_3 89 rfl rfl
set_option maxRecDepth 8000 in
theorem w_635 : Cond.methodLink "KindSayingsLaw" 96 (⟨"KindSayings", "moods", "(I)I"⟩) ∈ Gd := Gd_3 90 rfl rfl
set_option maxRecDepth 8000 in
theorem w_636 : Cond.instanceMethod (⟨"KindSayings", "moods", "(I)I"⟩) ∈ Gd := Gd_3 91 rfl rfl
set_option maxRecDepth 8000 in
theorem w_637 : Cond.selects "KindSayings" (⟨"KindSayings", "moods", "(I)I"⟩) (⟨"KindSayings", "moods", "(I)I"⟩) ∈ Gd := Gd_3 92 rfl rfl
set_option maxRecDepth 8000 in
theorem w_638 : Cond.code (⟨"KindSayings", "moods", "(I)I"⟩) prog_1_method_21_code 3 (Option.some FieldType.int) ∈ Gd := Gd_3 93 rfl rfl
set_option maxRecDepth 8000 in
theorem w_639 : Cond.methodLink "KindSayingsLaw" 100 (⟨"KindSayings", "round", "(IIII)I"⟩) ∈ Gd := Gd_3 94 rfl rfl
set_option maxRecDepth 8000 in
theorem w_640 : Cond.instanceMethod (⟨"KindSayings", "round", "(IIII)I"⟩) ∈ Gd := Gd_3 95 rfl rfl
set_option maxRecDepth 8000 in
theorem w_641 : Cond.selects "KindSayings" (⟨"KindSayings", "round", "(IIII)I"⟩) (⟨"KindSayings", "round", "(IIII)I"⟩) ∈ Gd := Gd_3 96 rfl rfl
set_option maxRecDepth 8000 in
theorem w_642 : Cond.code (⟨"KindSayings", "round", "(IIII)I"⟩) prog_1_method_22_code 5 (Option.some FieldType.int) ∈ Gd := Gd_3 97 rfl rfl
set_option maxRecDepth 8000 in
theorem w_643 : Cond.methodLink "KindSayings" 177 (⟨"KindSayings", "isFact", "(III)Z"⟩) ∈ Gd := Gd_3 98 rfl rfl
set_option maxRecDepth 8000 in
theorem w_645 : Cond.instanceMethod (⟨"KindSayings", "isFact", "(III)Z"⟩) ∈ Gd := Gd_3 100 rfl rfl
set_option maxRecDepth 8000 in
theorem w_646 : Cond.code (⟨"KindSayings", "isFact", "(III)Z"⟩) prog_1_method_31_code 4 (Option.some FieldType.boolean) ∈ Gd := Gd_3 101 rfl rfl
set_option maxRecDepth 8000 in
theorem w_647 : Cond.methodLink "KindSayings" 181 (⟨"KindSayings", "work", "(I)V"⟩) ∈ Gd := Gd_3 102 rfl rfl
set_option maxRecDepth 8000 in
theorem w_649 : Cond.instanceMethod (⟨"KindSayings", "work", "(I)V"⟩) ∈ Gd := Gd_3 104 rfl rfl
set_option maxRecDepth 8000 in
theorem w_650 : Cond.code (⟨"KindSayings", "work", "(I)V"⟩) prog_1_method_35_code 6 none ∈ Gd := Gd_3 105 rfl rfl
set_option maxRecDepth 8000 in
theorem w_651 : Cond.methodLink "KindSayings" 233 (⟨"KindSayings$Proof", "work", "(JII)V"⟩) ∈ Gd := Gd_3 106 rfl rfl
set_option maxRecDepth 8000 in
theorem w_652 : Cond.instanceMethod (⟨"KindSayings$Proof", "work", "(JII)V"⟩) ∈ Gd := Gd_3 107 rfl rfl
set_option maxRecDepth 8000 in
theorem w_653 : Cond.selects "KindSayings$Proof" (⟨"KindSayings$Proof", "work", "(JII)V"⟩) (⟨"KindSayings$Proof", "work", "(JII)V"⟩) ∈ Gd := Gd_3 108 rfl rfl
set_option maxRecDepth 8000 in
theorem w_654 : Cond.code (⟨"KindSayings$Proof", "work", "(JII)V"⟩) prog_3_method_2_code 7 none ∈ Gd := Gd_3 109 rfl rfl
set_option maxRecDepth 8000 in
theorem w_656 : Cond.methodLink "KindSayings$Proof" 33 (⟨"KindSayings$Proof", "isSame", "(I)Z"⟩) ∈ Gd := Gd_3 111 rfl rfl
set_option maxRecDepth 8000 in
theorem w_658 : Cond.instanceMethod (⟨"KindSayings$Proof", "isSame", "(I)Z"⟩) ∈ Gd := Gd_3 113 rfl rfl
set_option maxRecDepth 8000 in
theorem w_659 : Cond.code (⟨"KindSayings$Proof", "isSame", "(I)Z"⟩) prog_3_method_6_code 2 (Option.some FieldType.boolean) ∈ Gd := Gd_3 114 rfl rfl
set_option maxRecDepth 8000 in
theorem w_660 : Cond.methodLink "KindSayings$Proof" 50 (⟨"KindSayings$Proof", "isOfKinds", "(I)Z"⟩) ∈ Gd := Gd_3 115 rfl rfl
set_option maxRecDepth 8000 in
theorem w_662 : Cond.instanceMethod (⟨"KindSayings$Proof", "isOfKinds", "(I)Z"⟩) ∈ Gd := Gd_3 117 rfl rfl
set_option maxRecDepth 8000 in
theorem w_663 : Cond.code (⟨"KindSayings$Proof", "isOfKinds", "(I)Z"⟩) prog_3_method_5_code 2 (Option.some FieldType.boolean) ∈ Gd := Gd_3 118 rfl rfl
set_option maxRecDepth 8000 in
theorem w_664 : Cond.methodLink "KindSayings$Proof" 37 (⟨"KindSayings$Proof", "isTold", "(I)Z"⟩) ∈ Gd := Gd_3 119 rfl rfl
set_option maxRecDepth 8000 in
theorem w_666 : Cond.instanceMethod (⟨"KindSayings$Proof", "isTold", "(I)Z"⟩) ∈ Gd := Gd_3 121 rfl rfl
set_option maxRecDepth 8000 in
theorem w_667 : Cond.code (⟨"KindSayings$Proof", "isTold", "(I)Z"⟩) prog_3_method_4_code 2 (Option.some FieldType.boolean) ∈ Gd := Gd_3 122 rfl rfl
set_option maxRecDepth 8000 in
theorem w_668 : Cond.methodLink "KindSayings$Proof" 40 (⟨"KindSayings$Proof", "factsAhead", "(I)J"⟩) ∈ Gd := Gd_3 123 rfl rfl
set_option maxRecDepth 8000 in
theorem w_670 : Cond.instanceMethod (⟨"KindSayings$Proof", "factsAhead", "(I)J"⟩) ∈ Gd := Gd_3 125 rfl rfl
set_option maxRecDepth 8000 in
theorem w_671 : Cond.code (⟨"KindSayings$Proof", "factsAhead", "(I)J"⟩) prog_3_method_9_code 5 (Option.some FieldType.long) ∈ Gd := Gd_3 126 rfl rfl
set_option maxRecDepth 8000 in
theorem w_672 : Cond.methodLink "KindSayings$Proof" 47 (⟨"KindSayings$Proof", "isAnyComing", "(I)Z"⟩) ∈ Gd := Gd_3 127 rfl rfl
set_option maxRecDepth 8000 in
theorem w_674 : Cond.instanceMethod (⟨"KindSayings$Proof", "isAnyComing", "(I)Z"⟩) ∈ Gd := Gd_3 129 rfl rfl
set_option maxRecDepth 8000 in
theorem w_675 : Cond.code (⟨"KindSayings$Proof", "isAnyComing", "(I)Z"⟩) prog_3_method_3_code 4 (Option.some FieldType.boolean) ∈ Gd := Gd_3 130 rfl rfl
set_option maxRecDepth 8000 in
theorem w_676 : Cond.methodLink "KindSayings$Proof" 53 (⟨"KindSayings$Proof", "leastMood", "(I)I"⟩) ∈ Gd := Gd_3 131 rfl rfl
set_option maxRecDepth 8000 in
theorem w_678 : Cond.instanceMethod (⟨"KindSayings$Proof", "leastMood", "(I)I"⟩) ∈ Gd := Gd_3 133 rfl rfl
set_option maxRecDepth 8000 in
theorem w_679 : Cond.code (⟨"KindSayings$Proof", "leastMood", "(I)I"⟩) prog_3_method_11_code 4 (Option.some FieldType.int) ∈ Gd := Gd_3 134 rfl rfl
set_option maxRecDepth 8000 in
theorem w_682 : Cond.methodLink "KindSayings$Proof" 69 (⟨"KindSayings$Proof", "isShowing", "(III)Z"⟩) ∈ Gd := Gd_3 137 rfl rfl
set_option maxRecDepth 8000 in
theorem w_684 : Cond.instanceMethod (⟨"KindSayings$Proof", "isShowing", "(III)Z"⟩) ∈ Gd := Gd_3 139 rfl rfl
set_option maxRecDepth 8000 in
theorem w_685 : Cond.code (⟨"KindSayings$Proof", "isShowing", "(III)Z"⟩) prog_3_method_12_code 9 (Option.some FieldType.boolean) ∈ Gd := Gd_3 140 rfl rfl
set_option maxRecDepth 8000 in
theorem w_691 : Cond.methodLink "KindSayings$Proof" 83 (⟨"KindSayings$Proof", "isShownOf", "(II)Z"⟩) ∈ Gd := Gd_3 146 rfl rfl
set_option maxRecDepth 8000 in
theorem w_693 : Cond.instanceMethod (⟨"KindSayings$Proof", "isShownOf", "(II)Z"⟩) ∈ Gd := Gd_3 148 rfl rfl
set_option maxRecDepth 8000 in
theorem w_694 : Cond.code (⟨"KindSayings$Proof", "isShownOf", "(II)Z"⟩) prog_3_method_13_code 5 (Option.some FieldType.boolean) ∈ Gd := Gd_3 149 rfl rfl
set_option maxRecDepth 8000 in
theorem w_695 : Cond.methodLink "KindSayings" 185 (⟨"KindSayings", "factNumber", "(III)I"⟩) ∈ Gd := Gd_3 150 rfl rfl
set_option maxRecDepth 8000 in
theorem w_696 : Cond.methodLink "KindSayings" 189 (⟨"KindSayings$Proof", "roundAt", "(I)I"⟩) ∈ Gd := Gd_3 151 rfl rfl
set_option maxRecDepth 8000 in
theorem w_697 : Cond.instanceMethod (⟨"KindSayings$Proof", "roundAt", "(I)I"⟩) ∈ Gd := Gd_3 152 rfl rfl
set_option maxRecDepth 8000 in
theorem w_698 : Cond.selects "KindSayings$Proof" (⟨"KindSayings$Proof", "roundAt", "(I)I"⟩) (⟨"KindSayings$Proof", "roundAt", "(I)I"⟩) ∈ Gd := Gd_3 153 rfl rfl
set_option maxRecDepth 8000 in
theorem w_699 : Cond.code (⟨"KindSayings$Proof", "roundAt", "(I)I"⟩) prog_3_method_7_code 2 (Option.some FieldType.int) ∈ Gd := Gd_3 154 rfl rfl
set_option maxRecDepth 8000 in
theorem w_700 : Cond.methodLink "KindSayingsLaw" 105 (⟨"KindSayings", "by", "(IIIII)I"⟩) ∈ Gd := Gd_3 155 rfl rfl
set_option maxRecDepth 8000 in
theorem w_701 : Cond.instanceMethod (⟨"KindSayings", "by", "(IIIII)I"⟩) ∈ Gd := Gd_3 156 rfl rfl
set_option maxRecDepth 8000 in
theorem w_702 : Cond.selects "KindSayings" (⟨"KindSayings", "by", "(IIIII)I"⟩) (⟨"KindSayings", "by", "(IIIII)I"⟩) ∈ Gd := Gd_3 157 rfl rfl
set_option maxRecDepth 8000 in
theorem w_703 : Cond.code (⟨"KindSayings", "by", "(IIIII)I"⟩) prog_1_method_23_code 6 (Option.some FieldType.int) ∈ Gd := Gd_3 158 rfl rfl
set_option maxRecDepth 8000 in
theorem w_704 : Cond.methodLink "KindSayings" 192 (⟨"KindSayings$Proof", "step", "(II)I"⟩) ∈ Gd := Gd_3 159 rfl rfl
set_option maxRecDepth 8000 in
theorem w_705 : Cond.instanceMethod (⟨"KindSayings$Proof", "step", "(II)I"⟩) ∈ Gd := Gd_3 160 rfl rfl
set_option maxRecDepth 8000 in
theorem w_706 : Cond.selects "KindSayings$Proof" (⟨"KindSayings$Proof", "step", "(II)I"⟩) (⟨"KindSayings$Proof", "step", "(II)I"⟩) ∈ Gd := Gd_3 161 rfl rfl
set_option maxRecDepth 8000 in
theorem w_707 : Cond.code (⟨"KindSayings$Proof", "step", "(II)I"⟩) prog_3_method_10_code 5 (Option.some FieldType.int) ∈ Gd := Gd_3 162 rfl rfl
set_option maxRecDepth 8000 in
theorem w_708 : Cond.methodLink "KindSayings$Proof" 57 (⟨"KindSayings$Proof", "roundAt", "(I)I"⟩) ∈ Gd := Gd_3 163 rfl rfl
set_option maxRecDepth 8000 in
theorem w_709 : Cond.methodLink "KindSayingsLaw" 110 (⟨"KindSayings", "shown", "(II)I"⟩) ∈ Gd := Gd_3 164 rfl rfl
set_option maxRecDepth 8000 in
theorem w_710 : Cond.instanceMethod (⟨"KindSayings", "shown", "(II)I"⟩) ∈ Gd := Gd_3 165 rfl rfl
set_option maxRecDepth 8000 in
theorem w_711 : Cond.selects "KindSayings" (⟨"KindSayings", "shown", "(II)I"⟩) (⟨"KindSayings", "shown", "(II)I"⟩) ∈ Gd := Gd_3 166 rfl rfl
set_option maxRecDepth 8000 in
theorem w_712 : Cond.code (⟨"KindSayings", "shown", "(II)I"⟩) prog_1_method_24_code 5 (Option.some FieldType.int) ∈ Gd := Gd_3 167 rfl rfl
set_option maxRecDepth 8000 in
theorem w_713 : Cond.methodLink "KindSayings" 195 (⟨"KindSayings$Proof", "facts", "()J"⟩) ∈ Gd := Gd_3 168 rfl rfl
set_option maxRecDepth 8000 in
theorem w_714 : Cond.instanceMethod (⟨"KindSayings$Proof", "facts", "()J"⟩) ∈ Gd := Gd_3 169 rfl rfl
set_option maxRecDepth 8000 in
theorem w_715 : Cond.selects "KindSayings$Proof" (⟨"KindSayings$Proof", "facts", "()J"⟩) (⟨"KindSayings$Proof", "facts", "()J"⟩) ∈ Gd := Gd_3 170 rfl rfl
set_option maxRecDepth 8000 in
theorem w_716 : Cond.code (⟨"KindSayings$Proof", "facts", "()J"⟩) prog_3_method_8_code 1 (Option.some FieldType.long) ∈ Gd := Gd_3 171 rfl rfl
set_option maxRecDepth 8000 in
theorem w_717 : Cond.methodLink "KindSayings" 199 (⟨"java/lang/Long", "bitCount", "(J)I"⟩) ∈ Gd := Gd_3 172 rfl rfl
set_option maxRecDepth 8000 in
theorem w_718 : Cond.static (⟨"java/lang/Long", "bitCount", "(J)I"⟩) ∈ Gd := Gd_3 173 rfl rfl
set_option maxRecDepth 8000 in
theorem w_719 : Cond.code (⟨"java/lang/Long", "bitCount", "(J)I"⟩) prog_11_method_50_code 2 (Option.some FieldType.int) ∈ Gd := Gd_3 174 rfl rfl
set_option maxRecDepth 8000 in
theorem w_720 : Cond.constantLong "java/lang/Long" 314 (6148914691236517205 : Int64) ∈ Gd := Gd_3 175 rfl rfl
set_option maxRecDepth 8000 in
theorem w_721 : Cond.constantLong "java/lang/Long" 316 (3689348814741910323 : Int64) ∈ Gd := Gd_3 176 rfl rfl
set_option maxRecDepth 8000 in
theorem w_722 : Cond.constantLong "java/lang/Long" 318 (1085102592571150095 : Int64) ∈ Gd := Gd_3 177 rfl rfl
set_option maxRecDepth 8000 in
theorem w_723 : Cond.methodLink "KindSayings" 207 (⟨"KindSayings", "isQuarrel", "(J)Z"⟩) ∈ Gd := Gd_3 178 rfl rfl
set_option maxRecDepth 8000 in
theorem w_724 : Cond.static (⟨"KindSayings", "isQuarrel", "(J)Z"⟩) ∈ Gd := Gd_3 179 rfl rfl
set_option maxRecDepth 8000 in
theorem w_725 : Cond.code (⟨"KindSayings", "isQuarrel", "(J)Z"⟩) prog_1_method_42_code 10 (Option.some FieldType.boolean) ∈ Gd := Gd_3 180 rfl rfl
set_option maxRecDepth 8000 in
theorem w_726 : Cond.constantLong "KindSayings" 236 (65535 : Int64) ∈ Gd := Gd_3 181 rfl rfl
set_option maxRecDepth 8000 in
theorem w_727 : Cond.methodLink "KindSayings" 211 (⟨"KindSayings$Heaps", "factsOf", "(I)J"⟩) ∈ Gd := Gd_3 182 rfl rfl
set_option maxRecDepth 8000 in
theorem w_728 : Cond.instanceMethod (⟨"KindSayings$Heaps", "factsOf", "(I)J"⟩) ∈ Gd := Gd_3 183 rfl rfl
set_option maxRecDepth 8000 in
theorem w_729 : Cond.selects "KindSayings$Heaps" (⟨"KindSayings$Heaps", "factsOf", "(I)J"⟩) (⟨"KindSayings$Heaps", "factsOf", "(I)J"⟩) ∈ Gd := Gd_3 184 rfl rfl
set_option maxRecDepth 8000 in
theorem w_730 : Cond.code (⟨"KindSayings$Heaps", "factsOf", "(I)J"⟩) prog_2_method_17_code 11 (Option.some FieldType.long) ∈ Gd := Gd_3 185 rfl rfl
set_option maxRecDepth 8000 in
theorem w_731 : Cond.constantLong "KindSayings$Heaps" 113 (-1 : Int64) ∈ Gd := Gd_3 186 rfl rfl
set_option maxRecDepth 8000 in
theorem w_732 : Cond.methodLink "KindSayings$Heaps" 115 (⟨"KindSayings$Walk", "witnessed", "([J)J"⟩) ∈ Gd := Gd_3 187 rfl rfl
set_option maxRecDepth 8000 in
theorem w_733 : Cond.instanceMethod (⟨"KindSayings$Walk", "witnessed", "([J)J"⟩) ∈ Gd := Gd_3 188 rfl rfl
set_option maxRecDepth 8000 in
theorem w_734 : Cond.selects "KindSayings$Walk" (⟨"KindSayings$Walk", "witnessed", "([J)J"⟩) (⟨"KindSayings$Walk", "witnessed", "([J)J"⟩) ∈ Gd := Gd_3 189 rfl rfl
set_option maxRecDepth 8000 in
theorem w_735 : Cond.code (⟨"KindSayings$Walk", "witnessed", "([J)J"⟩) prog_7_method_6_code 6 (Option.some FieldType.long) ∈ Gd := Gd_3 190 rfl rfl
set_option maxRecDepth 8000 in
theorem w_736 : Cond.constantLong "KindSayings$Heaps" 119 (4294901760 : Int64) ∈ Gd := Gd_3 191 rfl rfl
set_option maxRecDepth 8000 in
theorem w_737 : Cond.constantLong "KindSayings$Heaps" 121 (-281474976710656 : Int64) ∈ Gd := Gd_3 192 rfl rfl
set_option maxRecDepth 8000 in
theorem w_738 : Cond.constantLong "KindSayings$Heaps" 123 (-281470681808896 : Int64) ∈ Gd := Gd_3 193 rfl rfl
set_option maxRecDepth 8000 in
theorem w_739 : Cond.methodLink "KindSayings" 215 (⟨"KindSayings", "everyFact", "()J"⟩) ∈ Gd := Gd_3 194 rfl rfl
set_option maxRecDepth 8000 in
theorem w_741 : Cond.instanceMethod (⟨"KindSayings", "everyFact", "()J"⟩) ∈ Gd := Gd_3 196 rfl rfl
set_option maxRecDepth 8000 in
theorem w_742 : Cond.code (⟨"KindSayings", "everyFact", "()J"⟩) prog_1_method_37_code 6 (Option.some FieldType.long) ∈ Gd := Gd_3 197 rfl rfl
set_option maxRecDepth 8000 in
theorem w_743 : Cond.constantLong "KindSayings" 218 (-1 : Int64) ∈ Gd := Gd_3 198 rfl rfl
set_option maxRecDepth 8000 in
theorem w_744 : Cond.methodLink "KindSayingsLaw" 114 (⟨"KindSayings", "count", "(I)I"⟩) ∈ Gd := Gd_3 199 rfl rfl
set_option maxRecDepth 8000 in
theorem w_745 : Cond.instanceMethod (⟨"KindSayings", "count", "(I)I"⟩) ∈ Gd := Gd_3 200 rfl rfl
set_option maxRecDepth 8000 in
theorem w_746 : Cond.selects "KindSayings" (⟨"KindSayings", "count", "(I)I"⟩) (⟨"KindSayings", "count", "(I)I"⟩) ∈ Gd := Gd_3 201 rfl rfl
set_option maxRecDepth 8000 in
theorem w_747 : Cond.code (⟨"KindSayings", "count", "(I)I"⟩) prog_1_method_25_code 2 (Option.some FieldType.int) ∈ Gd := Gd_3 202 rfl rfl
set_option maxRecDepth 8000 in
theorem w_748 : Cond.methodLink "KindSayings" 220 (⟨"KindSayings", "plainSayings", "()I"⟩) ∈ Gd := Gd_3 203 rfl rfl
set_option maxRecDepth 8000 in
theorem w_750 : Cond.instanceMethod (⟨"KindSayings", "plainSayings", "()I"⟩) ∈ Gd := Gd_3 205 rfl rfl
set_option maxRecDepth 8000 in
theorem w_751 : Cond.code (⟨"KindSayings", "plainSayings", "()I"⟩) prog_1_method_36_code 4 (Option.some FieldType.int) ∈ Gd := Gd_3 206 rfl rfl
set_option maxRecDepth 8000 in
theorem w_752 : Cond.classLink "KindSayingsLaw" 10 "KindSayingsModel" ∈ Gd := Gd_3 207 rfl rfl
set_option maxRecDepth 8000 in
theorem w_753 : Cond.instantiable "KindSayingsModel" 29 ∈ Gd := Gd_3 208 rfl rfl
set_option maxRecDepth 8000 in
theorem w_754 : Cond.methodLink "KindSayingsLaw" 12 (⟨"KindSayingsModel", "<init>", "()V"⟩) ∈ Gd := Gd_3 209 rfl rfl
set_option maxRecDepth 8000 in
theorem w_755 : Cond.instanceMethod (⟨"KindSayingsModel", "<init>", "()V"⟩) ∈ Gd := Gd_3 210 rfl rfl
set_option maxRecDepth 8000 in
theorem w_756 : Cond.code (⟨"KindSayingsModel", "<init>", "()V"⟩) prog_9_method_1_code 1 none ∈ Gd := Gd_3 211 rfl rfl
set_option maxRecDepth 8000 in
theorem w_757 : Cond.methodLink "KindSayingsModel" 1 (⟨"java/lang/Object", "<init>", "()V"⟩) ∈ Gd := Gd_3 212 rfl rfl
set_option maxRecDepth 8000 in
theorem w_758 : Cond.methodLink "KindSayingsModel" 54 (⟨"KindSayingsModel", "begins", "()V"⟩) ∈ Gd := Gd_3 213 rfl rfl
set_option maxRecDepth 8000 in
theorem w_760 : Cond.instanceMethod (⟨"KindSayingsModel", "begins", "()V"⟩) ∈ Gd := Gd_3 215 rfl rfl
set_option maxRecDepth 8000 in
theorem w_761 : Cond.code (⟨"KindSayingsModel", "begins", "()V"⟩) prog_9_method_6_code 2 none ∈ Gd := Gd_3 216 rfl rfl
set_option maxRecDepth 8000 in
theorem w_762 : Cond.methodLink "KindSayingsModel" 64 (⟨"KindSayingsModel", "of", "(I)I"⟩) ∈ Gd := Gd_3 217 rfl rfl
set_option maxRecDepth 8000 in
theorem w_764 : Cond.instanceMethod (⟨"KindSayingsModel", "of", "(I)I"⟩) ∈ Gd := Gd_3 219 rfl rfl
set_option maxRecDepth 8000 in
theorem w_765 : Cond.code (⟨"KindSayingsModel", "of", "(I)I"⟩) prog_9_method_5_code 4 (Option.some FieldType.int) ∈ Gd := Gd_3 220 rfl rfl
set_option maxRecDepth 8000 in
theorem w_766 : Cond.methodLink "KindSayingsModel" 60 (⟨"KindSayingsModel", "sorts", "()I"⟩) ∈ Gd := Gd_3 221 rfl rfl
set_option maxRecDepth 8000 in
theorem w_768 : Cond.instanceMethod (⟨"KindSayingsModel", "sorts", "()I"⟩) ∈ Gd := Gd_3 223 rfl rfl
set_option maxRecDepth 8000 in
theorem w_769 : Cond.code (⟨"KindSayingsModel", "sorts", "()I"⟩) prog_9_method_4_code 1 (Option.some FieldType.int) ∈ Gd := Gd_3 224 rfl rfl
set_option maxRecDepth 8000 in
theorem w_770 : Cond.fieldLink "KindSayingsModel" 57 "KindSayingsModel" "thrown" "I" ∈ Gd := Gd_3 225 rfl rfl
set_option maxRecDepth 8000 in
theorem w_771 : Cond.fieldLink "KindSayingsModel" 7 "KindSayingsModel" "k" "I" ∈ Gd := Gd_3 226 rfl rfl
set_option maxRecDepth 8000 in
theorem w_772 : Cond.fieldLink "KindSayingsModel" 13 "KindSayingsModel" "n" "I" ∈ Gd := Gd_3 227 rfl rfl
set_option maxRecDepth 8000 in
theorem w_773 : Cond.fieldLink "KindSayingsModel" 16 "KindSayingsModel" "moods" "I" ∈ Gd := Gd_3 228 rfl rfl
set_option maxRecDepth 8000 in
theorem w_774 : Cond.fieldLink "KindSayingsModel" 19 "KindSayingsModel" "world" "[I" ∈ Gd := Gd_3 229 rfl rfl
set_option maxRecDepth 8000 in
theorem w_775 : Cond.fieldLink "KindSayingsModel" 23 "KindSayingsModel" "text" "[I" ∈ Gd := Gd_3 230 rfl rfl
set_option maxRecDepth 8000 in
theorem w_776 : Cond.fieldLink "KindSayingsModel" 98 "KindSayingsModel" "typed" "I" ∈ Gd := Gd_3 231 rfl rfl
set_option maxRecDepth 8000 in
theorem w_777 : Cond.fieldLink "KindSayingsModel" 113 "KindSayingsModel" "next" "I" ∈ Gd := Gd_3 232 rfl rfl
set_option maxRecDepth 8000 in
theorem w_778 : Cond.fieldLink "KindSayingsModel" 122 "KindSayingsModel" "token" "I" ∈ Gd := Gd_3 233 rfl rfl
set_option maxRecDepth 8000 in
theorem w_779 : Cond.fieldLink "KindSayingsModel" 119 "KindSayingsModel" "place" "I" ∈ Gd := Gd_3 234 rfl rfl
set_option maxRecDepth 8000 in
theorem w_780 : Cond.fieldLink "KindSayingsModel" 129 "KindSayingsModel" "value" "I" ∈ Gd := Gd_3 235 rfl rfl
set_option maxRecDepth 8000 in
theorem w_781 : Cond.fieldLink "KindSayingsModel" 132 "KindSayingsModel" "fault" "I" ∈ Gd := Gd_3 236 rfl rfl
set_option maxRecDepth 8000 in
theorem w_782 : Cond.fieldLink "KindSayingsModel" 148 "KindSayingsModel" "counted" "I" ∈ Gd := Gd_3 237 rfl rfl
set_option maxRecDepth 8000 in
theorem w_783 : Cond.fieldLink "KindSayingsModel" 26 "KindSayingsModel" "saying" "[I" ∈ Gd := Gd_3 238 rfl rfl
set_option maxRecDepth 8000 in
theorem w_784 : Cond.fieldLink "KindSayingsModel" 29 "KindSayingsModel" "values" "[I" ∈ Gd := Gd_3 239 rfl rfl
set_option maxRecDepth 8000 in
theorem w_785 : Cond.fieldLink "KindSayingsModel" 32 "KindSayingsModel" "signs" "[I" ∈ Gd := Gd_4 0 rfl rfl
set_option maxRecDepth 8000 in
theorem w_786 : Cond.fieldLink "KindSayingsModel" 139 "KindSayingsModel" "alone" "I" ∈ Gd := Gd_4 1 rfl rfl
set_option maxRecDepth 8000 in
theorem w_787 : Cond.fieldLink "KindSayingsModel" 68 "KindSayingsModel" "isLoaded" "Z" ∈ Gd := Gd_4 2 rfl rfl
set_option maxRecDepth 8000 in
theorem w_788 : Cond.fieldLink "KindSayingsModel" 79 "KindSayingsModel" "worlds" "I" ∈ Gd := Gd_4 3 rfl rfl
set_option maxRecDepth 8000 in
theorem w_789 : Cond.fieldLink "KindSayingsModel" 35 "KindSayingsModel" "things" "[I" ∈ Gd := Gd_4 4 rfl rfl
set_option maxRecDepth 8000 in
theorem w_790 : Cond.fieldLink "KindSayingsModel" 38 "KindSayingsModel" "many" "[I" ∈ Gd := Gd_4 5 rfl rfl
set_option maxRecDepth 8000 in
theorem w_791 : Cond.fieldLink "KindSayingsModel" 41 "KindSayingsModel" "order" "[I" ∈ Gd := Gd_4 6 rfl rfl
set_option maxRecDepth 8000 in
theorem w_792 : Cond.fieldLink "KindSayingsModel" 44 "KindSayingsModel" "firsts" "[I" ∈ Gd := Gd_4 7 rfl rfl
set_option maxRecDepth 8000 in
theorem w_793 : Cond.fieldLink "KindSayingsModel" 47 "KindSayingsModel" "facts" "[J" ∈ Gd := Gd_4 8 rfl rfl
set_option maxRecDepth 8000 in
theorem w_794 : Cond.fieldLink "KindSayingsModel" 51 "KindSayingsModel" "round" "[I" ∈ Gd := Gd_4 9 rfl rfl
set_option maxRecDepth 8000 in
theorem w_795 : Cond.fieldLink "KindSayingsModel" 213 "KindSayingsModel" "rounds" "I" ∈ Gd := Gd_4 10 rfl rfl
set_option maxRecDepth 8000 in
theorem w_796 : Cond.fieldLink "KindSayingsModel" 198 "KindSayingsModel" "byMood" "I" ∈ Gd := Gd_4 11 rfl rfl
set_option maxRecDepth 8000 in
theorem w_797 : Cond.fieldLink "KindSayingsModel" 201 "KindSayingsModel" "byFirst" "I" ∈ Gd := Gd_4 12 rfl rfl
set_option maxRecDepth 8000 in
theorem w_798 : Cond.fieldLink "KindSayingsModel" 204 "KindSayingsModel" "bySecond" "I" ∈ Gd := Gd_4 13 rfl rfl
set_option maxRecDepth 8000 in
theorem w_858 : Cond.methodLink "KindSayingsLaw" 17 (⟨"KindSayingsModel", "kinds", "(I)I"⟩) ∈ Gd := Gd_4 73 rfl rfl
set_option maxRecDepth 8000 in
theorem w_859 : Cond.instanceMethod (⟨"KindSayingsModel", "kinds", "(I)I"⟩) ∈ Gd := Gd_4 74 rfl rfl
set_option maxRecDepth 8000 in
theorem w_860 : Cond.selects "KindSayingsModel" (⟨"KindSayingsModel", "kinds", "(I)I"⟩) (⟨"KindSayingsModel", "kinds", "(I)I"⟩) ∈ Gd := Gd_4 75 rfl rfl
set_option maxRecDepth 8000 in
theorem w_861 : Cond.code (⟨"KindSayingsModel", "kinds", "(I)I"⟩) prog_9_method_9_code 3 (Option.some FieldType.int) ∈ Gd := Gd_4 76 rfl rfl
set_option maxRecDepth 8000 in
theorem w_862 : Cond.methodLink "KindSayingsModel" 72 (⟨"KindSayingsModel", "in", "(III)Z"⟩) ∈ Gd := Gd_4 77 rfl rfl
set_option maxRecDepth 8000 in
theorem w_863 : Cond.static (⟨"KindSayingsModel", "in", "(III)Z"⟩) ∈ Gd := Gd_4 78 rfl rfl
set_option maxRecDepth 8000 in
theorem w_864 : Cond.code (⟨"KindSayingsModel", "in", "(III)Z"⟩) prog_9_method_3_code 3 (Option.some FieldType.boolean) ∈ Gd := Gd_4 79 rfl rfl
set_option maxRecDepth 8000 in
theorem w_865 : Cond.methodLink "KindSayingsLaw" 21 (⟨"KindSayingsModel", "most", "(I)I"⟩) ∈ Gd := Gd_4 80 rfl rfl
set_option maxRecDepth 8000 in
theorem w_866 : Cond.instanceMethod (⟨"KindSayingsModel", "most", "(I)I"⟩) ∈ Gd := Gd_4 81 rfl rfl
set_option maxRecDepth 8000 in
theorem w_867 : Cond.selects "KindSayingsModel" (⟨"KindSayingsModel", "most", "(I)I"⟩) (⟨"KindSayingsModel", "most", "(I)I"⟩) ∈ Gd := Gd_4 82 rfl rfl
set_option maxRecDepth 8000 in
theorem w_868 : Cond.code (⟨"KindSayingsModel", "most", "(I)I"⟩) prog_9_method_10_code 3 (Option.some FieldType.int) ∈ Gd := Gd_4 83 rfl rfl
set_option maxRecDepth 8000 in
theorem w_869 : Cond.methodLink "KindSayingsLaw" 26 (⟨"KindSayingsModel", "worlds", "()I"⟩) ∈ Gd := Gd_4 84 rfl rfl
set_option maxRecDepth 8000 in
theorem w_870 : Cond.instanceMethod (⟨"KindSayingsModel", "worlds", "()I"⟩) ∈ Gd := Gd_4 85 rfl rfl
set_option maxRecDepth 8000 in
theorem w_871 : Cond.selects "KindSayingsModel" (⟨"KindSayingsModel", "worlds", "()I"⟩) (⟨"KindSayingsModel", "worlds", "()I"⟩) ∈ Gd := Gd_4 86 rfl rfl
set_option maxRecDepth 8000 in
theorem w_872 : Cond.code (⟨"KindSayingsModel", "worlds", "()I"⟩) prog_9_method_11_code 1 (Option.some FieldType.int) ∈ Gd := Gd_4 87 rfl rfl
set_option maxRecDepth 8000 in
theorem w_873 : Cond.methodLink "KindSayingsModel" 76 (⟨"KindSayingsModel", "loads", "()V"⟩) ∈ Gd := Gd_4 88 rfl rfl
set_option maxRecDepth 8000 in
theorem w_875 : Cond.instanceMethod (⟨"KindSayingsModel", "loads", "()V"⟩) ∈ Gd := Gd_4 90 rfl rfl
set_option maxRecDepth 8000 in
theorem w_876 : Cond.code (⟨"KindSayingsModel", "loads", "()V"⟩) prog_9_method_37_code 6 none ∈ Gd := Gd_4 91 rfl rfl
set_option maxRecDepth 8000 in
theorem w_877 : Cond.methodLink "KindSayingsModel" 175 (⟨"KindSayingsModel", "takes", "()V"⟩) ∈ Gd := Gd_4 92 rfl rfl
set_option maxRecDepth 8000 in
theorem w_879 : Cond.instanceMethod (⟨"KindSayingsModel", "takes", "()V"⟩) ∈ Gd := Gd_4 94 rfl rfl
set_option maxRecDepth 8000 in
theorem w_880 : Cond.code (⟨"KindSayingsModel", "takes", "()V"⟩) prog_9_method_36_code 5 none ∈ Gd := Gd_4 95 rfl rfl
set_option maxRecDepth 8000 in
theorem w_881 : Cond.methodLink "KindSayingsModel" 94 (⟨"KindSayingsModel", "isSo", "(I[I)Z"⟩) ∈ Gd := Gd_4 96 rfl rfl
set_option maxRecDepth 8000 in
theorem w_883 : Cond.instanceMethod (⟨"KindSayingsModel", "isSo", "(I[I)Z"⟩) ∈ Gd := Gd_4 98 rfl rfl
set_option maxRecDepth 8000 in
theorem w_884 : Cond.code (⟨"KindSayingsModel", "isSo", "(I[I)Z"⟩) prog_9_method_15_code 9 (Option.some FieldType.boolean) ∈ Gd := Gd_4 99 rfl rfl
set_option maxRecDepth 8000 in
theorem w_885 : Cond.methodLink "KindSayingsModel" 86 (⟨"KindSayingsModel", "sizeOf", "(I[I)I"⟩) ∈ Gd := Gd_4 100 rfl rfl
set_option maxRecDepth 8000 in
theorem w_887 : Cond.instanceMethod (⟨"KindSayingsModel", "sizeOf", "(I[I)I"⟩) ∈ Gd := Gd_4 102 rfl rfl
set_option maxRecDepth 8000 in
theorem w_888 : Cond.code (⟨"KindSayingsModel", "sizeOf", "(I[I)I"⟩) prog_9_method_14_code 5 (Option.some FieldType.int) ∈ Gd := Gd_4 103 rfl rfl
set_option maxRecDepth 8000 in
theorem w_889 : Cond.constantLong "KindSayingsModel" 170 (-1 : Int64) ∈ Gd := Gd_4 104 rfl rfl
set_option maxRecDepth 8000 in
theorem w_890 : Cond.methodLink "KindSayingsModel" 172 (⟨"KindSayingsModel", "isFact", "(III)Z"⟩) ∈ Gd := Gd_4 105 rfl rfl
set_option maxRecDepth 8000 in
theorem w_892 : Cond.instanceMethod (⟨"KindSayingsModel", "isFact", "(III)Z"⟩) ∈ Gd := Gd_4 107 rfl rfl
set_option maxRecDepth 8000 in
theorem w_893 : Cond.code (⟨"KindSayingsModel", "isFact", "(III)Z"⟩) prog_9_method_35_code 7 (Option.some FieldType.boolean) ∈ Gd := Gd_4 108 rfl rfl
set_option maxRecDepth 8000 in
theorem w_894 : Cond.methodLink "KindSayingsLaw" 31 (⟨"KindSayingsModel", "put", "(II)I"⟩) ∈ Gd := Gd_4 109 rfl rfl
set_option maxRecDepth 8000 in
theorem w_895 : Cond.instanceMethod (⟨"KindSayingsModel", "put", "(II)I"⟩) ∈ Gd := Gd_4 110 rfl rfl
set_option maxRecDepth 8000 in
theorem w_896 : Cond.selects "KindSayingsModel" (⟨"KindSayingsModel", "put", "(II)I"⟩) (⟨"KindSayingsModel", "put", "(II)I"⟩) ∈ Gd := Gd_4 111 rfl rfl
set_option maxRecDepth 8000 in
theorem w_897 : Cond.code (⟨"KindSayingsModel", "put", "(II)I"⟩) prog_9_method_13_code 4 (Option.some FieldType.int) ∈ Gd := Gd_4 112 rfl rfl
set_option maxRecDepth 8000 in
theorem w_898 : Cond.methodLink "KindSayingsModel" 82 (⟨"KindSayingsModel", "all", "([I)I"⟩) ∈ Gd := Gd_4 113 rfl rfl
set_option maxRecDepth 8000 in
theorem w_900 : Cond.instanceMethod (⟨"KindSayingsModel", "all", "([I)I"⟩) ∈ Gd := Gd_4 115 rfl rfl
set_option maxRecDepth 8000 in
theorem w_901 : Cond.code (⟨"KindSayingsModel", "all", "([I)I"⟩) prog_9_method_12_code 4 (Option.some FieldType.int) ∈ Gd := Gd_4 116 rfl rfl
set_option maxRecDepth 8000 in
theorem w_902 : Cond.methodLink "KindSayingsLaw" 35 (⟨"KindSayingsModel", "holds", "(I)I"⟩) ∈ Gd := Gd_4 117 rfl rfl
set_option maxRecDepth 8000 in
theorem w_903 : Cond.instanceMethod (⟨"KindSayingsModel", "holds", "(I)I"⟩) ∈ Gd := Gd_4 118 rfl rfl
set_option maxRecDepth 8000 in
theorem w_904 : Cond.selects "KindSayingsModel" (⟨"KindSayingsModel", "holds", "(I)I"⟩) (⟨"KindSayingsModel", "holds", "(I)I"⟩) ∈ Gd := Gd_4 119 rfl rfl
set_option maxRecDepth 8000 in
theorem w_905 : Cond.code (⟨"KindSayingsModel", "holds", "(I)I"⟩) prog_9_method_16_code 2 (Option.some FieldType.int) ∈ Gd := Gd_4 120 rfl rfl
set_option maxRecDepth 8000 in
theorem w_906 : Cond.methodLink "KindSayingsModel" 90 (⟨"KindSayingsModel", "isSaying", "(I)Z"⟩) ∈ Gd := Gd_4 121 rfl rfl
set_option maxRecDepth 8000 in
theorem w_907 : Cond.static (⟨"KindSayingsModel", "isSaying", "(I)Z"⟩) ∈ Gd := Gd_4 122 rfl rfl
set_option maxRecDepth 8000 in
theorem w_908 : Cond.code (⟨"KindSayingsModel", "isSaying", "(I)Z"⟩) prog_9_method_7_code 1 (Option.some FieldType.boolean) ∈ Gd := Gd_4 123 rfl rfl
set_option maxRecDepth 8000 in
theorem w_909 : Cond.methodLink "KindSayingsLaw" 39 (⟨"KindSayingsModel", "size", "(II)I"⟩) ∈ Gd := Gd_4 124 rfl rfl
set_option maxRecDepth 8000 in
theorem w_910 : Cond.instanceMethod (⟨"KindSayingsModel", "size", "(II)I"⟩) ∈ Gd := Gd_4 125 rfl rfl
set_option maxRecDepth 8000 in
theorem w_911 : Cond.selects "KindSayingsModel" (⟨"KindSayingsModel", "size", "(II)I"⟩) (⟨"KindSayingsModel", "size", "(II)I"⟩) ∈ Gd := Gd_4 126 rfl rfl
set_option maxRecDepth 8000 in
theorem w_912 : Cond.code (⟨"KindSayingsModel", "size", "(II)I"⟩) prog_9_method_17_code 5 (Option.some FieldType.int) ∈ Gd := Gd_4 127 rfl rfl
set_option maxRecDepth 8000 in
theorem w_913 : Cond.methodLink "KindSayingsLaw" 46 (⟨"KindSayingsModel", "type", "(JI)I"⟩) ∈ Gd := Gd_4 128 rfl rfl
set_option maxRecDepth 8000 in
theorem w_914 : Cond.instanceMethod (⟨"KindSayingsModel", "type", "(JI)I"⟩) ∈ Gd := Gd_4 129 rfl rfl
set_option maxRecDepth 8000 in
theorem w_915 : Cond.selects "KindSayingsModel" (⟨"KindSayingsModel", "type", "(JI)I"⟩) (⟨"KindSayingsModel", "type", "(JI)I"⟩) ∈ Gd := Gd_4 130 rfl rfl
set_option maxRecDepth 8000 in
theorem w_916 : Cond.code (⟨"KindSayingsModel", "type", "(JI)I"⟩) prog_9_method_18_code 5 (Option.some FieldType.int) ∈ Gd := Gd_4 131 rfl rfl
set_option maxRecDepth 8000 in
theorem w_917 : Cond.constantLong "KindSayingsModel" 101 (255 : Int64) ∈ Gd := Gd_4 132 rfl rfl
set_option maxRecDepth 8000 in
theorem w_918 : Cond.methodLink "KindSayingsLaw" 50 (⟨"KindSayingsModel", "clear", "()I"⟩) ∈ Gd := Gd_4 133 rfl rfl
set_option maxRecDepth 8000 in
theorem w_919 : Cond.instanceMethod (⟨"KindSayingsModel", "clear", "()I"⟩) ∈ Gd := Gd_4 134 rfl rfl
set_option maxRecDepth 8000 in
theorem w_920 : Cond.selects "KindSayingsModel" (⟨"KindSayingsModel", "clear", "()I"⟩) (⟨"KindSayingsModel", "clear", "()I"⟩) ∈ Gd := Gd_4 135 rfl rfl
set_option maxRecDepth 8000 in
theorem w_921 : Cond.code (⟨"KindSayingsModel", "clear", "()I"⟩) prog_9_method_19_code 2 (Option.some FieldType.int) ∈ Gd := Gd_4 136 rfl rfl
set_option maxRecDepth 8000 in
theorem w_922 : Cond.methodLink "KindSayingsLaw" 54 (⟨"KindSayingsModel", "read", "(I)I"⟩) ∈ Gd := Gd_4 137 rfl rfl
set_option maxRecDepth 8000 in
theorem w_923 : Cond.instanceMethod (⟨"KindSayingsModel", "read", "(I)I"⟩) ∈ Gd := Gd_4 138 rfl rfl
set_option maxRecDepth 8000 in
theorem w_924 : Cond.selects "KindSayingsModel" (⟨"KindSayingsModel", "read", "(I)I"⟩) (⟨"KindSayingsModel", "read", "(I)I"⟩) ∈ Gd := Gd_4 139 rfl rfl
set_option maxRecDepth 8000 in
theorem w_925 : Cond.code (⟨"KindSayingsModel", "read", "(I)I"⟩) prog_9_method_33_code 11 (Option.some FieldType.int) ∈ Gd := Gd_4 140 rfl rfl
set_option maxRecDepth 8000 in
theorem w_926 : Cond.methodLink "KindSayingsModel" 154 (⟨"KindSayingsModel", "advances", "()V"⟩) ∈ Gd := Gd_4 141 rfl rfl
set_option maxRecDepth 8000 in
theorem w_928 : Cond.instanceMethod (⟨"KindSayingsModel", "advances", "()V"⟩) ∈ Gd := Gd_4 143 rfl rfl
set_option maxRecDepth 8000 in
theorem w_929 : Cond.code (⟨"KindSayingsModel", "advances", "()V"⟩) prog_9_method_24_code 5 none ∈ Gd := Gd_4 144 rfl rfl
set_option maxRecDepth 8000 in
theorem w_930 : Cond.methodLink "KindSayingsModel" 116 (⟨"KindSayingsModel", "byteAt", "(I)I"⟩) ∈ Gd := Gd_4 145 rfl rfl
set_option maxRecDepth 8000 in
theorem w_932 : Cond.instanceMethod (⟨"KindSayingsModel", "byteAt", "(I)I"⟩) ∈ Gd := Gd_4 147 rfl rfl
set_option maxRecDepth 8000 in
theorem w_933 : Cond.code (⟨"KindSayingsModel", "byteAt", "(I)I"⟩) prog_9_method_20_code 2 (Option.some FieldType.int) ∈ Gd := Gd_4 148 rfl rfl
set_option maxRecDepth 8000 in
theorem w_934 : Cond.methodLink "KindSayingsModel" 105 (⟨"KindSayingsModel", "add", "(JI)J"⟩) ∈ Gd := Gd_4 149 rfl rfl
set_option maxRecDepth 8000 in
theorem w_935 : Cond.static (⟨"KindSayingsModel", "add", "(JI)J"⟩) ∈ Gd := Gd_4 150 rfl rfl
set_option maxRecDepth 8000 in
theorem w_936 : Cond.code (⟨"KindSayingsModel", "add", "(JI)J"⟩) prog_9_method_21_code 3 (Option.some FieldType.long) ∈ Gd := Gd_4 151 rfl rfl
set_option maxRecDepth 8000 in
theorem w_937 : Cond.constantLong "KindSayingsModel" 103 (256 : Int64) ∈ Gd := Gd_4 152 rfl rfl
set_option maxRecDepth 8000 in
theorem w_938 : Cond.methodLink "KindSayingsModel" 125 (⟨"KindSayingsModel", "wordOf", "(J)I"⟩) ∈ Gd := Gd_4 153 rfl rfl
set_option maxRecDepth 8000 in
theorem w_939 : Cond.static (⟨"KindSayingsModel", "wordOf", "(J)I"⟩) ∈ Gd := Gd_4 154 rfl rfl
set_option maxRecDepth 8000 in
theorem w_940 : Cond.code (⟨"KindSayingsModel", "wordOf", "(J)I"⟩) prog_9_method_23_code 2 (Option.some FieldType.int) ∈ Gd := Gd_4 155 rfl rfl
set_option maxRecDepth 8000 in
theorem w_941 : Cond.methodLink "KindSayingsModel" 109 (⟨"KindSayingsModel", "word", "(IIIII)J"⟩) ∈ Gd := Gd_4 156 rfl rfl
set_option maxRecDepth 8000 in
theorem w_942 : Cond.static (⟨"KindSayingsModel", "word", "(IIIII)J"⟩) ∈ Gd := Gd_4 157 rfl rfl
set_option maxRecDepth 8000 in
theorem w_943 : Cond.code (⟨"KindSayingsModel", "word", "(IIIII)J"⟩) prog_9_method_22_code 5 (Option.some FieldType.long) ∈ Gd := Gd_4 158 rfl rfl
set_option maxRecDepth 8000 in
theorem w_944 : Cond.methodLink "KindSayingsModel" 151 (⟨"KindSayingsModel", "fails", "()V"⟩) ∈ Gd := Gd_4 159 rfl rfl
set_option maxRecDepth 8000 in
theorem w_946 : Cond.instanceMethod (⟨"KindSayingsModel", "fails", "()V"⟩) ∈ Gd := Gd_4 161 rfl rfl
set_option maxRecDepth 8000 in
theorem w_947 : Cond.code (⟨"KindSayingsModel", "fails", "()V"⟩) prog_9_method_26_code 1 none ∈ Gd := Gd_4 162 rfl rfl
set_option maxRecDepth 8000 in
theorem w_948 : Cond.methodLink "KindSayingsModel" 135 (⟨"KindSayingsModel", "isWell", "()Z"⟩) ∈ Gd := Gd_4 163 rfl rfl
set_option maxRecDepth 8000 in
theorem w_950 : Cond.instanceMethod (⟨"KindSayingsModel", "isWell", "()Z"⟩) ∈ Gd := Gd_4 165 rfl rfl
set_option maxRecDepth 8000 in
theorem w_951 : Cond.code (⟨"KindSayingsModel", "isWell", "()Z"⟩) prog_9_method_25_code 1 (Option.some FieldType.boolean) ∈ Gd := Gd_4 166 rfl rfl
set_option maxRecDepth 8000 in
theorem w_952 : Cond.methodLink "KindSayingsModel" 167 (⟨"KindSayingsModel", "side", "()I"⟩) ∈ Gd := Gd_4 167 rfl rfl
set_option maxRecDepth 8000 in
theorem w_954 : Cond.instanceMethod (⟨"KindSayingsModel", "side", "()I"⟩) ∈ Gd := Gd_4 169 rfl rfl
set_option maxRecDepth 8000 in
theorem w_955 : Cond.code (⟨"KindSayingsModel", "side", "()I"⟩) prog_9_method_30_code 8 (Option.some FieldType.int) ∈ Gd := Gd_4 170 rfl rfl
set_option maxRecDepth 8000 in
theorem w_956 : Cond.methodLink "KindSayingsModel" 142 (⟨"KindSayingsModel", "isSign", "(I)Z"⟩) ∈ Gd := Gd_4 171 rfl rfl
set_option maxRecDepth 8000 in
theorem w_958 : Cond.instanceMethod (⟨"KindSayingsModel", "isSign", "(I)Z"⟩) ∈ Gd := Gd_4 173 rfl rfl
set_option maxRecDepth 8000 in
theorem w_959 : Cond.code (⟨"KindSayingsModel", "isSign", "(I)Z"⟩) prog_9_method_27_code 2 (Option.some FieldType.boolean) ∈ Gd := Gd_4 174 rfl rfl
set_option maxRecDepth 8000 in
theorem w_960 : Cond.methodLink "KindSayingsModel" 145 (⟨"KindSayingsModel", "isKindSign", "()Z"⟩) ∈ Gd := Gd_4 175 rfl rfl
set_option maxRecDepth 8000 in
theorem w_962 : Cond.instanceMethod (⟨"KindSayingsModel", "isKindSign", "()Z"⟩) ∈ Gd := Gd_4 177 rfl rfl
set_option maxRecDepth 8000 in
theorem w_963 : Cond.code (⟨"KindSayingsModel", "isKindSign", "()Z"⟩) prog_9_method_28_code 1 (Option.some FieldType.boolean) ∈ Gd := Gd_4 178 rfl rfl
set_option maxRecDepth 8000 in
theorem w_964 : Cond.methodLink "KindSayingsModel" 157 (⟨"KindSayingsModel", "joins", "(III)I"⟩) ∈ Gd := Gd_4 179 rfl rfl
set_option maxRecDepth 8000 in
theorem w_965 : Cond.static (⟨"KindSayingsModel", "joins", "(III)I"⟩) ∈ Gd := Gd_4 180 rfl rfl
set_option maxRecDepth 8000 in
theorem w_966 : Cond.code (⟨"KindSayingsModel", "joins", "(III)I"⟩) prog_9_method_32_code 3 (Option.some FieldType.int) ∈ Gd := Gd_4 181 rfl rfl
set_option maxRecDepth 8000 in
theorem w_967 : Cond.methodLink "KindSayingsModel" 161 (⟨"KindSayingsModel", "hasOpen", "(I)Z"⟩) ∈ Gd := Gd_4 182 rfl rfl
set_option maxRecDepth 8000 in
theorem w_969 : Cond.instanceMethod (⟨"KindSayingsModel", "hasOpen", "(I)Z"⟩) ∈ Gd := Gd_4 184 rfl rfl
set_option maxRecDepth 8000 in
theorem w_970 : Cond.code (⟨"KindSayingsModel", "hasOpen", "(I)Z"⟩) prog_9_method_31_code 4 (Option.some FieldType.boolean) ∈ Gd := Gd_4 185 rfl rfl
set_option maxRecDepth 8000 in
theorem w_971 : Cond.methodLink "KindSayingsModel" 164 (⟨"KindSayingsModel", "every", "()I"⟩) ∈ Gd := Gd_4 186 rfl rfl
set_option maxRecDepth 8000 in
theorem w_973 : Cond.instanceMethod (⟨"KindSayingsModel", "every", "()I"⟩) ∈ Gd := Gd_4 188 rfl rfl
set_option maxRecDepth 8000 in
theorem w_974 : Cond.code (⟨"KindSayingsModel", "every", "()I"⟩) prog_9_method_29_code 1 (Option.some FieldType.int) ∈ Gd := Gd_4 189 rfl rfl
set_option maxRecDepth 8000 in
theorem w_975 : Cond.methodLink "KindSayingsLaw" 58 (⟨"KindSayingsModel", "about", "(II)I"⟩) ∈ Gd := Gd_4 190 rfl rfl
set_option maxRecDepth 8000 in
theorem w_976 : Cond.instanceMethod (⟨"KindSayingsModel", "about", "(II)I"⟩) ∈ Gd := Gd_4 191 rfl rfl
set_option maxRecDepth 8000 in
theorem w_977 : Cond.selects "KindSayingsModel" (⟨"KindSayingsModel", "about", "(II)I"⟩) (⟨"KindSayingsModel", "about", "(II)I"⟩) ∈ Gd := Gd_4 192 rfl rfl
set_option maxRecDepth 8000 in
theorem w_978 : Cond.code (⟨"KindSayingsModel", "about", "(II)I"⟩) prog_9_method_34_code 3 (Option.some FieldType.int) ∈ Gd := Gd_4 193 rfl rfl
set_option maxRecDepth 8000 in
theorem w_979 : Cond.methodLink "KindSayingsLaw" 62 (⟨"KindSayingsModel", "can", "(I)I"⟩) ∈ Gd := Gd_4 194 rfl rfl
set_option maxRecDepth 8000 in
theorem w_980 : Cond.instanceMethod (⟨"KindSayingsModel", "can", "(I)I"⟩) ∈ Gd := Gd_4 195 rfl rfl
set_option maxRecDepth 8000 in
theorem w_981 : Cond.selects "KindSayingsModel" (⟨"KindSayingsModel", "can", "(I)I"⟩) (⟨"KindSayingsModel", "can", "(I)I"⟩) ∈ Gd := Gd_4 196 rfl rfl
set_option maxRecDepth 8000 in
theorem w_982 : Cond.code (⟨"KindSayingsModel", "can", "(I)I"⟩) prog_9_method_40_code 2 (Option.some FieldType.int) ∈ Gd := Gd_4 197 rfl rfl
set_option maxRecDepth 8000 in
theorem w_983 : Cond.methodLink "KindSayingsModel" 182 (⟨"KindSayingsModel", "isSet", "(I)Z"⟩) ∈ Gd := Gd_4 198 rfl rfl
set_option maxRecDepth 8000 in
theorem w_984 : Cond.static (⟨"KindSayingsModel", "isSet", "(I)Z"⟩) ∈ Gd := Gd_4 199 rfl rfl
set_option maxRecDepth 8000 in
theorem w_985 : Cond.code (⟨"KindSayingsModel", "isSet", "(I)Z"⟩) prog_9_method_8_code 1 (Option.some FieldType.boolean) ∈ Gd := Gd_4 200 rfl rfl
set_option maxRecDepth 8000 in
theorem w_986 : Cond.methodLink "KindSayingsModel" 185 (⟨"KindSayingsModel", "canBe", "(I)I"⟩) ∈ Gd := Gd_4 201 rfl rfl
set_option maxRecDepth 8000 in
theorem w_988 : Cond.instanceMethod (⟨"KindSayingsModel", "canBe", "(I)I"⟩) ∈ Gd := Gd_4 203 rfl rfl
set_option maxRecDepth 8000 in
theorem w_989 : Cond.code (⟨"KindSayingsModel", "canBe", "(I)I"⟩) prog_9_method_39_code 4 (Option.some FieldType.int) ∈ Gd := Gd_4 204 rfl rfl
set_option maxRecDepth 8000 in
theorem w_990 : Cond.methodLink "KindSayingsModel" 178 (⟨"KindSayingsModel", "isIn", "(II)Z"⟩) ∈ Gd := Gd_4 205 rfl rfl
set_option maxRecDepth 8000 in
theorem w_991 : Cond.static (⟨"KindSayingsModel", "isIn", "(II)Z"⟩) ∈ Gd := Gd_4 206 rfl rfl
set_option maxRecDepth 8000 in
theorem w_992 : Cond.code (⟨"KindSayingsModel", "isIn", "(II)Z"⟩) prog_9_method_38_code 2 (Option.some FieldType.boolean) ∈ Gd := Gd_4 207 rfl rfl
set_option maxRecDepth 8000 in
theorem w_993 : Cond.methodLink "KindSayingsLaw" 66 (⟨"KindSayingsModel", "least", "(II)I"⟩) ∈ Gd := Gd_4 208 rfl rfl
set_option maxRecDepth 8000 in
theorem w_994 : Cond.instanceMethod (⟨"KindSayingsModel", "least", "(II)I"⟩) ∈ Gd := Gd_4 209 rfl rfl
set_option maxRecDepth 8000 in
theorem w_995 : Cond.selects "KindSayingsModel" (⟨"KindSayingsModel", "least", "(II)I"⟩) (⟨"KindSayingsModel", "least", "(II)I"⟩) ∈ Gd := Gd_4 210 rfl rfl
set_option maxRecDepth 8000 in
theorem w_996 : Cond.code (⟨"KindSayingsModel", "least", "(II)I"⟩) prog_9_method_43_code 3 (Option.some FieldType.int) ∈ Gd := Gd_4 211 rfl rfl
set_option maxRecDepth 8000 in
theorem w_997 : Cond.methodLink "KindSayingsModel" 188 (⟨"KindSayingsModel", "firstOf", "(II)I"⟩) ∈ Gd := Gd_4 212 rfl rfl
set_option maxRecDepth 8000 in
theorem w_999 : Cond.instanceMethod (⟨"KindSayingsModel", "firstOf", "(II)I"⟩) ∈ Gd := Gd_4 214 rfl rfl
set_option maxRecDepth 8000 in
theorem w_1000 : Cond.code (⟨"KindSayingsModel", "firstOf", "(II)I"⟩) prog_9_method_41_code 6 (Option.some FieldType.int) ∈ Gd := Gd_4 215 rfl rfl
set_option maxRecDepth 8000 in
theorem w_1001 : Cond.methodLink "KindSayingsModel" 192 (⟨"KindSayingsModel", "told", "(II)I"⟩) ∈ Gd := Gd_4 216 rfl rfl
set_option maxRecDepth 8000 in
theorem w_1003 : Cond.instanceMethod (⟨"KindSayingsModel", "told", "(II)I"⟩) ∈ Gd := Gd_4 218 rfl rfl
set_option maxRecDepth 8000 in
theorem w_1004 : Cond.code (⟨"KindSayingsModel", "told", "(II)I"⟩) prog_9_method_42_code 5 (Option.some FieldType.int) ∈ Gd := Gd_4 219 rfl rfl
set_option maxRecDepth 8000 in
theorem w_1005 : Cond.methodLink "KindSayingsLaw" 70 (⟨"KindSayingsModel", "follows", "(II)I"⟩) ∈ Gd := Gd_4 220 rfl rfl
set_option maxRecDepth 8000 in
theorem w_1006 : Cond.instanceMethod (⟨"KindSayingsModel", "follows", "(II)I"⟩) ∈ Gd := Gd_4 221 rfl rfl
set_option maxRecDepth 8000 in
theorem w_1007 : Cond.selects "KindSayingsModel" (⟨"KindSayingsModel", "follows", "(II)I"⟩) (⟨"KindSayingsModel", "follows", "(II)I"⟩) ∈ Gd := Gd_4 222 rfl rfl
set_option maxRecDepth 8000 in
theorem w_1008 : Cond.code (⟨"KindSayingsModel", "follows", "(II)I"⟩) prog_9_method_44_code 3 (Option.some FieldType.int) ∈ Gd := Gd_4 223 rfl rfl
set_option maxRecDepth 8000 in
theorem w_1009 : Cond.methodLink "KindSayingsLaw" 75 (⟨"KindSayingsModel", "against", "(III)I"⟩) ∈ Gd := Gd_4 224 rfl rfl
set_option maxRecDepth 8000 in
theorem w_1010 : Cond.instanceMethod (⟨"KindSayingsModel", "against", "(III)I"⟩) ∈ Gd := Gd_4 225 rfl rfl
set_option maxRecDepth 8000 in
theorem w_1011 : Cond.selects "KindSayingsModel" (⟨"KindSayingsModel", "against", "(III)I"⟩) (⟨"KindSayingsModel", "against", "(III)I"⟩) ∈ Gd := Gd_4 226 rfl rfl
set_option maxRecDepth 8000 in
theorem w_1012 : Cond.code (⟨"KindSayingsModel", "against", "(III)I"⟩) prog_9_method_45_code 4 (Option.some FieldType.int) ∈ Gd := Gd_4 227 rfl rfl
set_option maxRecDepth 8000 in
theorem w_1013 : Cond.methodLink "KindSayingsLaw" 79 (⟨"KindSayingsModel", "unsaid", "(I)I"⟩) ∈ Gd := Gd_4 228 rfl rfl
set_option maxRecDepth 8000 in
theorem w_1014 : Cond.instanceMethod (⟨"KindSayingsModel", "unsaid", "(I)I"⟩) ∈ Gd := Gd_4 229 rfl rfl
set_option maxRecDepth 8000 in
theorem w_1015 : Cond.selects "KindSayingsModel" (⟨"KindSayingsModel", "unsaid", "(I)I"⟩) (⟨"KindSayingsModel", "unsaid", "(I)I"⟩) ∈ Gd := Gd_4 230 rfl rfl
set_option maxRecDepth 8000 in
theorem w_1016 : Cond.code (⟨"KindSayingsModel", "unsaid", "(I)I"⟩) prog_9_method_46_code 4 (Option.some FieldType.int) ∈ Gd := Gd_4 231 rfl rfl
set_option maxRecDepth 8000 in
theorem w_1017 : Cond.methodLink "KindSayingsLaw" 83 (⟨"KindSayingsModel", "clash", "(II)I"⟩) ∈ Gd := Gd_4 232 rfl rfl
set_option maxRecDepth 8000 in
theorem w_1018 : Cond.instanceMethod (⟨"KindSayingsModel", "clash", "(II)I"⟩) ∈ Gd := Gd_4 233 rfl rfl
set_option maxRecDepth 8000 in
theorem w_1019 : Cond.selects "KindSayingsModel" (⟨"KindSayingsModel", "clash", "(II)I"⟩) (⟨"KindSayingsModel", "clash", "(II)I"⟩) ∈ Gd := Gd_4 234 rfl rfl
set_option maxRecDepth 8000 in
theorem w_1020 : Cond.code (⟨"KindSayingsModel", "clash", "(II)I"⟩) prog_9_method_48_code 5 (Option.some FieldType.int) ∈ Gd := Gd_4 235 rfl rfl
set_option maxRecDepth 8000 in
theorem w_1021 : Cond.methodLink "KindSayingsModel" 195 (⟨"KindSayingsModel", "ones", "(I)I"⟩) ∈ Gd := Gd_4 236 rfl rfl
set_option maxRecDepth 8000 in
theorem w_1022 : Cond.static (⟨"KindSayingsModel", "ones", "(I)I"⟩) ∈ Gd := Gd_4 237 rfl rfl
set_option maxRecDepth 8000 in
theorem w_1023 : Cond.code (⟨"KindSayingsModel", "ones", "(I)I"⟩) prog_9_method_47_code 3 (Option.some FieldType.int) ∈ Gd := Gd_4 238 rfl rfl
set_option maxRecDepth 8000 in
theorem w_1024 : Cond.methodLink "KindSayingsLaw" 87 (⟨"KindSayingsModel", "ask", "(I)I"⟩) ∈ Gd := Gd_4 239 rfl rfl
set_option maxRecDepth 8000 in
theorem w_1025 : Cond.instanceMethod (⟨"KindSayingsModel", "ask", "(I)I"⟩) ∈ Gd := Gd_5 0 rfl rfl
set_option maxRecDepth 8000 in
theorem w_1026 : Cond.selects "KindSayingsModel" (⟨"KindSayingsModel", "ask", "(I)I"⟩) (⟨"KindSayingsModel", "ask", "(I)I"⟩) ∈ Gd := Gd_5 1 rfl rfl
set_option maxRecDepth 8000 in
theorem w_1027 : Cond.code (⟨"KindSayingsModel", "ask", "(I)I"⟩) prog_9_method_49_code 8 (Option.some FieldType.int) ∈ Gd := Gd_5 2 rfl rfl
set_option maxRecDepth 8000 in
theorem w_1028 : Cond.methodLink "KindSayingsLaw" 91 (⟨"KindSayingsModel", "heaps", "(I)I"⟩) ∈ Gd := Gd_5 3 rfl rfl
set_option maxRecDepth 8000 in
theorem w_1029 : Cond.instanceMethod (⟨"KindSayingsModel", "heaps", "(I)I"⟩) ∈ Gd := Gd_5 4 rfl rfl
set_option maxRecDepth 8000 in
theorem w_1030 : Cond.selects "KindSayingsModel" (⟨"KindSayingsModel", "heaps", "(I)I"⟩) (⟨"KindSayingsModel", "heaps", "(I)I"⟩) ∈ Gd := Gd_5 5 rfl rfl
set_option maxRecDepth 8000 in
theorem w_1031 : Cond.code (⟨"KindSayingsModel", "heaps", "(I)I"⟩) prog_9_method_50_code 4 (Option.some FieldType.int) ∈ Gd := Gd_5 6 rfl rfl
set_option maxRecDepth 8000 in
theorem w_1032 : Cond.methodLink "KindSayingsLaw" 95 (⟨"KindSayingsModel", "twin", "(I)I"⟩) ∈ Gd := Gd_5 7 rfl rfl
set_option maxRecDepth 8000 in
theorem w_1033 : Cond.instanceMethod (⟨"KindSayingsModel", "twin", "(I)I"⟩) ∈ Gd := Gd_5 8 rfl rfl
set_option maxRecDepth 8000 in
theorem w_1034 : Cond.selects "KindSayingsModel" (⟨"KindSayingsModel", "twin", "(I)I"⟩) (⟨"KindSayingsModel", "twin", "(I)I"⟩) ∈ Gd := Gd_5 9 rfl rfl
set_option maxRecDepth 8000 in
theorem w_1035 : Cond.code (⟨"KindSayingsModel", "twin", "(I)I"⟩) prog_9_method_51_code 5 (Option.some FieldType.int) ∈ Gd := Gd_5 10 rfl rfl
set_option maxRecDepth 8000 in
theorem w_1036 : Cond.methodLink "KindSayingsLaw" 99 (⟨"KindSayingsModel", "moods", "(I)I"⟩) ∈ Gd := Gd_5 11 rfl rfl
set_option maxRecDepth 8000 in
theorem w_1037 : Cond.instanceMethod (⟨"KindSayingsModel", "moods", "(I)I"⟩) ∈ Gd := Gd_5 12 rfl rfl
set_option maxRecDepth 8000 in
theorem w_1038 : Cond.selects "KindSayingsModel" (⟨"KindSayingsModel", "moods", "(I)I"⟩) (⟨"KindSayingsModel", "moods", "(I)I"⟩) ∈ Gd := Gd_5 13 rfl rfl
set_option maxRecDepth 8000 in
theorem w_1039 : Cond.code (⟨"KindSayingsModel", "moods", "(I)I"⟩) prog_9_method_52_code 3 (Option.some FieldType.int) ∈ Gd := Gd_5 14 rfl rfl
set_option maxRecDepth 8000 in
theorem w_1040 : Cond.methodLink "KindSayingsLaw" 104 (⟨"KindSayingsModel", "round", "(IIII)I"⟩) ∈ Gd := Gd_5 15 rfl rfl
set_option maxRecDepth 8000 in
theorem w_1041 : Cond.instanceMethod (⟨"KindSayingsModel", "round", "(IIII)I"⟩) ∈ Gd := Gd_5 16 rfl rfl
set_option maxRecDepth 8000 in
theorem w_1042 : Cond.selects "KindSayingsModel" (⟨"KindSayingsModel", "round", "(IIII)I"⟩) (⟨"KindSayingsModel", "round", "(IIII)I"⟩) ∈ Gd := Gd_5 17 rfl rfl
set_option maxRecDepth 8000 in
theorem w_1043 : Cond.code (⟨"KindSayingsModel", "round", "(IIII)I"⟩) prog_9_method_58_code 5 (Option.some FieldType.int) ∈ Gd := Gd_5 18 rfl rfl
set_option maxRecDepth 8000 in
theorem w_1044 : Cond.methodLink "KindSayingsModel" 220 (⟨"KindSayingsModel", "isAsked", "(IIII)Z"⟩) ∈ Gd := Gd_5 19 rfl rfl
set_option maxRecDepth 8000 in
theorem w_1046 : Cond.instanceMethod (⟨"KindSayingsModel", "isAsked", "(IIII)Z"⟩) ∈ Gd := Gd_5 21 rfl rfl
set_option maxRecDepth 8000 in
theorem w_1047 : Cond.code (⟨"KindSayingsModel", "isAsked", "(IIII)Z"⟩) prog_9_method_57_code 5 (Option.some FieldType.boolean) ∈ Gd := Gd_5 22 rfl rfl
set_option maxRecDepth 8000 in
theorem w_1048 : Cond.methodLink "KindSayingsModel" 224 (⟨"KindSayingsModel", "shows", "(I)V"⟩) ∈ Gd := Gd_5 23 rfl rfl
set_option maxRecDepth 8000 in
theorem w_1050 : Cond.instanceMethod (⟨"KindSayingsModel", "shows", "(I)V"⟩) ∈ Gd := Gd_5 25 rfl rfl
set_option maxRecDepth 8000 in
theorem w_1051 : Cond.code (⟨"KindSayingsModel", "shows", "(I)V"⟩) prog_9_method_56_code 7 none ∈ Gd := Gd_5 26 rfl rfl
set_option maxRecDepth 8000 in
theorem w_1052 : Cond.methodLink "KindSayingsModel" 210 (⟨"KindSayingsModel", "isTold", "(II)Z"⟩) ∈ Gd := Gd_5 27 rfl rfl
set_option maxRecDepth 8000 in
theorem w_1054 : Cond.instanceMethod (⟨"KindSayingsModel", "isTold", "(II)Z"⟩) ∈ Gd := Gd_5 29 rfl rfl
set_option maxRecDepth 8000 in
theorem w_1055 : Cond.code (⟨"KindSayingsModel", "isTold", "(II)Z"⟩) prog_9_method_55_code 5 (Option.some FieldType.boolean) ∈ Gd := Gd_5 30 rfl rfl
set_option maxRecDepth 8000 in
theorem w_1056 : Cond.methodLink "KindSayingsModel" 216 (⟨"KindSayingsModel", "isShown", "(IIIII)Z"⟩) ∈ Gd := Gd_5 31 rfl rfl
set_option maxRecDepth 8000 in
theorem w_1058 : Cond.instanceMethod (⟨"KindSayingsModel", "isShown", "(IIIII)Z"⟩) ∈ Gd := Gd_5 33 rfl rfl
set_option maxRecDepth 8000 in
theorem w_1059 : Cond.code (⟨"KindSayingsModel", "isShown", "(IIIII)Z"⟩) prog_9_method_54_code 11 (Option.some FieldType.boolean) ∈ Gd := Gd_5 34 rfl rfl
set_option maxRecDepth 8000 in
theorem w_1060 : Cond.methodLink "KindSayingsModel" 207 (⟨"KindSayingsModel", "isBy", "(II)Z"⟩) ∈ Gd := Gd_5 35 rfl rfl
set_option maxRecDepth 8000 in
theorem w_1062 : Cond.instanceMethod (⟨"KindSayingsModel", "isBy", "(II)Z"⟩) ∈ Gd := Gd_5 37 rfl rfl
set_option maxRecDepth 8000 in
theorem w_1063 : Cond.code (⟨"KindSayingsModel", "isBy", "(II)Z"⟩) prog_9_method_53_code 3 (Option.some FieldType.boolean) ∈ Gd := Gd_5 38 rfl rfl
set_option maxRecDepth 8000 in
theorem w_1064 : Cond.methodLink "KindSayingsLaw" 109 (⟨"KindSayingsModel", "by", "(IIIII)I"⟩) ∈ Gd := Gd_5 39 rfl rfl
set_option maxRecDepth 8000 in
theorem w_1065 : Cond.instanceMethod (⟨"KindSayingsModel", "by", "(IIIII)I"⟩) ∈ Gd := Gd_5 40 rfl rfl
set_option maxRecDepth 8000 in
theorem w_1066 : Cond.selects "KindSayingsModel" (⟨"KindSayingsModel", "by", "(IIIII)I"⟩) (⟨"KindSayingsModel", "by", "(IIIII)I"⟩) ∈ Gd := Gd_5 41 rfl rfl
set_option maxRecDepth 8000 in
theorem w_1067 : Cond.code (⟨"KindSayingsModel", "by", "(IIIII)I"⟩) prog_9_method_59_code 9 (Option.some FieldType.int) ∈ Gd := Gd_5 42 rfl rfl
set_option maxRecDepth 8000 in
theorem w_1068 : Cond.methodLink "KindSayingsLaw" 113 (⟨"KindSayingsModel", "shown", "(II)I"⟩) ∈ Gd := Gd_5 43 rfl rfl
set_option maxRecDepth 8000 in
theorem w_1069 : Cond.instanceMethod (⟨"KindSayingsModel", "shown", "(II)I"⟩) ∈ Gd := Gd_5 44 rfl rfl
set_option maxRecDepth 8000 in
theorem w_1070 : Cond.selects "KindSayingsModel" (⟨"KindSayingsModel", "shown", "(II)I"⟩) (⟨"KindSayingsModel", "shown", "(II)I"⟩) ∈ Gd := Gd_5 45 rfl rfl
set_option maxRecDepth 8000 in
theorem w_1071 : Cond.code (⟨"KindSayingsModel", "shown", "(II)I"⟩) prog_9_method_60_code 7 (Option.some FieldType.int) ∈ Gd := Gd_5 46 rfl rfl
set_option maxRecDepth 8000 in
theorem w_1072 : Cond.methodLink "KindSayingsLaw" 117 (⟨"KindSayingsModel", "count", "(I)I"⟩) ∈ Gd := Gd_5 47 rfl rfl
set_option maxRecDepth 8000 in
theorem w_1073 : Cond.instanceMethod (⟨"KindSayingsModel", "count", "(I)I"⟩) ∈ Gd := Gd_5 48 rfl rfl
set_option maxRecDepth 8000 in
theorem w_1074 : Cond.selects "KindSayingsModel" (⟨"KindSayingsModel", "count", "(I)I"⟩) (⟨"KindSayingsModel", "count", "(I)I"⟩) ∈ Gd := Gd_5 49 rfl rfl
set_option maxRecDepth 8000 in
theorem w_1075 : Cond.code (⟨"KindSayingsModel", "count", "(I)I"⟩) prog_9_method_61_code 4 (Option.some FieldType.int) ∈ Gd := Gd_5 50 rfl rfl
set_option maxRecDepth 8000 in
theorem w_1076 : Cond.constantLong "KindSayingsLaw" 40 (4294967295 : Int64) ∈ Gd := Gd_5 51 rfl rfl
end
section
theorem dX0_init_0 : decode cX0_init 0 = .ok (.aload_n 0, 1) := by decide +kernel
theorem dX0_init_1 : decode cX0_init 1 = .ok (.invokespecial 3, 3) := by decide +kernel
theorem dX0_init_4 : decode cX0_init 4 = .ok (.aload_n 0, 1) := by decide +kernel
theorem dX0_init_5 : decode cX0_init 5 = .ok (.new 9, 3) := by decide +kernel
theorem dX0_init_8 : decode cX0_init 8 = .ok (.dup, 1) := by decide +kernel
theorem dX0_init_9 : decode cX0_init 9 = .ok (.invokespecial 11, 3) := by decide +kernel
theorem dX0_init_12 : decode cX0_init 12 = .ok (.putfield 12, 3) := by decide +kernel
theorem dX0_init_15 : decode cX0_init 15 = .ok (.aload_n 0, 1) := by decide +kernel
theorem dX0_init_16 : decode cX0_init 16 = .ok (.sipush 1024, 3) := by decide +kernel
theorem dX0_init_19 : decode cX0_init 19 = .ok (.newarray .int, 2) := by decide +kernel
theorem dX0_init_21 : decode cX0_init 21 = .ok (.putfield 18, 3) := by decide +kernel
theorem dX0_init_24 : decode cX0_init 24 = .ok (.aload_n 0, 1) := by decide +kernel
theorem dX0_init_25 : decode cX0_init 25 = .ok (.sipush 1024, 3) := by decide +kernel
theorem dX0_init_28 : decode cX0_init 28 = .ok (.newarray .int, 2) := by decide +kernel
theorem dX0_init_30 : decode cX0_init 30 = .ok (.putfield 22, 3) := by decide +kernel
theorem dX0_init_33 : decode cX0_init 33 = .ok (.aload_n 0, 1) := by decide +kernel
theorem dX0_init_34 : decode cX0_init 34 = .ok (.sipush 1024, 3) := by decide +kernel
theorem dX0_init_37 : decode cX0_init 37 = .ok (.newarray .int, 2) := by decide +kernel
theorem dX0_init_39 : decode cX0_init 39 = .ok (.putfield 25, 3) := by decide +kernel
theorem dX0_init_42 : decode cX0_init 42 = .ok (.aload_n 0, 1) := by decide +kernel
theorem dX0_init_43 : decode cX0_init 43 = .ok (.bipush 16, 2) := by decide +kernel
theorem dX0_init_45 : decode cX0_init 45 = .ok (.newarray .long, 2) := by decide +kernel
theorem dX0_init_47 : decode cX0_init 47 = .ok (.putfield 28, 3) := by decide +kernel
theorem dX0_init_50 : decode cX0_init 50 = .ok (.aload_n 0, 1) := by decide +kernel
theorem dX0_init_51 : decode cX0_init 51 = .ok (.iconst 0, 1) := by decide +kernel
theorem dX0_init_52 : decode cX0_init 52 = .ok (.newarray .char, 2) := by decide +kernel
theorem dX0_init_54 : decode cX0_init 54 = .ok (.putfield 32, 3) := by decide +kernel
theorem dX0_init_57 : decode cX0_init 57 = .ok (.iconst 0, 1) := by decide +kernel
theorem dX0_init_58 : decode cX0_init 58 = .ok (.istore_n 1, 1) := by decide +kernel
theorem dX0_init_59 : decode cX0_init 59 = .ok (.iload_n 1, 1) := by decide +kernel
theorem dX0_init_60 : decode cX0_init 60 = .ok (.aload_n 0, 1) := by decide +kernel
theorem dX0_init_61 : decode cX0_init 61 = .ok (.getfield 28, 3) := by decide +kernel
theorem dX0_init_64 : decode cX0_init 64 = .ok (.arraylength, 1) := by decide +kernel
theorem dX0_init_65 : decode cX0_init 65 = .ok (.if_icmp .ge 19, 3) := by decide +kernel
theorem dX0_init_68 : decode cX0_init 68 = .ok (.aload_n 0, 1) := by decide +kernel
theorem dX0_init_69 : decode cX0_init 69 = .ok (.getfield 28, 3) := by decide +kernel
theorem dX0_init_72 : decode cX0_init 72 = .ok (.iload_n 1, 1) := by decide +kernel
theorem dX0_init_73 : decode cX0_init 73 = .ok (.iload_n 1, 1) := by decide +kernel
theorem dX0_init_74 : decode cX0_init 74 = .ok (.invokestatic 36, 3) := by decide +kernel
theorem dX0_init_77 : decode cX0_init 77 = .ok (.lastore, 1) := by decide +kernel
theorem dX0_init_78 : decode cX0_init 78 = .ok (.iinc 1 1, 3) := by decide +kernel
theorem dX0_init_81 : decode cX0_init 81 = .ok (.goto (-22), 3) := by decide +kernel
theorem dX0_init_84 : decode cX0_init 84 = .ok (.return_, 1) := by decide +kernel
theorem dX0_witnessOf_0 : decode cX0_witnessOf 0 = .ok (.lconst 0, 1) := by decide +kernel
theorem dX0_witnessOf_1 : decode cX0_witnessOf 1 = .ok (.lstore_n 1, 1) := by decide +kernel
theorem dX0_witnessOf_2 : decode cX0_witnessOf 2 = .ok (.iconst 0, 1) := by decide +kernel
theorem dX0_witnessOf_3 : decode cX0_witnessOf 3 = .ok (.istore_n 3, 1) := by decide +kernel
theorem dX0_witnessOf_4 : decode cX0_witnessOf 4 = .ok (.iload_n 3, 1) := by decide +kernel
theorem dX0_witnessOf_5 : decode cX0_witnessOf 5 = .ok (.iconst 4, 1) := by decide +kernel
theorem dX0_witnessOf_6 : decode cX0_witnessOf 6 = .ok (.if_icmp .ge 57, 3) := by decide +kernel
theorem dX0_witnessOf_9 : decode cX0_witnessOf 9 = .ok (.iconst 0, 1) := by decide +kernel
theorem dX0_witnessOf_10 : decode cX0_witnessOf 10 = .ok (.istore 4, 2) := by decide +kernel
theorem dX0_witnessOf_12 : decode cX0_witnessOf 12 = .ok (.iload 4, 2) := by decide +kernel
theorem dX0_witnessOf_14 : decode cX0_witnessOf 14 = .ok (.iconst 4, 1) := by decide +kernel
theorem dX0_witnessOf_15 : decode cX0_witnessOf 15 = .ok (.if_icmp .ge 42, 3) := by decide +kernel
theorem dX0_witnessOf_18 : decode cX0_witnessOf 18 = .ok (.iload_n 0, 1) := by decide +kernel
theorem dX0_witnessOf_19 : decode cX0_witnessOf 19 = .ok (.iload_n 3, 1) := by decide +kernel
theorem dX0_witnessOf_20 : decode cX0_witnessOf 20 = .ok (.invokestatic 40, 3) := by decide +kernel
theorem dX0_witnessOf_23 : decode cX0_witnessOf 23 = .ok (.ifCond .eq 34, 3) := by decide +kernel
theorem dX0_witnessOf_26 : decode cX0_witnessOf 26 = .ok (.lload_n 1, 1) := by decide +kernel
theorem dX0_witnessOf_27 : decode cX0_witnessOf 27 = .ok (.lconst 1, 1) := by decide +kernel
theorem dX0_witnessOf_28 : decode cX0_witnessOf 28 = .ok (.iload_n 0, 1) := by decide +kernel
theorem dX0_witnessOf_29 : decode cX0_witnessOf 29 = .ok (.iload 4, 2) := by decide +kernel
theorem dX0_witnessOf_31 : decode cX0_witnessOf 31 = .ok (.invokestatic 40, 3) := by decide +kernel
theorem dX0_witnessOf_34 : decode cX0_witnessOf 34 = .ok (.ifCond .eq 7, 3) := by decide +kernel
theorem dX0_witnessOf_37 : decode cX0_witnessOf 37 = .ok (.iconst 1, 1) := by decide +kernel
theorem dX0_witnessOf_38 : decode cX0_witnessOf 38 = .ok (.goto 4, 3) := by decide +kernel
theorem dX0_witnessOf_41 : decode cX0_witnessOf 41 = .ok (.iconst 3, 1) := by decide +kernel
theorem dX0_witnessOf_42 : decode cX0_witnessOf 42 = .ok (.iload_n 3, 1) := by decide +kernel
theorem dX0_witnessOf_43 : decode cX0_witnessOf 43 = .ok (.iload 4, 2) := by decide +kernel
theorem dX0_witnessOf_45 : decode cX0_witnessOf 45 = .ok (.invokestatic 44, 3) := by decide +kernel
theorem dX0_witnessOf_48 : decode cX0_witnessOf 48 = .ok (.lshl, 1) := by decide +kernel
theorem dX0_witnessOf_49 : decode cX0_witnessOf 49 = .ok (.lor, 1) := by decide +kernel
theorem dX0_witnessOf_50 : decode cX0_witnessOf 50 = .ok (.lstore_n 1, 1) := by decide +kernel
theorem dX0_witnessOf_51 : decode cX0_witnessOf 51 = .ok (.iinc 4 1, 3) := by decide +kernel
theorem dX0_witnessOf_54 : decode cX0_witnessOf 54 = .ok (.goto (-42), 3) := by decide +kernel
theorem dX0_witnessOf_57 : decode cX0_witnessOf 57 = .ok (.iinc 3 1, 3) := by decide +kernel
theorem dX0_witnessOf_60 : decode cX0_witnessOf 60 = .ok (.goto (-56), 3) := by decide +kernel
theorem dX0_witnessOf_63 : decode cX0_witnessOf 63 = .ok (.lload_n 1, 1) := by decide +kernel
theorem dX0_witnessOf_64 : decode cX0_witnessOf 64 = .ok (.lreturn, 1) := by decide +kernel
theorem dX0_shape_0 : decode cX0_shape 0 = .ok (.aload_n 0, 1) := by decide +kernel
theorem dX0_shape_1 : decode cX0_shape 1 = .ok (.iload_n 1, 1) := by decide +kernel
theorem dX0_shape_2 : decode cX0_shape 2 = .ok (.putfield 48, 3) := by decide +kernel
theorem dX0_shape_5 : decode cX0_shape 5 = .ok (.aload_n 0, 1) := by decide +kernel
theorem dX0_shape_6 : decode cX0_shape 6 = .ok (.iload_n 2, 1) := by decide +kernel
theorem dX0_shape_7 : decode cX0_shape 7 = .ok (.putfield 52, 3) := by decide +kernel
theorem dX0_shape_10 : decode cX0_shape 10 = .ok (.aload_n 0, 1) := by decide +kernel
theorem dX0_shape_11 : decode cX0_shape 11 = .ok (.aload_n 0, 1) := by decide +kernel
theorem dX0_shape_12 : decode cX0_shape 12 = .ok (.getfield 48, 3) := by decide +kernel
theorem dX0_shape_15 : decode cX0_shape 15 = .ok (.aload_n 0, 1) := by decide +kernel
theorem dX0_shape_16 : decode cX0_shape 16 = .ok (.getfield 52, 3) := by decide +kernel
theorem dX0_shape_19 : decode cX0_shape 19 = .ok (.iadd, 1) := by decide +kernel
theorem dX0_shape_20 : decode cX0_shape 20 = .ok (.aload_n 0, 1) := by decide +kernel
theorem dX0_shape_21 : decode cX0_shape 21 = .ok (.getfield 52, 3) := by decide +kernel
theorem dX0_shape_24 : decode cX0_shape 24 = .ok (.invokestatic 55, 3) := by decide +kernel
theorem dX0_shape_27 : decode cX0_shape 27 = .ok (.putfield 59, 3) := by decide +kernel
theorem dX0_shape_30 : decode cX0_shape 30 = .ok (.aload_n 0, 1) := by decide +kernel
theorem dX0_shape_31 : decode cX0_shape 31 = .ok (.sipush 1023, 3) := by decide +kernel
theorem dX0_shape_34 : decode cX0_shape 34 = .ok (.putfield 62, 3) := by decide +kernel
theorem dX0_shape_37 : decode cX0_shape 37 = .ok (.return_, 1) := by decide +kernel
theorem dX0_refresh_0 : decode cX0_refresh 0 = .ok (.aload_n 0, 1) := by decide +kernel
theorem dX0_refresh_1 : decode cX0_refresh 1 = .ok (.getfield 62, 3) := by decide +kernel
theorem dX0_refresh_4 : decode cX0_refresh 4 = .ok (.ifCond .ne 4, 3) := by decide +kernel
theorem dX0_refresh_7 : decode cX0_refresh 7 = .ok (.return_, 1) := by decide +kernel
theorem dX0_refresh_8 : decode cX0_refresh 8 = .ok (.aload_n 0, 1) := by decide +kernel
theorem dX0_refresh_9 : decode cX0_refresh 9 = .ok (.getfield 59, 3) := by decide +kernel
theorem dX0_refresh_12 : decode cX0_refresh 12 = .ok (.aload_n 0, 1) := by decide +kernel
theorem dX0_refresh_13 : decode cX0_refresh 13 = .ok (.getfield 32, 3) := by decide +kernel
theorem dX0_refresh_16 : decode cX0_refresh 16 = .ok (.arraylength, 1) := by decide +kernel
theorem dX0_refresh_17 : decode cX0_refresh 17 = .ok (.if_icmp .le 13, 3) := by decide +kernel
theorem dX0_refresh_20 : decode cX0_refresh 20 = .ok (.aload_n 0, 1) := by decide +kernel
theorem dX0_refresh_21 : decode cX0_refresh 21 = .ok (.aload_n 0, 1) := by decide +kernel
theorem dX0_refresh_22 : decode cX0_refresh 22 = .ok (.getfield 59, 3) := by decide +kernel
theorem dX0_refresh_25 : decode cX0_refresh 25 = .ok (.newarray .char, 2) := by decide +kernel
theorem dX0_refresh_27 : decode cX0_refresh 27 = .ok (.putfield 32, 3) := by decide +kernel
theorem dX0_refresh_30 : decode cX0_refresh 30 = .ok (.iconst 0, 1) := by decide +kernel
theorem dX0_refresh_31 : decode cX0_refresh 31 = .ok (.istore_n 2, 1) := by decide +kernel
theorem dX0_refresh_32 : decode cX0_refresh 32 = .ok (.iload_n 2, 1) := by decide +kernel
theorem dX0_refresh_33 : decode cX0_refresh 33 = .ok (.aload_n 1, 1) := by decide +kernel
theorem dX0_refresh_34 : decode cX0_refresh 34 = .ok (.arraylength, 1) := by decide +kernel
theorem dX0_refresh_35 : decode cX0_refresh 35 = .ok (.if_icmp .ge 66, 3) := by decide +kernel
theorem dX0_refresh_38 : decode cX0_refresh 38 = .ok (.iload_n 2, 1) := by decide +kernel
theorem dX0_refresh_39 : decode cX0_refresh 39 = .ok (.bipush 10, 2) := by decide +kernel
theorem dX0_refresh_41 : decode cX0_refresh 41 = .ok (.if_icmp .ge 60, 3) := by decide +kernel
theorem dX0_refresh_44 : decode cX0_refresh 44 = .ok (.aload_n 1, 1) := by decide +kernel
theorem dX0_refresh_45 : decode cX0_refresh 45 = .ok (.iload_n 2, 1) := by decide +kernel
theorem dX0_refresh_46 : decode cX0_refresh 46 = .ok (.aaload, 1) := by decide +kernel
theorem dX0_refresh_47 : decode cX0_refresh 47 = .ok (.astore_n 3, 1) := by decide +kernel
theorem dX0_refresh_48 : decode cX0_refresh 48 = .ok (.aload_n 0, 1) := by decide +kernel
theorem dX0_refresh_49 : decode cX0_refresh 49 = .ok (.getfield 62, 3) := by decide +kernel
theorem dX0_refresh_52 : decode cX0_refresh 52 = .ok (.iload_n 2, 1) := by decide +kernel
theorem dX0_refresh_53 : decode cX0_refresh 53 = .ok (.invokestatic 40, 3) := by decide +kernel
theorem dX0_refresh_56 : decode cX0_refresh 56 = .ok (.ifCond .eq 39, 3) := by decide +kernel
theorem dX0_refresh_59 : decode cX0_refresh 59 = .ok (.aload_n 3, 1) := by decide +kernel
theorem dX0_refresh_60 : decode cX0_refresh 60 = .ok (.ifnull 35, 3) := by decide +kernel
theorem dX0_refresh_63 : decode cX0_refresh 63 = .ok (.aload_n 0, 1) := by decide +kernel
theorem dX0_refresh_64 : decode cX0_refresh 64 = .ok (.getfield 62, 3) := by decide +kernel
theorem dX0_refresh_67 : decode cX0_refresh 67 = .ok (.aload_n 1, 1) := by decide +kernel
theorem dX0_refresh_68 : decode cX0_refresh 68 = .ok (.aload_n 3, 1) := by decide +kernel
theorem dX0_refresh_69 : decode cX0_refresh 69 = .ok (.invokestatic 65, 3) := by decide +kernel
theorem dX0_refresh_72 : decode cX0_refresh 72 = .ok (.iand, 1) := by decide +kernel
theorem dX0_refresh_73 : decode cX0_refresh 73 = .ok (.istore 4, 2) := by decide +kernel
theorem dX0_refresh_75 : decode cX0_refresh 75 = .ok (.aload_n 0, 1) := by decide +kernel
theorem dX0_refresh_76 : decode cX0_refresh 76 = .ok (.aload_n 3, 1) := by decide +kernel
theorem dX0_refresh_77 : decode cX0_refresh 77 = .ok (.iload 4, 2) := by decide +kernel
theorem dX0_refresh_79 : decode cX0_refresh 79 = .ok (.invokevirtual 69, 3) := by decide +kernel
theorem dX0_refresh_82 : decode cX0_refresh 82 = .ok (.aload_n 0, 1) := by decide +kernel
theorem dX0_refresh_83 : decode cX0_refresh 83 = .ok (.dup, 1) := by decide +kernel
theorem dX0_refresh_84 : decode cX0_refresh 84 = .ok (.getfield 62, 3) := by decide +kernel
theorem dX0_refresh_87 : decode cX0_refresh 87 = .ok (.iload 4, 2) := by decide +kernel
theorem dX0_refresh_89 : decode cX0_refresh 89 = .ok (.iconst (-1), 1) := by decide +kernel
theorem dX0_refresh_90 : decode cX0_refresh 90 = .ok (.ixor, 1) := by decide +kernel
theorem dX0_refresh_91 : decode cX0_refresh 91 = .ok (.iand, 1) := by decide +kernel
theorem dX0_refresh_92 : decode cX0_refresh 92 = .ok (.putfield 62, 3) := by decide +kernel
theorem dX0_refresh_95 : decode cX0_refresh 95 = .ok (.iinc 2 1, 3) := by decide +kernel
theorem dX0_refresh_98 : decode cX0_refresh 98 = .ok (.goto (-66), 3) := by decide +kernel
theorem dX0_refresh_101 : decode cX0_refresh 101 = .ok (.aload_n 0, 1) := by decide +kernel
theorem dX0_refresh_102 : decode cX0_refresh 102 = .ok (.iconst 0, 1) := by decide +kernel
theorem dX0_refresh_103 : decode cX0_refresh 103 = .ok (.putfield 62, 3) := by decide +kernel
theorem dX0_refresh_106 : decode cX0_refresh 106 = .ok (.aload_n 0, 1) := by decide +kernel
theorem dX0_refresh_107 : decode cX0_refresh 107 = .ok (.invokevirtual 73, 3) := by decide +kernel
theorem dX0_refresh_110 : decode cX0_refresh 110 = .ok (.aload_n 0, 1) := by decide +kernel
theorem dX0_refresh_111 : decode cX0_refresh 111 = .ok (.invokevirtual 76, 3) := by decide +kernel
theorem dX0_refresh_114 : decode cX0_refresh 114 = .ok (.return_, 1) := by decide +kernel
theorem dX0_likes_0 : decode cX0_likes 0 = .ok (.iconst 0, 1) := by decide +kernel
theorem dX0_likes_1 : decode cX0_likes 1 = .ok (.istore_n 2, 1) := by decide +kernel
theorem dX0_likes_2 : decode cX0_likes 2 = .ok (.iconst 0, 1) := by decide +kernel
theorem dX0_likes_3 : decode cX0_likes 3 = .ok (.istore_n 3, 1) := by decide +kernel
theorem dX0_likes_4 : decode cX0_likes 4 = .ok (.iload_n 3, 1) := by decide +kernel
theorem dX0_likes_5 : decode cX0_likes 5 = .ok (.aload_n 0, 1) := by decide +kernel
theorem dX0_likes_6 : decode cX0_likes 6 = .ok (.arraylength, 1) := by decide +kernel
theorem dX0_likes_7 : decode cX0_likes 7 = .ok (.if_icmp .ge 40, 3) := by decide +kernel
theorem dX0_likes_10 : decode cX0_likes 10 = .ok (.iload_n 3, 1) := by decide +kernel
theorem dX0_likes_11 : decode cX0_likes 11 = .ok (.bipush 10, 2) := by decide +kernel
theorem dX0_likes_13 : decode cX0_likes 13 = .ok (.if_icmp .ge 34, 3) := by decide +kernel
theorem dX0_likes_16 : decode cX0_likes 16 = .ok (.aload_n 0, 1) := by decide +kernel
theorem dX0_likes_17 : decode cX0_likes 17 = .ok (.iload_n 3, 1) := by decide +kernel
theorem dX0_likes_18 : decode cX0_likes 18 = .ok (.aaload, 1) := by decide +kernel
theorem dX0_likes_19 : decode cX0_likes 19 = .ok (.astore 4, 2) := by decide +kernel
theorem dX0_likes_21 : decode cX0_likes 21 = .ok (.aload 4, 2) := by decide +kernel
theorem dX0_likes_23 : decode cX0_likes 23 = .ok (.ifnull 18, 3) := by decide +kernel
theorem dX0_likes_26 : decode cX0_likes 26 = .ok (.aload_n 1, 1) := by decide +kernel
theorem dX0_likes_27 : decode cX0_likes 27 = .ok (.aload 4, 2) := by decide +kernel
theorem dX0_likes_29 : decode cX0_likes 29 = .ok (.invokevirtual 79, 3) := by decide +kernel
theorem dX0_likes_32 : decode cX0_likes 32 = .ok (.ifCond .eq 9, 3) := by decide +kernel
theorem dX0_likes_35 : decode cX0_likes 35 = .ok (.iload_n 2, 1) := by decide +kernel
theorem dX0_likes_36 : decode cX0_likes 36 = .ok (.iconst 1, 1) := by decide +kernel
theorem dX0_likes_37 : decode cX0_likes 37 = .ok (.iload_n 3, 1) := by decide +kernel
theorem dX0_likes_38 : decode cX0_likes 38 = .ok (.ishl, 1) := by decide +kernel
theorem dX0_likes_39 : decode cX0_likes 39 = .ok (.ior, 1) := by decide +kernel
theorem dX0_likes_40 : decode cX0_likes 40 = .ok (.istore_n 2, 1) := by decide +kernel
theorem dX0_likes_41 : decode cX0_likes 41 = .ok (.iinc 3 1, 3) := by decide +kernel
theorem dX0_likes_44 : decode cX0_likes 44 = .ok (.goto (-40), 3) := by decide +kernel
theorem dX0_likes_47 : decode cX0_likes 47 = .ok (.iload_n 2, 1) := by decide +kernel
theorem dX0_likes_48 : decode cX0_likes 48 = .ok (.ireturn, 1) := by decide +kernel
theorem dX0_mark_0 : decode cX0_mark 0 = .ok (.aload_n 0, 1) := by decide +kernel
theorem dX0_mark_1 : decode cX0_mark 1 = .ok (.getfield 12, 3) := by decide +kernel
theorem dX0_mark_4 : decode cX0_mark 4 = .ok (.aload_n 0, 1) := by decide +kernel
theorem dX0_mark_5 : decode cX0_mark 5 = .ok (.getfield 48, 3) := by decide +kernel
theorem dX0_mark_8 : decode cX0_mark 8 = .ok (.aload_n 0, 1) := by decide +kernel
theorem dX0_mark_9 : decode cX0_mark 9 = .ok (.getfield 52, 3) := by decide +kernel
theorem dX0_mark_12 : decode cX0_mark 12 = .ok (.aload_n 1, 1) := by decide +kernel
theorem dX0_mark_13 : decode cX0_mark 13 = .ok (.invokevirtual 85, 3) := by decide +kernel
theorem dX0_mark_16 : decode cX0_mark 16 = .ok (.iconst 1, 1) := by decide +kernel
theorem dX0_mark_17 : decode cX0_mark 17 = .ok (.istore_n 3, 1) := by decide +kernel
theorem dX0_mark_18 : decode cX0_mark 18 = .ok (.iconst 0, 1) := by decide +kernel
theorem dX0_mark_19 : decode cX0_mark 19 = .ok (.istore 4, 2) := by decide +kernel
theorem dX0_mark_21 : decode cX0_mark 21 = .ok (.iload 4, 2) := by decide +kernel
theorem dX0_mark_23 : decode cX0_mark 23 = .ok (.aload_n 0, 1) := by decide +kernel
theorem dX0_mark_24 : decode cX0_mark 24 = .ok (.getfield 59, 3) := by decide +kernel
theorem dX0_mark_27 : decode cX0_mark 27 = .ok (.if_icmp .ge 75, 3) := by decide +kernel
theorem dX0_mark_30 : decode cX0_mark 30 = .ok (.iload 4, 2) := by decide +kernel
theorem dX0_mark_32 : decode cX0_mark 32 = .ok (.aload_n 0, 1) := by decide +kernel
theorem dX0_mark_33 : decode cX0_mark 33 = .ok (.getfield 32, 3) := by decide +kernel
theorem dX0_mark_36 : decode cX0_mark 36 = .ok (.arraylength, 1) := by decide +kernel
theorem dX0_mark_37 : decode cX0_mark 37 = .ok (.if_icmp .ge 65, 3) := by decide +kernel
theorem dX0_mark_40 : decode cX0_mark 40 = .ok (.iload_n 3, 1) := by decide +kernel
theorem dX0_mark_41 : decode cX0_mark 41 = .ok (.ifCond .eq 61, 3) := by decide +kernel
theorem dX0_mark_44 : decode cX0_mark 44 = .ok (.aload_n 0, 1) := by decide +kernel
theorem dX0_mark_45 : decode cX0_mark 45 = .ok (.getfield 32, 3) := by decide +kernel
theorem dX0_mark_48 : decode cX0_mark 48 = .ok (.iload 4, 2) := by decide +kernel
theorem dX0_mark_50 : decode cX0_mark 50 = .ok (.caload, 1) := by decide +kernel
theorem dX0_mark_51 : decode cX0_mark 51 = .ok (.iload_n 2, 1) := by decide +kernel
theorem dX0_mark_52 : decode cX0_mark 52 = .ok (.iconst (-1), 1) := by decide +kernel
theorem dX0_mark_53 : decode cX0_mark 53 = .ok (.ixor, 1) := by decide +kernel
theorem dX0_mark_54 : decode cX0_mark 54 = .ok (.iand, 1) := by decide +kernel
theorem dX0_mark_55 : decode cX0_mark 55 = .ok (.istore 5, 2) := by decide +kernel
theorem dX0_mark_57 : decode cX0_mark 57 = .ok (.aload_n 0, 1) := by decide +kernel
theorem dX0_mark_58 : decode cX0_mark 58 = .ok (.getfield 32, 3) := by decide +kernel
theorem dX0_mark_61 : decode cX0_mark 61 = .ok (.iload 4, 2) := by decide +kernel
theorem dX0_mark_63 : decode cX0_mark 63 = .ok (.aload_n 1, 1) := by decide +kernel
theorem dX0_mark_64 : decode cX0_mark 64 = .ok (.aload_n 0, 1) := by decide +kernel
theorem dX0_mark_65 : decode cX0_mark 65 = .ok (.getfield 12, 3) := by decide +kernel
theorem dX0_mark_68 : decode cX0_mark 68 = .ok (.invokevirtual 89, 3) := by decide +kernel
theorem dX0_mark_71 : decode cX0_mark 71 = .ok (.invokevirtual 93, 3) := by decide +kernel
theorem dX0_mark_74 : decode cX0_mark 74 = .ok (.ifCond .eq 10, 3) := by decide +kernel
theorem dX0_mark_77 : decode cX0_mark 77 = .ok (.iload 5, 2) := by decide +kernel
theorem dX0_mark_79 : decode cX0_mark 79 = .ok (.iload_n 2, 1) := by decide +kernel
theorem dX0_mark_80 : decode cX0_mark 80 = .ok (.ior, 1) := by decide +kernel
theorem dX0_mark_81 : decode cX0_mark 81 = .ok (.goto 5, 3) := by decide +kernel
theorem dX0_mark_84 : decode cX0_mark 84 = .ok (.iload 5, 2) := by decide +kernel
theorem dX0_mark_86 : decode cX0_mark 86 = .ok (.i2c, 1) := by decide +kernel
theorem dX0_mark_87 : decode cX0_mark 87 = .ok (.castore, 1) := by decide +kernel
theorem dX0_mark_88 : decode cX0_mark 88 = .ok (.aload_n 0, 1) := by decide +kernel
theorem dX0_mark_89 : decode cX0_mark 89 = .ok (.getfield 12, 3) := by decide +kernel
theorem dX0_mark_92 : decode cX0_mark 92 = .ok (.invokevirtual 97, 3) := by decide +kernel
theorem dX0_mark_95 : decode cX0_mark 95 = .ok (.istore_n 3, 1) := by decide +kernel
theorem dX0_mark_96 : decode cX0_mark 96 = .ok (.iinc 4 1, 3) := by decide +kernel
theorem dX0_mark_99 : decode cX0_mark 99 = .ok (.goto (-78), 3) := by decide +kernel
theorem dX0_mark_102 : decode cX0_mark 102 = .ok (.return_, 1) := by decide +kernel
theorem dX0_fillHeaps_0 : decode cX0_fillHeaps 0 = .ok (.iconst 0, 1) := by decide +kernel
theorem dX0_fillHeaps_1 : decode cX0_fillHeaps 1 = .ok (.istore_n 1, 1) := by decide +kernel
theorem dX0_fillHeaps_2 : decode cX0_fillHeaps 2 = .ok (.iload_n 1, 1) := by decide +kernel
theorem dX0_fillHeaps_3 : decode cX0_fillHeaps 3 = .ok (.aload_n 0, 1) := by decide +kernel
theorem dX0_fillHeaps_4 : decode cX0_fillHeaps 4 = .ok (.getfield 18, 3) := by decide +kernel
theorem dX0_fillHeaps_7 : decode cX0_fillHeaps 7 = .ok (.arraylength, 1) := by decide +kernel
theorem dX0_fillHeaps_8 : decode cX0_fillHeaps 8 = .ok (.if_icmp .ge 16, 3) := by decide +kernel
theorem dX0_fillHeaps_11 : decode cX0_fillHeaps 11 = .ok (.aload_n 0, 1) := by decide +kernel
theorem dX0_fillHeaps_12 : decode cX0_fillHeaps 12 = .ok (.getfield 18, 3) := by decide +kernel
theorem dX0_fillHeaps_15 : decode cX0_fillHeaps 15 = .ok (.iload_n 1, 1) := by decide +kernel
theorem dX0_fillHeaps_16 : decode cX0_fillHeaps 16 = .ok (.iconst 0, 1) := by decide +kernel
theorem dX0_fillHeaps_17 : decode cX0_fillHeaps 17 = .ok (.iastore, 1) := by decide +kernel
theorem dX0_fillHeaps_18 : decode cX0_fillHeaps 18 = .ok (.iinc 1 1, 3) := by decide +kernel
theorem dX0_fillHeaps_21 : decode cX0_fillHeaps 21 = .ok (.goto (-19), 3) := by decide +kernel
theorem dX0_fillHeaps_24 : decode cX0_fillHeaps 24 = .ok (.iconst 0, 1) := by decide +kernel
theorem dX0_fillHeaps_25 : decode cX0_fillHeaps 25 = .ok (.istore_n 1, 1) := by decide +kernel
theorem dX0_fillHeaps_26 : decode cX0_fillHeaps 26 = .ok (.iload_n 1, 1) := by decide +kernel
theorem dX0_fillHeaps_27 : decode cX0_fillHeaps 27 = .ok (.aload_n 0, 1) := by decide +kernel
theorem dX0_fillHeaps_28 : decode cX0_fillHeaps 28 = .ok (.getfield 59, 3) := by decide +kernel
theorem dX0_fillHeaps_31 : decode cX0_fillHeaps 31 = .ok (.if_icmp .ge 69, 3) := by decide +kernel
theorem dX0_fillHeaps_34 : decode cX0_fillHeaps 34 = .ok (.iload_n 1, 1) := by decide +kernel
theorem dX0_fillHeaps_35 : decode cX0_fillHeaps 35 = .ok (.aload_n 0, 1) := by decide +kernel
theorem dX0_fillHeaps_36 : decode cX0_fillHeaps 36 = .ok (.getfield 32, 3) := by decide +kernel
theorem dX0_fillHeaps_39 : decode cX0_fillHeaps 39 = .ok (.arraylength, 1) := by decide +kernel
theorem dX0_fillHeaps_40 : decode cX0_fillHeaps 40 = .ok (.if_icmp .ge 60, 3) := by decide +kernel
theorem dX0_fillHeaps_43 : decode cX0_fillHeaps 43 = .ok (.aload_n 0, 1) := by decide +kernel
theorem dX0_fillHeaps_44 : decode cX0_fillHeaps 44 = .ok (.getfield 32, 3) := by decide +kernel
theorem dX0_fillHeaps_47 : decode cX0_fillHeaps 47 = .ok (.iload_n 1, 1) := by decide +kernel
theorem dX0_fillHeaps_48 : decode cX0_fillHeaps 48 = .ok (.caload, 1) := by decide +kernel
theorem dX0_fillHeaps_49 : decode cX0_fillHeaps 49 = .ok (.istore_n 2, 1) := by decide +kernel
theorem dX0_fillHeaps_50 : decode cX0_fillHeaps 50 = .ok (.iload_n 2, 1) := by decide +kernel
theorem dX0_fillHeaps_51 : decode cX0_fillHeaps 51 = .ok (.aload_n 0, 1) := by decide +kernel
theorem dX0_fillHeaps_52 : decode cX0_fillHeaps 52 = .ok (.getfield 18, 3) := by decide +kernel
theorem dX0_fillHeaps_55 : decode cX0_fillHeaps 55 = .ok (.arraylength, 1) := by decide +kernel
theorem dX0_fillHeaps_56 : decode cX0_fillHeaps 56 = .ok (.if_icmp .ge 38, 3) := by decide +kernel
theorem dX0_fillHeaps_59 : decode cX0_fillHeaps 59 = .ok (.iload_n 2, 1) := by decide +kernel
theorem dX0_fillHeaps_60 : decode cX0_fillHeaps 60 = .ok (.aload_n 0, 1) := by decide +kernel
theorem dX0_fillHeaps_61 : decode cX0_fillHeaps 61 = .ok (.getfield 22, 3) := by decide +kernel
theorem dX0_fillHeaps_64 : decode cX0_fillHeaps 64 = .ok (.arraylength, 1) := by decide +kernel
theorem dX0_fillHeaps_65 : decode cX0_fillHeaps 65 = .ok (.if_icmp .ge 29, 3) := by decide +kernel
theorem dX0_fillHeaps_68 : decode cX0_fillHeaps 68 = .ok (.aload_n 0, 1) := by decide +kernel
theorem dX0_fillHeaps_69 : decode cX0_fillHeaps 69 = .ok (.getfield 18, 3) := by decide +kernel
theorem dX0_fillHeaps_72 : decode cX0_fillHeaps 72 = .ok (.iload_n 2, 1) := by decide +kernel
theorem dX0_fillHeaps_73 : decode cX0_fillHeaps 73 = .ok (.iaload, 1) := by decide +kernel
theorem dX0_fillHeaps_74 : decode cX0_fillHeaps 74 = .ok (.ifCond .ne 10, 3) := by decide +kernel
theorem dX0_fillHeaps_77 : decode cX0_fillHeaps 77 = .ok (.aload_n 0, 1) := by decide +kernel
theorem dX0_fillHeaps_78 : decode cX0_fillHeaps 78 = .ok (.getfield 22, 3) := by decide +kernel
theorem dX0_fillHeaps_81 : decode cX0_fillHeaps 81 = .ok (.iload_n 2, 1) := by decide +kernel
theorem dX0_fillHeaps_82 : decode cX0_fillHeaps 82 = .ok (.iload_n 1, 1) := by decide +kernel
theorem dX0_fillHeaps_83 : decode cX0_fillHeaps 83 = .ok (.iastore, 1) := by decide +kernel
theorem dX0_fillHeaps_84 : decode cX0_fillHeaps 84 = .ok (.aload_n 0, 1) := by decide +kernel
theorem dX0_fillHeaps_85 : decode cX0_fillHeaps 85 = .ok (.getfield 18, 3) := by decide +kernel
theorem dX0_fillHeaps_88 : decode cX0_fillHeaps 88 = .ok (.iload_n 2, 1) := by decide +kernel
theorem dX0_fillHeaps_89 : decode cX0_fillHeaps 89 = .ok (.dup2, 1) := by decide +kernel
theorem dX0_fillHeaps_90 : decode cX0_fillHeaps 90 = .ok (.iaload, 1) := by decide +kernel
theorem dX0_fillHeaps_91 : decode cX0_fillHeaps 91 = .ok (.iconst 1, 1) := by decide +kernel
theorem dX0_fillHeaps_92 : decode cX0_fillHeaps 92 = .ok (.iadd, 1) := by decide +kernel
theorem dX0_fillHeaps_93 : decode cX0_fillHeaps 93 = .ok (.iastore, 1) := by decide +kernel
theorem dX0_fillHeaps_94 : decode cX0_fillHeaps 94 = .ok (.iinc 1 1, 3) := by decide +kernel
theorem dX0_fillHeaps_97 : decode cX0_fillHeaps 97 = .ok (.goto (-71), 3) := by decide +kernel
theorem dX0_fillHeaps_100 : decode cX0_fillHeaps 100 = .ok (.return_, 1) := by decide +kernel
theorem dX0_addTogether_0 : decode cX0_addTogether 0 = .ok (.iconst 0, 1) := by decide +kernel
theorem dX0_addTogether_1 : decode cX0_addTogether 1 = .ok (.istore_n 1, 1) := by decide +kernel
theorem dX0_addTogether_2 : decode cX0_addTogether 2 = .ok (.iload_n 1, 1) := by decide +kernel
theorem dX0_addTogether_3 : decode cX0_addTogether 3 = .ok (.aload_n 0, 1) := by decide +kernel
theorem dX0_addTogether_4 : decode cX0_addTogether 4 = .ok (.getfield 25, 3) := by decide +kernel
theorem dX0_addTogether_7 : decode cX0_addTogether 7 = .ok (.arraylength, 1) := by decide +kernel
theorem dX0_addTogether_8 : decode cX0_addTogether 8 = .ok (.if_icmp .ge 30, 3) := by decide +kernel
theorem dX0_addTogether_11 : decode cX0_addTogether 11 = .ok (.iload_n 1, 1) := by decide +kernel
theorem dX0_addTogether_12 : decode cX0_addTogether 12 = .ok (.aload_n 0, 1) := by decide +kernel
theorem dX0_addTogether_13 : decode cX0_addTogether 13 = .ok (.getfield 18, 3) := by decide +kernel
theorem dX0_addTogether_16 : decode cX0_addTogether 16 = .ok (.arraylength, 1) := by decide +kernel
theorem dX0_addTogether_17 : decode cX0_addTogether 17 = .ok (.if_icmp .ge 21, 3) := by decide +kernel
theorem dX0_addTogether_20 : decode cX0_addTogether 20 = .ok (.aload_n 0, 1) := by decide +kernel
theorem dX0_addTogether_21 : decode cX0_addTogether 21 = .ok (.getfield 25, 3) := by decide +kernel
theorem dX0_addTogether_24 : decode cX0_addTogether 24 = .ok (.iload_n 1, 1) := by decide +kernel
theorem dX0_addTogether_25 : decode cX0_addTogether 25 = .ok (.aload_n 0, 1) := by decide +kernel
theorem dX0_addTogether_26 : decode cX0_addTogether 26 = .ok (.getfield 18, 3) := by decide +kernel
theorem dX0_addTogether_29 : decode cX0_addTogether 29 = .ok (.iload_n 1, 1) := by decide +kernel
theorem dX0_addTogether_30 : decode cX0_addTogether 30 = .ok (.iaload, 1) := by decide +kernel
theorem dX0_addTogether_31 : decode cX0_addTogether 31 = .ok (.iastore, 1) := by decide +kernel
theorem dX0_addTogether_32 : decode cX0_addTogether 32 = .ok (.iinc 1 1, 3) := by decide +kernel
theorem dX0_addTogether_35 : decode cX0_addTogether 35 = .ok (.goto (-33), 3) := by decide +kernel
theorem dX0_addTogether_38 : decode cX0_addTogether 38 = .ok (.iconst 1, 1) := by decide +kernel
theorem dX0_addTogether_39 : decode cX0_addTogether 39 = .ok (.istore_n 1, 1) := by decide +kernel
theorem dX0_addTogether_40 : decode cX0_addTogether 40 = .ok (.iload_n 1, 1) := by decide +kernel
theorem dX0_addTogether_41 : decode cX0_addTogether 41 = .ok (.sipush 1024, 3) := by decide +kernel
theorem dX0_addTogether_44 : decode cX0_addTogether 44 = .ok (.if_icmp .ge 60, 3) := by decide +kernel
theorem dX0_addTogether_47 : decode cX0_addTogether 47 = .ok (.iconst 0, 1) := by decide +kernel
theorem dX0_addTogether_48 : decode cX0_addTogether 48 = .ok (.istore_n 2, 1) := by decide +kernel
theorem dX0_addTogether_49 : decode cX0_addTogether 49 = .ok (.iload_n 2, 1) := by decide +kernel
theorem dX0_addTogether_50 : decode cX0_addTogether 50 = .ok (.aload_n 0, 1) := by decide +kernel
theorem dX0_addTogether_51 : decode cX0_addTogether 51 = .ok (.getfield 25, 3) := by decide +kernel
theorem dX0_addTogether_54 : decode cX0_addTogether 54 = .ok (.arraylength, 1) := by decide +kernel
theorem dX0_addTogether_55 : decode cX0_addTogether 55 = .ok (.if_icmp .ge 42, 3) := by decide +kernel
theorem dX0_addTogether_58 : decode cX0_addTogether 58 = .ok (.iload_n 2, 1) := by decide +kernel
theorem dX0_addTogether_59 : decode cX0_addTogether 59 = .ok (.iload_n 1, 1) := by decide +kernel
theorem dX0_addTogether_60 : decode cX0_addTogether 60 = .ok (.ior, 1) := by decide +kernel
theorem dX0_addTogether_61 : decode cX0_addTogether 61 = .ok (.istore_n 3, 1) := by decide +kernel
theorem dX0_addTogether_62 : decode cX0_addTogether 62 = .ok (.iload_n 3, 1) := by decide +kernel
theorem dX0_addTogether_63 : decode cX0_addTogether 63 = .ok (.iload_n 2, 1) := by decide +kernel
theorem dX0_addTogether_64 : decode cX0_addTogether 64 = .ok (.if_icmp .eq 27, 3) := by decide +kernel
theorem dX0_addTogether_67 : decode cX0_addTogether 67 = .ok (.iload_n 3, 1) := by decide +kernel
theorem dX0_addTogether_68 : decode cX0_addTogether 68 = .ok (.aload_n 0, 1) := by decide +kernel
theorem dX0_addTogether_69 : decode cX0_addTogether 69 = .ok (.getfield 25, 3) := by decide +kernel
theorem dX0_addTogether_72 : decode cX0_addTogether 72 = .ok (.arraylength, 1) := by decide +kernel
theorem dX0_addTogether_73 : decode cX0_addTogether 73 = .ok (.if_icmp .ge 18, 3) := by decide +kernel
theorem dX0_addTogether_76 : decode cX0_addTogether 76 = .ok (.aload_n 0, 1) := by decide +kernel
theorem dX0_addTogether_77 : decode cX0_addTogether 77 = .ok (.getfield 25, 3) := by decide +kernel
theorem dX0_addTogether_80 : decode cX0_addTogether 80 = .ok (.iload_n 2, 1) := by decide +kernel
theorem dX0_addTogether_81 : decode cX0_addTogether 81 = .ok (.dup2, 1) := by decide +kernel
theorem dX0_addTogether_82 : decode cX0_addTogether 82 = .ok (.iaload, 1) := by decide +kernel
theorem dX0_addTogether_83 : decode cX0_addTogether 83 = .ok (.aload_n 0, 1) := by decide +kernel
theorem dX0_addTogether_84 : decode cX0_addTogether 84 = .ok (.getfield 25, 3) := by decide +kernel
theorem dX0_addTogether_87 : decode cX0_addTogether 87 = .ok (.iload_n 3, 1) := by decide +kernel
theorem dX0_addTogether_88 : decode cX0_addTogether 88 = .ok (.iaload, 1) := by decide +kernel
theorem dX0_addTogether_89 : decode cX0_addTogether 89 = .ok (.iadd, 1) := by decide +kernel
theorem dX0_addTogether_90 : decode cX0_addTogether 90 = .ok (.iastore, 1) := by decide +kernel
theorem dX0_addTogether_91 : decode cX0_addTogether 91 = .ok (.iinc 2 1, 3) := by decide +kernel
theorem dX0_addTogether_94 : decode cX0_addTogether 94 = .ok (.goto (-45), 3) := by decide +kernel
theorem dX0_addTogether_97 : decode cX0_addTogether 97 = .ok (.iload_n 1, 1) := by decide +kernel
theorem dX0_addTogether_98 : decode cX0_addTogether 98 = .ok (.iconst 1, 1) := by decide +kernel
theorem dX0_addTogether_99 : decode cX0_addTogether 99 = .ok (.ishl, 1) := by decide +kernel
theorem dX0_addTogether_100 : decode cX0_addTogether 100 = .ok (.istore_n 1, 1) := by decide +kernel
theorem dX0_addTogether_101 : decode cX0_addTogether 101 = .ok (.goto (-61), 3) := by decide +kernel
theorem dX0_addTogether_104 : decode cX0_addTogether 104 = .ok (.return_, 1) := by decide +kernel
theorem dX0_worldsOf_0 : decode cX0_worldsOf 0 = .ok (.iload_n 1, 1) := by decide +kernel
theorem dX0_worldsOf_1 : decode cX0_worldsOf 1 = .ok (.ifCond .lt 21, 3) := by decide +kernel
theorem dX0_worldsOf_4 : decode cX0_worldsOf 4 = .ok (.iload_n 1, 1) := by decide +kernel
theorem dX0_worldsOf_5 : decode cX0_worldsOf 5 = .ok (.aload_n 0, 1) := by decide +kernel
theorem dX0_worldsOf_6 : decode cX0_worldsOf 6 = .ok (.getfield 25, 3) := by decide +kernel
theorem dX0_worldsOf_9 : decode cX0_worldsOf 9 = .ok (.arraylength, 1) := by decide +kernel
theorem dX0_worldsOf_10 : decode cX0_worldsOf 10 = .ok (.if_icmp .ge 12, 3) := by decide +kernel
theorem dX0_worldsOf_13 : decode cX0_worldsOf 13 = .ok (.aload_n 0, 1) := by decide +kernel
theorem dX0_worldsOf_14 : decode cX0_worldsOf 14 = .ok (.getfield 25, 3) := by decide +kernel
theorem dX0_worldsOf_17 : decode cX0_worldsOf 17 = .ok (.iload_n 1, 1) := by decide +kernel
theorem dX0_worldsOf_18 : decode cX0_worldsOf 18 = .ok (.iaload, 1) := by decide +kernel
theorem dX0_worldsOf_19 : decode cX0_worldsOf 19 = .ok (.goto 4, 3) := by decide +kernel
theorem dX0_worldsOf_22 : decode cX0_worldsOf 22 = .ok (.iconst 0, 1) := by decide +kernel
theorem dX0_worldsOf_23 : decode cX0_worldsOf 23 = .ok (.ireturn, 1) := by decide +kernel
theorem dX0_isFollowing_0 : decode cX0_isFollowing 0 = .ok (.aload_n 0, 1) := by decide +kernel
theorem dX0_isFollowing_1 : decode cX0_isFollowing 1 = .ok (.iload_n 1, 1) := by decide +kernel
theorem dX0_isFollowing_2 : decode cX0_isFollowing 2 = .ok (.invokevirtual 101, 3) := by decide +kernel
theorem dX0_isFollowing_5 : decode cX0_isFollowing 5 = .ok (.aload_n 0, 1) := by decide +kernel
theorem dX0_isFollowing_6 : decode cX0_isFollowing 6 = .ok (.iload_n 1, 1) := by decide +kernel
theorem dX0_isFollowing_7 : decode cX0_isFollowing 7 = .ok (.iconst 1, 1) := by decide +kernel
theorem dX0_isFollowing_8 : decode cX0_isFollowing 8 = .ok (.iload_n 2, 1) := by decide +kernel
theorem dX0_isFollowing_9 : decode cX0_isFollowing 9 = .ok (.ishl, 1) := by decide +kernel
theorem dX0_isFollowing_10 : decode cX0_isFollowing 10 = .ok (.ior, 1) := by decide +kernel
theorem dX0_isFollowing_11 : decode cX0_isFollowing 11 = .ok (.invokevirtual 101, 3) := by decide +kernel
theorem dX0_isFollowing_14 : decode cX0_isFollowing 14 = .ok (.if_icmp .ne 7, 3) := by decide +kernel
theorem dX0_isFollowing_17 : decode cX0_isFollowing 17 = .ok (.iconst 1, 1) := by decide +kernel
theorem dX0_isFollowing_18 : decode cX0_isFollowing 18 = .ok (.goto 4, 3) := by decide +kernel
theorem dX0_isFollowing_21 : decode cX0_isFollowing 21 = .ok (.iconst 0, 1) := by decide +kernel
theorem dX0_isFollowing_22 : decode cX0_isFollowing 22 = .ok (.ireturn, 1) := by decide +kernel
theorem dX0_firstWorld_0 : decode cX0_firstWorld 0 = .ok (.bipush (-9), 2) := by decide +kernel
theorem dX0_firstWorld_2 : decode cX0_firstWorld 2 = .ok (.istore_n 3, 1) := by decide +kernel
theorem dX0_firstWorld_3 : decode cX0_firstWorld 3 = .ok (.iconst 0, 1) := by decide +kernel
theorem dX0_firstWorld_4 : decode cX0_firstWorld 4 = .ok (.istore 4, 2) := by decide +kernel
theorem dX0_firstWorld_6 : decode cX0_firstWorld 6 = .ok (.iload 4, 2) := by decide +kernel
theorem dX0_firstWorld_8 : decode cX0_firstWorld 8 = .ok (.aload_n 0, 1) := by decide +kernel
theorem dX0_firstWorld_9 : decode cX0_firstWorld 9 = .ok (.getfield 18, 3) := by decide +kernel
theorem dX0_firstWorld_12 : decode cX0_firstWorld 12 = .ok (.arraylength, 1) := by decide +kernel
theorem dX0_firstWorld_13 : decode cX0_firstWorld 13 = .ok (.if_icmp .ge 81, 3) := by decide +kernel
theorem dX0_firstWorld_16 : decode cX0_firstWorld 16 = .ok (.iload 4, 2) := by decide +kernel
theorem dX0_firstWorld_18 : decode cX0_firstWorld 18 = .ok (.aload_n 0, 1) := by decide +kernel
theorem dX0_firstWorld_19 : decode cX0_firstWorld 19 = .ok (.getfield 22, 3) := by decide +kernel
theorem dX0_firstWorld_22 : decode cX0_firstWorld 22 = .ok (.arraylength, 1) := by decide +kernel
theorem dX0_firstWorld_23 : decode cX0_firstWorld 23 = .ok (.if_icmp .ge 71, 3) := by decide +kernel
theorem dX0_firstWorld_26 : decode cX0_firstWorld 26 = .ok (.aload_n 0, 1) := by decide +kernel
theorem dX0_firstWorld_27 : decode cX0_firstWorld 27 = .ok (.getfield 18, 3) := by decide +kernel
theorem dX0_firstWorld_30 : decode cX0_firstWorld 30 = .ok (.iload 4, 2) := by decide +kernel
theorem dX0_firstWorld_32 : decode cX0_firstWorld 32 = .ok (.iaload, 1) := by decide +kernel
theorem dX0_firstWorld_33 : decode cX0_firstWorld 33 = .ok (.ifCond .le 22, 3) := by decide +kernel
theorem dX0_firstWorld_36 : decode cX0_firstWorld 36 = .ok (.iload 4, 2) := by decide +kernel
theorem dX0_firstWorld_38 : decode cX0_firstWorld 38 = .ok (.iload_n 1, 1) := by decide +kernel
theorem dX0_firstWorld_39 : decode cX0_firstWorld 39 = .ok (.iand, 1) := by decide +kernel
theorem dX0_firstWorld_40 : decode cX0_firstWorld 40 = .ok (.iload_n 1, 1) := by decide +kernel
theorem dX0_firstWorld_41 : decode cX0_firstWorld 41 = .ok (.if_icmp .ne 14, 3) := by decide +kernel
theorem dX0_firstWorld_44 : decode cX0_firstWorld 44 = .ok (.iload 4, 2) := by decide +kernel
theorem dX0_firstWorld_46 : decode cX0_firstWorld 46 = .ok (.iload_n 2, 1) := by decide +kernel
theorem dX0_firstWorld_47 : decode cX0_firstWorld 47 = .ok (.iand, 1) := by decide +kernel
theorem dX0_firstWorld_48 : decode cX0_firstWorld 48 = .ok (.ifCond .ne 7, 3) := by decide +kernel
theorem dX0_firstWorld_51 : decode cX0_firstWorld 51 = .ok (.iconst 1, 1) := by decide +kernel
theorem dX0_firstWorld_52 : decode cX0_firstWorld 52 = .ok (.goto 4, 3) := by decide +kernel
theorem dX0_firstWorld_55 : decode cX0_firstWorld 55 = .ok (.iconst 0, 1) := by decide +kernel
theorem dX0_firstWorld_56 : decode cX0_firstWorld 56 = .ok (.istore 5, 2) := by decide +kernel
theorem dX0_firstWorld_58 : decode cX0_firstWorld 58 = .ok (.iload 5, 2) := by decide +kernel
theorem dX0_firstWorld_60 : decode cX0_firstWorld 60 = .ok (.ifCond .eq 28, 3) := by decide +kernel
theorem dX0_firstWorld_63 : decode cX0_firstWorld 63 = .ok (.iload_n 3, 1) := by decide +kernel
theorem dX0_firstWorld_64 : decode cX0_firstWorld 64 = .ok (.bipush (-9), 2) := by decide +kernel
theorem dX0_firstWorld_66 : decode cX0_firstWorld 66 = .ok (.if_icmp .eq 14, 3) := by decide +kernel
theorem dX0_firstWorld_69 : decode cX0_firstWorld 69 = .ok (.aload_n 0, 1) := by decide +kernel
theorem dX0_firstWorld_70 : decode cX0_firstWorld 70 = .ok (.getfield 22, 3) := by decide +kernel
theorem dX0_firstWorld_73 : decode cX0_firstWorld 73 = .ok (.iload 4, 2) := by decide +kernel
theorem dX0_firstWorld_75 : decode cX0_firstWorld 75 = .ok (.iaload, 1) := by decide +kernel
theorem dX0_firstWorld_76 : decode cX0_firstWorld 76 = .ok (.iload_n 3, 1) := by decide +kernel
theorem dX0_firstWorld_77 : decode cX0_firstWorld 77 = .ok (.if_icmp .ge 11, 3) := by decide +kernel
theorem dX0_firstWorld_80 : decode cX0_firstWorld 80 = .ok (.aload_n 0, 1) := by decide +kernel
theorem dX0_firstWorld_81 : decode cX0_firstWorld 81 = .ok (.getfield 22, 3) := by decide +kernel
theorem dX0_firstWorld_84 : decode cX0_firstWorld 84 = .ok (.iload 4, 2) := by decide +kernel
theorem dX0_firstWorld_86 : decode cX0_firstWorld 86 = .ok (.iaload, 1) := by decide +kernel
theorem dX0_firstWorld_87 : decode cX0_firstWorld 87 = .ok (.istore_n 3, 1) := by decide +kernel
theorem dX0_firstWorld_88 : decode cX0_firstWorld 88 = .ok (.iinc 4 1, 3) := by decide +kernel
theorem dX0_firstWorld_91 : decode cX0_firstWorld 91 = .ok (.goto (-85), 3) := by decide +kernel
theorem dX0_firstWorld_94 : decode cX0_firstWorld 94 = .ok (.iload_n 3, 1) := by decide +kernel
theorem dX0_firstWorld_95 : decode cX0_firstWorld 95 = .ok (.ireturn, 1) := by decide +kernel
theorem dX0_heapsOf_0 : decode cX0_heapsOf 0 = .ok (.iconst 0, 1) := by decide +kernel
theorem dX0_heapsOf_1 : decode cX0_heapsOf 1 = .ok (.istore_n 2, 1) := by decide +kernel
theorem dX0_heapsOf_2 : decode cX0_heapsOf 2 = .ok (.iconst 0, 1) := by decide +kernel
theorem dX0_heapsOf_3 : decode cX0_heapsOf 3 = .ok (.istore_n 3, 1) := by decide +kernel
theorem dX0_heapsOf_4 : decode cX0_heapsOf 4 = .ok (.iload_n 3, 1) := by decide +kernel
theorem dX0_heapsOf_5 : decode cX0_heapsOf 5 = .ok (.aload_n 0, 1) := by decide +kernel
theorem dX0_heapsOf_6 : decode cX0_heapsOf 6 = .ok (.getfield 18, 3) := by decide +kernel
theorem dX0_heapsOf_9 : decode cX0_heapsOf 9 = .ok (.arraylength, 1) := by decide +kernel
theorem dX0_heapsOf_10 : decode cX0_heapsOf 10 = .ok (.if_icmp .ge 28, 3) := by decide +kernel
theorem dX0_heapsOf_13 : decode cX0_heapsOf 13 = .ok (.aload_n 0, 1) := by decide +kernel
theorem dX0_heapsOf_14 : decode cX0_heapsOf 14 = .ok (.getfield 18, 3) := by decide +kernel
theorem dX0_heapsOf_17 : decode cX0_heapsOf 17 = .ok (.iload_n 3, 1) := by decide +kernel
theorem dX0_heapsOf_18 : decode cX0_heapsOf 18 = .ok (.iaload, 1) := by decide +kernel
theorem dX0_heapsOf_19 : decode cX0_heapsOf 19 = .ok (.ifCond .le 13, 3) := by decide +kernel
theorem dX0_heapsOf_22 : decode cX0_heapsOf 22 = .ok (.iload_n 3, 1) := by decide +kernel
theorem dX0_heapsOf_23 : decode cX0_heapsOf 23 = .ok (.iload_n 1, 1) := by decide +kernel
theorem dX0_heapsOf_24 : decode cX0_heapsOf 24 = .ok (.iand, 1) := by decide +kernel
theorem dX0_heapsOf_25 : decode cX0_heapsOf 25 = .ok (.iload_n 1, 1) := by decide +kernel
theorem dX0_heapsOf_26 : decode cX0_heapsOf 26 = .ok (.if_icmp .ne 6, 3) := by decide +kernel
theorem dX0_heapsOf_29 : decode cX0_heapsOf 29 = .ok (.iinc 2 1, 3) := by decide +kernel
theorem dX0_heapsOf_32 : decode cX0_heapsOf 32 = .ok (.iinc 3 1, 3) := by decide +kernel
theorem dX0_heapsOf_35 : decode cX0_heapsOf 35 = .ok (.goto (-31), 3) := by decide +kernel
theorem dX0_heapsOf_38 : decode cX0_heapsOf 38 = .ok (.iload_n 2, 1) := by decide +kernel
theorem dX0_heapsOf_39 : decode cX0_heapsOf 39 = .ok (.ireturn, 1) := by decide +kernel
theorem dX0_fewestClashing_0 : decode cX0_fewestClashing 0 = .ok (.bipush (-9), 2) := by decide +kernel
theorem dX0_fewestClashing_2 : decode cX0_fewestClashing 2 = .ok (.istore_n 2, 1) := by decide +kernel
theorem dX0_fewestClashing_3 : decode cX0_fewestClashing 3 = .ok (.iconst 0, 1) := by decide +kernel
theorem dX0_fewestClashing_4 : decode cX0_fewestClashing 4 = .ok (.istore_n 3, 1) := by decide +kernel
theorem dX0_fewestClashing_5 : decode cX0_fewestClashing 5 = .ok (.iload_n 3, 1) := by decide +kernel
theorem dX0_fewestClashing_6 : decode cX0_fewestClashing 6 = .ok (.aload_n 0, 1) := by decide +kernel
theorem dX0_fewestClashing_7 : decode cX0_fewestClashing 7 = .ok (.getfield 25, 3) := by decide +kernel
theorem dX0_fewestClashing_10 : decode cX0_fewestClashing 10 = .ok (.arraylength, 1) := by decide +kernel
theorem dX0_fewestClashing_11 : decode cX0_fewestClashing 11 = .ok (.if_icmp .ge 56, 3) := by decide +kernel
theorem dX0_fewestClashing_14 : decode cX0_fewestClashing 14 = .ok (.iload_n 3, 1) := by decide +kernel
theorem dX0_fewestClashing_15 : decode cX0_fewestClashing 15 = .ok (.iload_n 1, 1) := by decide +kernel
theorem dX0_fewestClashing_16 : decode cX0_fewestClashing 16 = .ok (.iand, 1) := by decide +kernel
theorem dX0_fewestClashing_17 : decode cX0_fewestClashing 17 = .ok (.iload_n 3, 1) := by decide +kernel
theorem dX0_fewestClashing_18 : decode cX0_fewestClashing 18 = .ok (.if_icmp .ne 16, 3) := by decide +kernel
theorem dX0_fewestClashing_21 : decode cX0_fewestClashing 21 = .ok (.aload_n 0, 1) := by decide +kernel
theorem dX0_fewestClashing_22 : decode cX0_fewestClashing 22 = .ok (.getfield 25, 3) := by decide +kernel
theorem dX0_fewestClashing_25 : decode cX0_fewestClashing 25 = .ok (.iload_n 3, 1) := by decide +kernel
theorem dX0_fewestClashing_26 : decode cX0_fewestClashing 26 = .ok (.iaload, 1) := by decide +kernel
theorem dX0_fewestClashing_27 : decode cX0_fewestClashing 27 = .ok (.ifCond .ne 7, 3) := by decide +kernel
theorem dX0_fewestClashing_30 : decode cX0_fewestClashing 30 = .ok (.iconst 1, 1) := by decide +kernel
theorem dX0_fewestClashing_31 : decode cX0_fewestClashing 31 = .ok (.goto 4, 3) := by decide +kernel
theorem dX0_fewestClashing_34 : decode cX0_fewestClashing 34 = .ok (.iconst 0, 1) := by decide +kernel
theorem dX0_fewestClashing_35 : decode cX0_fewestClashing 35 = .ok (.istore 4, 2) := by decide +kernel
theorem dX0_fewestClashing_37 : decode cX0_fewestClashing 37 = .ok (.iload 4, 2) := by decide +kernel
theorem dX0_fewestClashing_39 : decode cX0_fewestClashing 39 = .ok (.ifCond .eq 22, 3) := by decide +kernel
theorem dX0_fewestClashing_42 : decode cX0_fewestClashing 42 = .ok (.iload_n 2, 1) := by decide +kernel
theorem dX0_fewestClashing_43 : decode cX0_fewestClashing 43 = .ok (.bipush (-9), 2) := by decide +kernel
theorem dX0_fewestClashing_45 : decode cX0_fewestClashing 45 = .ok (.if_icmp .eq 14, 3) := by decide +kernel
theorem dX0_fewestClashing_48 : decode cX0_fewestClashing 48 = .ok (.iload_n 3, 1) := by decide +kernel
theorem dX0_fewestClashing_49 : decode cX0_fewestClashing 49 = .ok (.invokestatic 105, 3) := by decide +kernel
theorem dX0_fewestClashing_52 : decode cX0_fewestClashing 52 = .ok (.iload_n 2, 1) := by decide +kernel
theorem dX0_fewestClashing_53 : decode cX0_fewestClashing 53 = .ok (.invokestatic 105, 3) := by decide +kernel
theorem dX0_fewestClashing_56 : decode cX0_fewestClashing 56 = .ok (.if_icmp .ge 5, 3) := by decide +kernel
theorem dX0_fewestClashing_59 : decode cX0_fewestClashing 59 = .ok (.iload_n 3, 1) := by decide +kernel
theorem dX0_fewestClashing_60 : decode cX0_fewestClashing 60 = .ok (.istore_n 2, 1) := by decide +kernel
theorem dX0_fewestClashing_61 : decode cX0_fewestClashing 61 = .ok (.iinc 3 1, 3) := by decide +kernel
theorem dX0_fewestClashing_64 : decode cX0_fewestClashing 64 = .ok (.goto (-59), 3) := by decide +kernel
theorem dX0_fewestClashing_67 : decode cX0_fewestClashing 67 = .ok (.iload_n 2, 1) := by decide +kernel
theorem dX0_fewestClashing_68 : decode cX0_fewestClashing 68 = .ok (.ireturn, 1) := by decide +kernel
theorem dX0_thingsIn_0 : decode cX0_thingsIn 0 = .ok (.iload_n 1, 1) := by decide +kernel
theorem dX0_thingsIn_1 : decode cX0_thingsIn 1 = .ok (.ifCond .ge 6, 3) := by decide +kernel
theorem dX0_thingsIn_4 : decode cX0_thingsIn 4 = .ok (.bipush (-9), 2) := by decide +kernel
theorem dX0_thingsIn_6 : decode cX0_thingsIn 6 = .ok (.ireturn, 1) := by decide +kernel
theorem dX0_thingsIn_7 : decode cX0_thingsIn 7 = .ok (.iload_n 1, 1) := by decide +kernel
theorem dX0_thingsIn_8 : decode cX0_thingsIn 8 = .ok (.istore_n 3, 1) := by decide +kernel
theorem dX0_thingsIn_9 : decode cX0_thingsIn 9 = .ok (.iconst 0, 1) := by decide +kernel
theorem dX0_thingsIn_10 : decode cX0_thingsIn 10 = .ok (.istore 4, 2) := by decide +kernel
theorem dX0_thingsIn_12 : decode cX0_thingsIn 12 = .ok (.iload 4, 2) := by decide +kernel
theorem dX0_thingsIn_14 : decode cX0_thingsIn 14 = .ok (.aload_n 0, 1) := by decide +kernel
theorem dX0_thingsIn_15 : decode cX0_thingsIn 15 = .ok (.getfield 52, 3) := by decide +kernel
theorem dX0_thingsIn_18 : decode cX0_thingsIn 18 = .ok (.if_icmp .ge 34, 3) := by decide +kernel
theorem dX0_thingsIn_21 : decode cX0_thingsIn 21 = .ok (.iload_n 3, 1) := by decide +kernel
theorem dX0_thingsIn_22 : decode cX0_thingsIn 22 = .ok (.aload_n 0, 1) := by decide +kernel
theorem dX0_thingsIn_23 : decode cX0_thingsIn 23 = .ok (.getfield 48, 3) := by decide +kernel
theorem dX0_thingsIn_26 : decode cX0_thingsIn 26 = .ok (.iload 4, 2) := by decide +kernel
theorem dX0_thingsIn_28 : decode cX0_thingsIn 28 = .ok (.invokestatic 110, 3) := by decide +kernel
theorem dX0_thingsIn_31 : decode cX0_thingsIn 31 = .ok (.if_icmp .lt 21, 3) := by decide +kernel
theorem dX0_thingsIn_34 : decode cX0_thingsIn 34 = .ok (.iload_n 3, 1) := by decide +kernel
theorem dX0_thingsIn_35 : decode cX0_thingsIn 35 = .ok (.aload_n 0, 1) := by decide +kernel
theorem dX0_thingsIn_36 : decode cX0_thingsIn 36 = .ok (.getfield 48, 3) := by decide +kernel
theorem dX0_thingsIn_39 : decode cX0_thingsIn 39 = .ok (.iload 4, 2) := by decide +kernel
theorem dX0_thingsIn_41 : decode cX0_thingsIn 41 = .ok (.invokestatic 110, 3) := by decide +kernel
theorem dX0_thingsIn_44 : decode cX0_thingsIn 44 = .ok (.isub, 1) := by decide +kernel
theorem dX0_thingsIn_45 : decode cX0_thingsIn 45 = .ok (.istore_n 3, 1) := by decide +kernel
theorem dX0_thingsIn_46 : decode cX0_thingsIn 46 = .ok (.iinc 4 1, 3) := by decide +kernel
theorem dX0_thingsIn_49 : decode cX0_thingsIn 49 = .ok (.goto (-37), 3) := by decide +kernel
theorem dX0_thingsIn_52 : decode cX0_thingsIn 52 = .ok (.iload_n 2, 1) := by decide +kernel
theorem dX0_thingsIn_53 : decode cX0_thingsIn 53 = .ok (.ifCond .ge 6, 3) := by decide +kernel
theorem dX0_thingsIn_56 : decode cX0_thingsIn 56 = .ok (.iload 4, 2) := by decide +kernel
theorem dX0_thingsIn_58 : decode cX0_thingsIn 58 = .ok (.ireturn, 1) := by decide +kernel
theorem dX0_thingsIn_59 : decode cX0_thingsIn 59 = .ok (.iconst 0, 1) := by decide +kernel
theorem dX0_thingsIn_60 : decode cX0_thingsIn 60 = .ok (.istore 5, 2) := by decide +kernel
theorem dX0_thingsIn_62 : decode cX0_thingsIn 62 = .ok (.iconst 0, 1) := by decide +kernel
theorem dX0_thingsIn_63 : decode cX0_thingsIn 63 = .ok (.istore 6, 2) := by decide +kernel
theorem dX0_thingsIn_65 : decode cX0_thingsIn 65 = .ok (.iload 6, 2) := by decide +kernel
theorem dX0_thingsIn_67 : decode cX0_thingsIn 67 = .ok (.iload_n 2, 1) := by decide +kernel
theorem dX0_thingsIn_68 : decode cX0_thingsIn 68 = .ok (.if_icmp .gt 81, 3) := by decide +kernel
theorem dX0_thingsIn_71 : decode cX0_thingsIn 71 = .ok (.iload 6, 2) := by decide +kernel
theorem dX0_thingsIn_73 : decode cX0_thingsIn 73 = .ok (.aload_n 0, 1) := by decide +kernel
theorem dX0_thingsIn_74 : decode cX0_thingsIn 74 = .ok (.getfield 48, 3) := by decide +kernel
theorem dX0_thingsIn_77 : decode cX0_thingsIn 77 = .ok (.if_icmp .ge 72, 3) := by decide +kernel
theorem dX0_thingsIn_80 : decode cX0_thingsIn 80 = .ok (.iload 4, 2) := by decide +kernel
theorem dX0_thingsIn_82 : decode cX0_thingsIn 82 = .ok (.istore 5, 2) := by decide +kernel
theorem dX0_thingsIn_84 : decode cX0_thingsIn 84 = .ok (.iload 5, 2) := by decide +kernel
theorem dX0_thingsIn_86 : decode cX0_thingsIn 86 = .ok (.ifCond .le 50, 3) := by decide +kernel
theorem dX0_thingsIn_89 : decode cX0_thingsIn 89 = .ok (.iload_n 3, 1) := by decide +kernel
theorem dX0_thingsIn_90 : decode cX0_thingsIn 90 = .ok (.aload_n 0, 1) := by decide +kernel
theorem dX0_thingsIn_91 : decode cX0_thingsIn 91 = .ok (.getfield 48, 3) := by decide +kernel
theorem dX0_thingsIn_94 : decode cX0_thingsIn 94 = .ok (.iload 6, 2) := by decide +kernel
theorem dX0_thingsIn_96 : decode cX0_thingsIn 96 = .ok (.isub, 1) := by decide +kernel
theorem dX0_thingsIn_97 : decode cX0_thingsIn 97 = .ok (.iconst 1, 1) := by decide +kernel
theorem dX0_thingsIn_98 : decode cX0_thingsIn 98 = .ok (.isub, 1) := by decide +kernel
theorem dX0_thingsIn_99 : decode cX0_thingsIn 99 = .ok (.iload 4, 2) := by decide +kernel
theorem dX0_thingsIn_101 : decode cX0_thingsIn 101 = .ok (.iload 5, 2) := by decide +kernel
theorem dX0_thingsIn_103 : decode cX0_thingsIn 103 = .ok (.isub, 1) := by decide +kernel
theorem dX0_thingsIn_104 : decode cX0_thingsIn 104 = .ok (.invokestatic 110, 3) := by decide +kernel
theorem dX0_thingsIn_107 : decode cX0_thingsIn 107 = .ok (.if_icmp .lt 29, 3) := by decide +kernel
theorem dX0_thingsIn_110 : decode cX0_thingsIn 110 = .ok (.iload_n 3, 1) := by decide +kernel
theorem dX0_thingsIn_111 : decode cX0_thingsIn 111 = .ok (.aload_n 0, 1) := by decide +kernel
theorem dX0_thingsIn_112 : decode cX0_thingsIn 112 = .ok (.getfield 48, 3) := by decide +kernel
theorem dX0_thingsIn_115 : decode cX0_thingsIn 115 = .ok (.iload 6, 2) := by decide +kernel
theorem dX0_thingsIn_117 : decode cX0_thingsIn 117 = .ok (.isub, 1) := by decide +kernel
theorem dX0_thingsIn_118 : decode cX0_thingsIn 118 = .ok (.iconst 1, 1) := by decide +kernel
theorem dX0_thingsIn_119 : decode cX0_thingsIn 119 = .ok (.isub, 1) := by decide +kernel
theorem dX0_thingsIn_120 : decode cX0_thingsIn 120 = .ok (.iload 4, 2) := by decide +kernel
theorem dX0_thingsIn_122 : decode cX0_thingsIn 122 = .ok (.iload 5, 2) := by decide +kernel
theorem dX0_thingsIn_124 : decode cX0_thingsIn 124 = .ok (.isub, 1) := by decide +kernel
theorem dX0_thingsIn_125 : decode cX0_thingsIn 125 = .ok (.invokestatic 110, 3) := by decide +kernel
theorem dX0_thingsIn_128 : decode cX0_thingsIn 128 = .ok (.isub, 1) := by decide +kernel
theorem dX0_thingsIn_129 : decode cX0_thingsIn 129 = .ok (.istore_n 3, 1) := by decide +kernel
theorem dX0_thingsIn_130 : decode cX0_thingsIn 130 = .ok (.iinc 5 (-1), 3) := by decide +kernel
theorem dX0_thingsIn_133 : decode cX0_thingsIn 133 = .ok (.goto (-49), 3) := by decide +kernel
theorem dX0_thingsIn_136 : decode cX0_thingsIn 136 = .ok (.iload 4, 2) := by decide +kernel
theorem dX0_thingsIn_138 : decode cX0_thingsIn 138 = .ok (.iload 5, 2) := by decide +kernel
theorem dX0_thingsIn_140 : decode cX0_thingsIn 140 = .ok (.isub, 1) := by decide +kernel
theorem dX0_thingsIn_141 : decode cX0_thingsIn 141 = .ok (.istore 4, 2) := by decide +kernel
theorem dX0_thingsIn_143 : decode cX0_thingsIn 143 = .ok (.iinc 6 1, 3) := by decide +kernel
theorem dX0_thingsIn_146 : decode cX0_thingsIn 146 = .ok (.goto (-81), 3) := by decide +kernel
theorem dX0_thingsIn_149 : decode cX0_thingsIn 149 = .ok (.iload 5, 2) := by decide +kernel
theorem dX0_thingsIn_151 : decode cX0_thingsIn 151 = .ok (.ireturn, 1) := by decide +kernel
theorem dX0_rowsOf_0 : decode cX0_rowsOf 0 = .ok (.iload_n 0, 1) := by decide +kernel
theorem dX0_rowsOf_1 : decode cX0_rowsOf 1 = .ok (.iload_n 1, 1) := by decide +kernel
theorem dX0_rowsOf_2 : decode cX0_rowsOf 2 = .ok (.iadd, 1) := by decide +kernel
theorem dX0_rowsOf_3 : decode cX0_rowsOf 3 = .ok (.iconst 1, 1) := by decide +kernel
theorem dX0_rowsOf_4 : decode cX0_rowsOf 4 = .ok (.isub, 1) := by decide +kernel
theorem dX0_rowsOf_5 : decode cX0_rowsOf 5 = .ok (.iload_n 1, 1) := by decide +kernel
theorem dX0_rowsOf_6 : decode cX0_rowsOf 6 = .ok (.invokestatic 55, 3) := by decide +kernel
theorem dX0_rowsOf_9 : decode cX0_rowsOf 9 = .ok (.ireturn, 1) := by decide +kernel
theorem dX0_choose_0 : decode cX0_choose 0 = .ok (.iconst 1, 1) := by decide +kernel
theorem dX0_choose_1 : decode cX0_choose 1 = .ok (.istore_n 2, 1) := by decide +kernel
theorem dX0_choose_2 : decode cX0_choose 2 = .ok (.iconst 1, 1) := by decide +kernel
theorem dX0_choose_3 : decode cX0_choose 3 = .ok (.istore_n 3, 1) := by decide +kernel
theorem dX0_choose_4 : decode cX0_choose 4 = .ok (.iload_n 3, 1) := by decide +kernel
theorem dX0_choose_5 : decode cX0_choose 5 = .ok (.iload_n 1, 1) := by decide +kernel
theorem dX0_choose_6 : decode cX0_choose 6 = .ok (.if_icmp .gt 19, 3) := by decide +kernel
theorem dX0_choose_9 : decode cX0_choose 9 = .ok (.iload_n 2, 1) := by decide +kernel
theorem dX0_choose_10 : decode cX0_choose 10 = .ok (.iload_n 0, 1) := by decide +kernel
theorem dX0_choose_11 : decode cX0_choose 11 = .ok (.iload_n 1, 1) := by decide +kernel
theorem dX0_choose_12 : decode cX0_choose 12 = .ok (.isub, 1) := by decide +kernel
theorem dX0_choose_13 : decode cX0_choose 13 = .ok (.iload_n 3, 1) := by decide +kernel
theorem dX0_choose_14 : decode cX0_choose 14 = .ok (.iadd, 1) := by decide +kernel
theorem dX0_choose_15 : decode cX0_choose 15 = .ok (.imul, 1) := by decide +kernel
theorem dX0_choose_16 : decode cX0_choose 16 = .ok (.iload_n 3, 1) := by decide +kernel
theorem dX0_choose_17 : decode cX0_choose 17 = .ok (.idiv, 1) := by decide +kernel
theorem dX0_choose_18 : decode cX0_choose 18 = .ok (.istore_n 2, 1) := by decide +kernel
theorem dX0_choose_19 : decode cX0_choose 19 = .ok (.iinc 3 1, 3) := by decide +kernel
theorem dX0_choose_22 : decode cX0_choose 22 = .ok (.goto (-18), 3) := by decide +kernel
theorem dX0_choose_25 : decode cX0_choose 25 = .ok (.iload_n 2, 1) := by decide +kernel
theorem dX0_choose_26 : decode cX0_choose 26 = .ok (.ireturn, 1) := by decide +kernel
theorem dX0_factsOf_0 : decode cX0_factsOf 0 = .ok (.ldc2_w 113, 3) := by decide +kernel
theorem dX0_factsOf_3 : decode cX0_factsOf 3 = .ok (.lstore_n 2, 1) := by decide +kernel
theorem dX0_factsOf_4 : decode cX0_factsOf 4 = .ok (.lconst 0, 1) := by decide +kernel
theorem dX0_factsOf_5 : decode cX0_factsOf 5 = .ok (.lstore 4, 2) := by decide +kernel
theorem dX0_factsOf_7 : decode cX0_factsOf 7 = .ok (.aload_n 0, 1) := by decide +kernel
theorem dX0_factsOf_8 : decode cX0_factsOf 8 = .ok (.getfield 12, 3) := by decide +kernel
theorem dX0_factsOf_11 : decode cX0_factsOf 11 = .ok (.aload_n 0, 1) := by decide +kernel
theorem dX0_factsOf_12 : decode cX0_factsOf 12 = .ok (.getfield 48, 3) := by decide +kernel
theorem dX0_factsOf_15 : decode cX0_factsOf 15 = .ok (.aload_n 0, 1) := by decide +kernel
theorem dX0_factsOf_16 : decode cX0_factsOf 16 = .ok (.getfield 52, 3) := by decide +kernel
theorem dX0_factsOf_19 : decode cX0_factsOf 19 = .ok (.aconst_null, 1) := by decide +kernel
theorem dX0_factsOf_20 : decode cX0_factsOf 20 = .ok (.invokevirtual 85, 3) := by decide +kernel
theorem dX0_factsOf_23 : decode cX0_factsOf 23 = .ok (.iconst 1, 1) := by decide +kernel
theorem dX0_factsOf_24 : decode cX0_factsOf 24 = .ok (.istore 6, 2) := by decide +kernel
theorem dX0_factsOf_26 : decode cX0_factsOf 26 = .ok (.iconst 0, 1) := by decide +kernel
theorem dX0_factsOf_27 : decode cX0_factsOf 27 = .ok (.istore 7, 2) := by decide +kernel
theorem dX0_factsOf_29 : decode cX0_factsOf 29 = .ok (.iload 7, 2) := by decide +kernel
theorem dX0_factsOf_31 : decode cX0_factsOf 31 = .ok (.aload_n 0, 1) := by decide +kernel
theorem dX0_factsOf_32 : decode cX0_factsOf 32 = .ok (.getfield 59, 3) := by decide +kernel
theorem dX0_factsOf_35 : decode cX0_factsOf 35 = .ok (.if_icmp .ge 71, 3) := by decide +kernel
theorem dX0_factsOf_38 : decode cX0_factsOf 38 = .ok (.iload 7, 2) := by decide +kernel
theorem dX0_factsOf_40 : decode cX0_factsOf 40 = .ok (.aload_n 0, 1) := by decide +kernel
theorem dX0_factsOf_41 : decode cX0_factsOf 41 = .ok (.getfield 32, 3) := by decide +kernel
theorem dX0_factsOf_44 : decode cX0_factsOf 44 = .ok (.arraylength, 1) := by decide +kernel
theorem dX0_factsOf_45 : decode cX0_factsOf 45 = .ok (.if_icmp .ge 61, 3) := by decide +kernel
theorem dX0_factsOf_48 : decode cX0_factsOf 48 = .ok (.iload 6, 2) := by decide +kernel
theorem dX0_factsOf_50 : decode cX0_factsOf 50 = .ok (.ifCond .eq 56, 3) := by decide +kernel
theorem dX0_factsOf_53 : decode cX0_factsOf 53 = .ok (.aload_n 0, 1) := by decide +kernel
theorem dX0_factsOf_54 : decode cX0_factsOf 54 = .ok (.getfield 32, 3) := by decide +kernel
theorem dX0_factsOf_57 : decode cX0_factsOf 57 = .ok (.iload 7, 2) := by decide +kernel
theorem dX0_factsOf_59 : decode cX0_factsOf 59 = .ok (.caload, 1) := by decide +kernel
theorem dX0_factsOf_60 : decode cX0_factsOf 60 = .ok (.iload_n 1, 1) := by decide +kernel
theorem dX0_factsOf_61 : decode cX0_factsOf 61 = .ok (.iand, 1) := by decide +kernel
theorem dX0_factsOf_62 : decode cX0_factsOf 62 = .ok (.iload_n 1, 1) := by decide +kernel
theorem dX0_factsOf_63 : decode cX0_factsOf 63 = .ok (.if_icmp .ne 28, 3) := by decide +kernel
theorem dX0_factsOf_66 : decode cX0_factsOf 66 = .ok (.aload_n 0, 1) := by decide +kernel
theorem dX0_factsOf_67 : decode cX0_factsOf 67 = .ok (.getfield 12, 3) := by decide +kernel
theorem dX0_factsOf_70 : decode cX0_factsOf 70 = .ok (.aload_n 0, 1) := by decide +kernel
theorem dX0_factsOf_71 : decode cX0_factsOf 71 = .ok (.getfield 28, 3) := by decide +kernel
theorem dX0_factsOf_74 : decode cX0_factsOf 74 = .ok (.invokevirtual 115, 3) := by decide +kernel
theorem dX0_factsOf_77 : decode cX0_factsOf 77 = .ok (.lstore 8, 2) := by decide +kernel
theorem dX0_factsOf_79 : decode cX0_factsOf 79 = .ok (.lload_n 2, 1) := by decide +kernel
theorem dX0_factsOf_80 : decode cX0_factsOf 80 = .ok (.lload 8, 2) := by decide +kernel
theorem dX0_factsOf_82 : decode cX0_factsOf 82 = .ok (.land, 1) := by decide +kernel
theorem dX0_factsOf_83 : decode cX0_factsOf 83 = .ok (.lstore_n 2, 1) := by decide +kernel
theorem dX0_factsOf_84 : decode cX0_factsOf 84 = .ok (.lload 4, 2) := by decide +kernel
theorem dX0_factsOf_86 : decode cX0_factsOf 86 = .ok (.lload 8, 2) := by decide +kernel
theorem dX0_factsOf_88 : decode cX0_factsOf 88 = .ok (.lor, 1) := by decide +kernel
theorem dX0_factsOf_89 : decode cX0_factsOf 89 = .ok (.lstore 4, 2) := by decide +kernel
theorem dX0_factsOf_91 : decode cX0_factsOf 91 = .ok (.aload_n 0, 1) := by decide +kernel
theorem dX0_factsOf_92 : decode cX0_factsOf 92 = .ok (.getfield 12, 3) := by decide +kernel
theorem dX0_factsOf_95 : decode cX0_factsOf 95 = .ok (.invokevirtual 97, 3) := by decide +kernel
theorem dX0_factsOf_98 : decode cX0_factsOf 98 = .ok (.istore 6, 2) := by decide +kernel
theorem dX0_factsOf_100 : decode cX0_factsOf 100 = .ok (.iinc 7 1, 3) := by decide +kernel
theorem dX0_factsOf_103 : decode cX0_factsOf 103 = .ok (.goto (-74), 3) := by decide +kernel
theorem dX0_factsOf_106 : decode cX0_factsOf 106 = .ok (.lload 4, 2) := by decide +kernel
theorem dX0_factsOf_108 : decode cX0_factsOf 108 = .ok (.ldc2_w 113, 3) := by decide +kernel
theorem dX0_factsOf_111 : decode cX0_factsOf 111 = .ok (.lxor, 1) := by decide +kernel
theorem dX0_factsOf_112 : decode cX0_factsOf 112 = .ok (.ldc2_w 119, 3) := by decide +kernel
theorem dX0_factsOf_115 : decode cX0_factsOf 115 = .ok (.land, 1) := by decide +kernel
theorem dX0_factsOf_116 : decode cX0_factsOf 116 = .ok (.bipush 16, 2) := by decide +kernel
theorem dX0_factsOf_118 : decode cX0_factsOf 118 = .ok (.lshl, 1) := by decide +kernel
theorem dX0_factsOf_119 : decode cX0_factsOf 119 = .ok (.lstore 7, 2) := by decide +kernel
theorem dX0_factsOf_121 : decode cX0_factsOf 121 = .ok (.lload 4, 2) := by decide +kernel
theorem dX0_factsOf_123 : decode cX0_factsOf 123 = .ok (.ldc2_w 113, 3) := by decide +kernel
theorem dX0_factsOf_126 : decode cX0_factsOf 126 = .ok (.lxor, 1) := by decide +kernel
theorem dX0_factsOf_127 : decode cX0_factsOf 127 = .ok (.ldc2_w 121, 3) := by decide +kernel
theorem dX0_factsOf_130 : decode cX0_factsOf 130 = .ok (.land, 1) := by decide +kernel
theorem dX0_factsOf_131 : decode cX0_factsOf 131 = .ok (.bipush 48, 2) := by decide +kernel
theorem dX0_factsOf_133 : decode cX0_factsOf 133 = .ok (.lushr, 1) := by decide +kernel
theorem dX0_factsOf_134 : decode cX0_factsOf 134 = .ok (.lstore 9, 2) := by decide +kernel
theorem dX0_factsOf_136 : decode cX0_factsOf 136 = .ok (.lload_n 2, 1) := by decide +kernel
theorem dX0_factsOf_137 : decode cX0_factsOf 137 = .ok (.ldc2_w 123, 3) := by decide +kernel
theorem dX0_factsOf_140 : decode cX0_factsOf 140 = .ok (.land, 1) := by decide +kernel
theorem dX0_factsOf_141 : decode cX0_factsOf 141 = .ok (.lload 7, 2) := by decide +kernel
theorem dX0_factsOf_143 : decode cX0_factsOf 143 = .ok (.lor, 1) := by decide +kernel
theorem dX0_factsOf_144 : decode cX0_factsOf 144 = .ok (.lload 9, 2) := by decide +kernel
theorem dX0_factsOf_146 : decode cX0_factsOf 146 = .ok (.lor, 1) := by decide +kernel
theorem dX0_factsOf_147 : decode cX0_factsOf 147 = .ok (.lreturn, 1) := by decide +kernel
theorem dX1_init_0 : decode cX1_init 0 = .ok (.aload_n 0, 1) := by decide +kernel
theorem dX1_init_1 : decode cX1_init 1 = .ok (.invokespecial 3, 3) := by decide +kernel
theorem dX1_init_4 : decode cX1_init 4 = .ok (.aload_n 0, 1) := by decide +kernel
theorem dX1_init_5 : decode cX1_init 5 = .ok (.bipush 64, 2) := by decide +kernel
theorem dX1_init_7 : decode cX1_init 7 = .ok (.newarray .int, 2) := by decide +kernel
theorem dX1_init_9 : decode cX1_init 9 = .ok (.putfield 9, 3) := by decide +kernel
theorem dX1_init_12 : decode cX1_init 12 = .ok (.return_, 1) := by decide +kernel
theorem dX1_work_0 : decode cX1_work 0 = .ok (.aload_n 0, 1) := by decide +kernel
theorem dX1_work_1 : decode cX1_work 1 = .ok (.lload_n 1, 1) := by decide +kernel
theorem dX1_work_2 : decode cX1_work 2 = .ok (.putfield 15, 3) := by decide +kernel
theorem dX1_work_5 : decode cX1_work 5 = .ok (.aload_n 0, 1) := by decide +kernel
theorem dX1_work_6 : decode cX1_work 6 = .ok (.iload_n 3, 1) := by decide +kernel
theorem dX1_work_7 : decode cX1_work 7 = .ok (.putfield 19, 3) := by decide +kernel
theorem dX1_work_10 : decode cX1_work 10 = .ok (.aload_n 0, 1) := by decide +kernel
theorem dX1_work_11 : decode cX1_work 11 = .ok (.iload 4, 2) := by decide +kernel
theorem dX1_work_13 : decode cX1_work 13 = .ok (.putfield 23, 3) := by decide +kernel
theorem dX1_work_16 : decode cX1_work 16 = .ok (.aload_n 0, 1) := by decide +kernel
theorem dX1_work_17 : decode cX1_work 17 = .ok (.iconst 0, 1) := by decide +kernel
theorem dX1_work_18 : decode cX1_work 18 = .ok (.putfield 26, 3) := by decide +kernel
theorem dX1_work_21 : decode cX1_work 21 = .ok (.iconst 0, 1) := by decide +kernel
theorem dX1_work_22 : decode cX1_work 22 = .ok (.istore 5, 2) := by decide +kernel
theorem dX1_work_24 : decode cX1_work 24 = .ok (.iload 5, 2) := by decide +kernel
theorem dX1_work_26 : decode cX1_work 26 = .ok (.aload_n 0, 1) := by decide +kernel
theorem dX1_work_27 : decode cX1_work 27 = .ok (.getfield 9, 3) := by decide +kernel
theorem dX1_work_30 : decode cX1_work 30 = .ok (.arraylength, 1) := by decide +kernel
theorem dX1_work_31 : decode cX1_work 31 = .ok (.if_icmp .ge 64, 3) := by decide +kernel
theorem dX1_work_34 : decode cX1_work 34 = .ok (.aload_n 0, 1) := by decide +kernel
theorem dX1_work_35 : decode cX1_work 35 = .ok (.getfield 19, 3) := by decide +kernel
theorem dX1_work_38 : decode cX1_work 38 = .ok (.bipush 7, 2) := by decide +kernel
theorem dX1_work_40 : decode cX1_work 40 = .ok (.invokestatic 29, 3) := by decide +kernel
theorem dX1_work_43 : decode cX1_work 43 = .ok (.ifCond .eq 16, 3) := by decide +kernel
theorem dX1_work_46 : decode cX1_work 46 = .ok (.aload_n 0, 1) := by decide +kernel
theorem dX1_work_47 : decode cX1_work 47 = .ok (.iload 5, 2) := by decide +kernel
theorem dX1_work_49 : decode cX1_work 49 = .ok (.invokevirtual 33, 3) := by decide +kernel
theorem dX1_work_52 : decode cX1_work 52 = .ok (.ifCond .eq 7, 3) := by decide +kernel
theorem dX1_work_55 : decode cX1_work 55 = .ok (.iconst 1, 1) := by decide +kernel
theorem dX1_work_56 : decode cX1_work 56 = .ok (.goto 4, 3) := by decide +kernel
theorem dX1_work_59 : decode cX1_work 59 = .ok (.iconst 0, 1) := by decide +kernel
theorem dX1_work_60 : decode cX1_work 60 = .ok (.istore 6, 2) := by decide +kernel
theorem dX1_work_62 : decode cX1_work 62 = .ok (.aload_n 0, 1) := by decide +kernel
theorem dX1_work_63 : decode cX1_work 63 = .ok (.getfield 9, 3) := by decide +kernel
theorem dX1_work_66 : decode cX1_work 66 = .ok (.iload 5, 2) := by decide +kernel
theorem dX1_work_68 : decode cX1_work 68 = .ok (.iload 6, 2) := by decide +kernel
theorem dX1_work_70 : decode cX1_work 70 = .ok (.ifCond .ne 12, 3) := by decide +kernel
theorem dX1_work_73 : decode cX1_work 73 = .ok (.aload_n 0, 1) := by decide +kernel
theorem dX1_work_74 : decode cX1_work 74 = .ok (.iload 5, 2) := by decide +kernel
theorem dX1_work_76 : decode cX1_work 76 = .ok (.invokevirtual 37, 3) := by decide +kernel
theorem dX1_work_79 : decode cX1_work 79 = .ok (.ifCond .eq 7, 3) := by decide +kernel
theorem dX1_work_82 : decode cX1_work 82 = .ok (.iconst 0, 1) := by decide +kernel
theorem dX1_work_83 : decode cX1_work 83 = .ok (.goto 5, 3) := by decide +kernel
theorem dX1_work_86 : decode cX1_work 86 = .ok (.bipush (-9), 2) := by decide +kernel
theorem dX1_work_88 : decode cX1_work 88 = .ok (.iastore, 1) := by decide +kernel
theorem dX1_work_89 : decode cX1_work 89 = .ok (.iinc 5 1, 3) := by decide +kernel
theorem dX1_work_92 : decode cX1_work 92 = .ok (.goto (-68), 3) := by decide +kernel
theorem dX1_work_95 : decode cX1_work 95 = .ok (.iconst 1, 1) := by decide +kernel
theorem dX1_work_96 : decode cX1_work 96 = .ok (.istore 5, 2) := by decide +kernel
theorem dX1_work_98 : decode cX1_work 98 = .ok (.iconst 1, 1) := by decide +kernel
theorem dX1_work_99 : decode cX1_work 99 = .ok (.istore 6, 2) := by decide +kernel
theorem dX1_work_101 : decode cX1_work 101 = .ok (.iload 6, 2) := by decide +kernel
theorem dX1_work_103 : decode cX1_work 103 = .ok (.bipush 64, 2) := by decide +kernel
theorem dX1_work_105 : decode cX1_work 105 = .ok (.if_icmp .gt 43, 3) := by decide +kernel
theorem dX1_work_108 : decode cX1_work 108 = .ok (.iload 5, 2) := by decide +kernel
theorem dX1_work_110 : decode cX1_work 110 = .ok (.ifCond .eq 38, 3) := by decide +kernel
theorem dX1_work_113 : decode cX1_work 113 = .ok (.aload_n 0, 1) := by decide +kernel
theorem dX1_work_114 : decode cX1_work 114 = .ok (.aload_n 0, 1) := by decide +kernel
theorem dX1_work_115 : decode cX1_work 115 = .ok (.iload 6, 2) := by decide +kernel
theorem dX1_work_117 : decode cX1_work 117 = .ok (.invokevirtual 40, 3) := by decide +kernel
theorem dX1_work_120 : decode cX1_work 120 = .ok (.putfield 44, 3) := by decide +kernel
theorem dX1_work_123 : decode cX1_work 123 = .ok (.aload_n 0, 1) := by decide +kernel
theorem dX1_work_124 : decode cX1_work 124 = .ok (.iload 6, 2) := by decide +kernel
theorem dX1_work_126 : decode cX1_work 126 = .ok (.invokevirtual 47, 3) := by decide +kernel
theorem dX1_work_129 : decode cX1_work 129 = .ok (.istore 5, 2) := by decide +kernel
theorem dX1_work_131 : decode cX1_work 131 = .ok (.iload 5, 2) := by decide +kernel
theorem dX1_work_133 : decode cX1_work 133 = .ok (.ifCond .eq 9, 3) := by decide +kernel
theorem dX1_work_136 : decode cX1_work 136 = .ok (.aload_n 0, 1) := by decide +kernel
theorem dX1_work_137 : decode cX1_work 137 = .ok (.iload 6, 2) := by decide +kernel
theorem dX1_work_139 : decode cX1_work 139 = .ok (.putfield 26, 3) := by decide +kernel
theorem dX1_work_142 : decode cX1_work 142 = .ok (.iinc 6 1, 3) := by decide +kernel
theorem dX1_work_145 : decode cX1_work 145 = .ok (.goto (-44), 3) := by decide +kernel
theorem dX1_work_148 : decode cX1_work 148 = .ok (.return_, 1) := by decide +kernel
theorem dX1_isAnyComing_0 : decode cX1_isAnyComing 0 = .ok (.iconst 0, 1) := by decide +kernel
theorem dX1_isAnyComing_1 : decode cX1_isAnyComing 1 = .ok (.istore_n 2, 1) := by decide +kernel
theorem dX1_isAnyComing_2 : decode cX1_isAnyComing 2 = .ok (.iconst 0, 1) := by decide +kernel
theorem dX1_isAnyComing_3 : decode cX1_isAnyComing 3 = .ok (.istore_n 3, 1) := by decide +kernel
theorem dX1_isAnyComing_4 : decode cX1_isAnyComing 4 = .ok (.iload_n 3, 1) := by decide +kernel
theorem dX1_isAnyComing_5 : decode cX1_isAnyComing 5 = .ok (.aload_n 0, 1) := by decide +kernel
theorem dX1_isAnyComing_6 : decode cX1_isAnyComing 6 = .ok (.getfield 9, 3) := by decide +kernel
theorem dX1_isAnyComing_9 : decode cX1_isAnyComing 9 = .ok (.arraylength, 1) := by decide +kernel
theorem dX1_isAnyComing_10 : decode cX1_isAnyComing 10 = .ok (.if_icmp .ge 47, 3) := by decide +kernel
theorem dX1_isAnyComing_13 : decode cX1_isAnyComing 13 = .ok (.aload_n 0, 1) := by decide +kernel
theorem dX1_isAnyComing_14 : decode cX1_isAnyComing 14 = .ok (.iload_n 3, 1) := by decide +kernel
theorem dX1_isAnyComing_15 : decode cX1_isAnyComing 15 = .ok (.invokevirtual 50, 3) := by decide +kernel
theorem dX1_isAnyComing_18 : decode cX1_isAnyComing 18 = .ok (.ifCond .eq 33, 3) := by decide +kernel
theorem dX1_isAnyComing_21 : decode cX1_isAnyComing 21 = .ok (.aload_n 0, 1) := by decide +kernel
theorem dX1_isAnyComing_22 : decode cX1_isAnyComing 22 = .ok (.getfield 9, 3) := by decide +kernel
theorem dX1_isAnyComing_25 : decode cX1_isAnyComing 25 = .ok (.iload_n 3, 1) := by decide +kernel
theorem dX1_isAnyComing_26 : decode cX1_isAnyComing 26 = .ok (.iaload, 1) := by decide +kernel
theorem dX1_isAnyComing_27 : decode cX1_isAnyComing 27 = .ok (.bipush (-9), 2) := by decide +kernel
theorem dX1_isAnyComing_29 : decode cX1_isAnyComing 29 = .ok (.if_icmp .ne 22, 3) := by decide +kernel
theorem dX1_isAnyComing_32 : decode cX1_isAnyComing 32 = .ok (.aload_n 0, 1) := by decide +kernel
theorem dX1_isAnyComing_33 : decode cX1_isAnyComing 33 = .ok (.iload_n 3, 1) := by decide +kernel
theorem dX1_isAnyComing_34 : decode cX1_isAnyComing 34 = .ok (.invokevirtual 53, 3) := by decide +kernel
theorem dX1_isAnyComing_37 : decode cX1_isAnyComing 37 = .ok (.bipush (-9), 2) := by decide +kernel
theorem dX1_isAnyComing_39 : decode cX1_isAnyComing 39 = .ok (.if_icmp .eq 12, 3) := by decide +kernel
theorem dX1_isAnyComing_42 : decode cX1_isAnyComing 42 = .ok (.aload_n 0, 1) := by decide +kernel
theorem dX1_isAnyComing_43 : decode cX1_isAnyComing 43 = .ok (.getfield 9, 3) := by decide +kernel
theorem dX1_isAnyComing_46 : decode cX1_isAnyComing 46 = .ok (.iload_n 3, 1) := by decide +kernel
theorem dX1_isAnyComing_47 : decode cX1_isAnyComing 47 = .ok (.iload_n 1, 1) := by decide +kernel
theorem dX1_isAnyComing_48 : decode cX1_isAnyComing 48 = .ok (.iastore, 1) := by decide +kernel
theorem dX1_isAnyComing_49 : decode cX1_isAnyComing 49 = .ok (.iconst 1, 1) := by decide +kernel
theorem dX1_isAnyComing_50 : decode cX1_isAnyComing 50 = .ok (.istore_n 2, 1) := by decide +kernel
theorem dX1_isAnyComing_51 : decode cX1_isAnyComing 51 = .ok (.iinc 3 1, 3) := by decide +kernel
theorem dX1_isAnyComing_54 : decode cX1_isAnyComing 54 = .ok (.goto (-50), 3) := by decide +kernel
theorem dX1_isAnyComing_57 : decode cX1_isAnyComing 57 = .ok (.iload_n 2, 1) := by decide +kernel
theorem dX1_isAnyComing_58 : decode cX1_isAnyComing 58 = .ok (.ireturn, 1) := by decide +kernel
theorem dX1_isTold_0 : decode cX1_isTold 0 = .ok (.aload_n 0, 1) := by decide +kernel
theorem dX1_isTold_1 : decode cX1_isTold 1 = .ok (.getfield 15, 3) := by decide +kernel
theorem dX1_isTold_4 : decode cX1_isTold 4 = .ok (.iload_n 1, 1) := by decide +kernel
theorem dX1_isTold_5 : decode cX1_isTold 5 = .ok (.lushr, 1) := by decide +kernel
theorem dX1_isTold_6 : decode cX1_isTold 6 = .ok (.lconst 1, 1) := by decide +kernel
theorem dX1_isTold_7 : decode cX1_isTold 7 = .ok (.land, 1) := by decide +kernel
theorem dX1_isTold_8 : decode cX1_isTold 8 = .ok (.lconst 0, 1) := by decide +kernel
theorem dX1_isTold_9 : decode cX1_isTold 9 = .ok (.lcmp, 1) := by decide +kernel
theorem dX1_isTold_10 : decode cX1_isTold 10 = .ok (.ifCond .eq 7, 3) := by decide +kernel
theorem dX1_isTold_13 : decode cX1_isTold 13 = .ok (.iconst 1, 1) := by decide +kernel
theorem dX1_isTold_14 : decode cX1_isTold 14 = .ok (.goto 4, 3) := by decide +kernel
theorem dX1_isTold_17 : decode cX1_isTold 17 = .ok (.iconst 0, 1) := by decide +kernel
theorem dX1_isTold_18 : decode cX1_isTold 18 = .ok (.ireturn, 1) := by decide +kernel
theorem dX1_isOfKinds_0 : decode cX1_isOfKinds 0 = .ok (.iload_n 1, 1) := by decide +kernel
theorem dX1_isOfKinds_1 : decode cX1_isOfKinds 1 = .ok (.iconst 2, 1) := by decide +kernel
theorem dX1_isOfKinds_2 : decode cX1_isOfKinds 2 = .ok (.ishr, 1) := by decide +kernel
theorem dX1_isOfKinds_3 : decode cX1_isOfKinds 3 = .ok (.iconst 3, 1) := by decide +kernel
theorem dX1_isOfKinds_4 : decode cX1_isOfKinds 4 = .ok (.iand, 1) := by decide +kernel
theorem dX1_isOfKinds_5 : decode cX1_isOfKinds 5 = .ok (.aload_n 0, 1) := by decide +kernel
theorem dX1_isOfKinds_6 : decode cX1_isOfKinds 6 = .ok (.getfield 23, 3) := by decide +kernel
theorem dX1_isOfKinds_9 : decode cX1_isOfKinds 9 = .ok (.if_icmp .ge 17, 3) := by decide +kernel
theorem dX1_isOfKinds_12 : decode cX1_isOfKinds 12 = .ok (.iload_n 1, 1) := by decide +kernel
theorem dX1_isOfKinds_13 : decode cX1_isOfKinds 13 = .ok (.iconst 3, 1) := by decide +kernel
theorem dX1_isOfKinds_14 : decode cX1_isOfKinds 14 = .ok (.iand, 1) := by decide +kernel
theorem dX1_isOfKinds_15 : decode cX1_isOfKinds 15 = .ok (.aload_n 0, 1) := by decide +kernel
theorem dX1_isOfKinds_16 : decode cX1_isOfKinds 16 = .ok (.getfield 23, 3) := by decide +kernel
theorem dX1_isOfKinds_19 : decode cX1_isOfKinds 19 = .ok (.if_icmp .ge 7, 3) := by decide +kernel
theorem dX1_isOfKinds_22 : decode cX1_isOfKinds 22 = .ok (.iconst 1, 1) := by decide +kernel
theorem dX1_isOfKinds_23 : decode cX1_isOfKinds 23 = .ok (.goto 4, 3) := by decide +kernel
theorem dX1_isOfKinds_26 : decode cX1_isOfKinds 26 = .ok (.iconst 0, 1) := by decide +kernel
theorem dX1_isOfKinds_27 : decode cX1_isOfKinds 27 = .ok (.ireturn, 1) := by decide +kernel
theorem dX1_isSame_0 : decode cX1_isSame 0 = .ok (.iload_n 1, 1) := by decide +kernel
theorem dX1_isSame_1 : decode cX1_isSame 1 = .ok (.iconst 4, 1) := by decide +kernel
theorem dX1_isSame_2 : decode cX1_isSame 2 = .ok (.ishr, 1) := by decide +kernel
theorem dX1_isSame_3 : decode cX1_isSame 3 = .ok (.ifCond .ne 26, 3) := by decide +kernel
theorem dX1_isSame_6 : decode cX1_isSame 6 = .ok (.aload_n 0, 1) := by decide +kernel
theorem dX1_isSame_7 : decode cX1_isSame 7 = .ok (.iload_n 1, 1) := by decide +kernel
theorem dX1_isSame_8 : decode cX1_isSame 8 = .ok (.invokevirtual 50, 3) := by decide +kernel
theorem dX1_isSame_11 : decode cX1_isSame 11 = .ok (.ifCond .eq 18, 3) := by decide +kernel
theorem dX1_isSame_14 : decode cX1_isSame 14 = .ok (.iload_n 1, 1) := by decide +kernel
theorem dX1_isSame_15 : decode cX1_isSame 15 = .ok (.iconst 2, 1) := by decide +kernel
theorem dX1_isSame_16 : decode cX1_isSame 16 = .ok (.ishr, 1) := by decide +kernel
theorem dX1_isSame_17 : decode cX1_isSame 17 = .ok (.iconst 3, 1) := by decide +kernel
theorem dX1_isSame_18 : decode cX1_isSame 18 = .ok (.iand, 1) := by decide +kernel
theorem dX1_isSame_19 : decode cX1_isSame 19 = .ok (.iload_n 1, 1) := by decide +kernel
theorem dX1_isSame_20 : decode cX1_isSame 20 = .ok (.iconst 3, 1) := by decide +kernel
theorem dX1_isSame_21 : decode cX1_isSame 21 = .ok (.iand, 1) := by decide +kernel
theorem dX1_isSame_22 : decode cX1_isSame 22 = .ok (.if_icmp .ne 7, 3) := by decide +kernel
theorem dX1_isSame_25 : decode cX1_isSame 25 = .ok (.iconst 1, 1) := by decide +kernel
theorem dX1_isSame_26 : decode cX1_isSame 26 = .ok (.goto 4, 3) := by decide +kernel
theorem dX1_isSame_29 : decode cX1_isSame 29 = .ok (.iconst 0, 1) := by decide +kernel
theorem dX1_isSame_30 : decode cX1_isSame 30 = .ok (.ireturn, 1) := by decide +kernel
theorem dX1_roundAt_0 : decode cX1_roundAt 0 = .ok (.iload_n 1, 1) := by decide +kernel
theorem dX1_roundAt_1 : decode cX1_roundAt 1 = .ok (.ifCond .lt 21, 3) := by decide +kernel
theorem dX1_roundAt_4 : decode cX1_roundAt 4 = .ok (.iload_n 1, 1) := by decide +kernel
theorem dX1_roundAt_5 : decode cX1_roundAt 5 = .ok (.aload_n 0, 1) := by decide +kernel
theorem dX1_roundAt_6 : decode cX1_roundAt 6 = .ok (.getfield 9, 3) := by decide +kernel
theorem dX1_roundAt_9 : decode cX1_roundAt 9 = .ok (.arraylength, 1) := by decide +kernel
theorem dX1_roundAt_10 : decode cX1_roundAt 10 = .ok (.if_icmp .ge 12, 3) := by decide +kernel
theorem dX1_roundAt_13 : decode cX1_roundAt 13 = .ok (.aload_n 0, 1) := by decide +kernel
theorem dX1_roundAt_14 : decode cX1_roundAt 14 = .ok (.getfield 9, 3) := by decide +kernel
theorem dX1_roundAt_17 : decode cX1_roundAt 17 = .ok (.iload_n 1, 1) := by decide +kernel
theorem dX1_roundAt_18 : decode cX1_roundAt 18 = .ok (.iaload, 1) := by decide +kernel
theorem dX1_roundAt_19 : decode cX1_roundAt 19 = .ok (.goto 5, 3) := by decide +kernel
theorem dX1_roundAt_22 : decode cX1_roundAt 22 = .ok (.bipush (-9), 2) := by decide +kernel
theorem dX1_roundAt_24 : decode cX1_roundAt 24 = .ok (.ireturn, 1) := by decide +kernel
theorem dX1_facts_0 : decode cX1_facts 0 = .ok (.aload_n 0, 1) := by decide +kernel
theorem dX1_facts_1 : decode cX1_facts 1 = .ok (.bipush 65, 2) := by decide +kernel
theorem dX1_facts_3 : decode cX1_facts 3 = .ok (.invokevirtual 40, 3) := by decide +kernel
theorem dX1_facts_6 : decode cX1_facts 6 = .ok (.lreturn, 1) := by decide +kernel
theorem dX1_factsAhead_0 : decode cX1_factsAhead 0 = .ok (.lconst 0, 1) := by decide +kernel
theorem dX1_factsAhead_1 : decode cX1_factsAhead 1 = .ok (.lstore_n 2, 1) := by decide +kernel
theorem dX1_factsAhead_2 : decode cX1_factsAhead 2 = .ok (.iconst 0, 1) := by decide +kernel
theorem dX1_factsAhead_3 : decode cX1_factsAhead 3 = .ok (.istore 4, 2) := by decide +kernel
theorem dX1_factsAhead_5 : decode cX1_factsAhead 5 = .ok (.iload 4, 2) := by decide +kernel
theorem dX1_factsAhead_7 : decode cX1_factsAhead 7 = .ok (.aload_n 0, 1) := by decide +kernel
theorem dX1_factsAhead_8 : decode cX1_factsAhead 8 = .ok (.getfield 9, 3) := by decide +kernel
theorem dX1_factsAhead_11 : decode cX1_factsAhead 11 = .ok (.arraylength, 1) := by decide +kernel
theorem dX1_factsAhead_12 : decode cX1_factsAhead 12 = .ok (.if_icmp .ge 39, 3) := by decide +kernel
theorem dX1_factsAhead_15 : decode cX1_factsAhead 15 = .ok (.aload_n 0, 1) := by decide +kernel
theorem dX1_factsAhead_16 : decode cX1_factsAhead 16 = .ok (.getfield 9, 3) := by decide +kernel
theorem dX1_factsAhead_19 : decode cX1_factsAhead 19 = .ok (.iload 4, 2) := by decide +kernel
theorem dX1_factsAhead_21 : decode cX1_factsAhead 21 = .ok (.iaload, 1) := by decide +kernel
theorem dX1_factsAhead_22 : decode cX1_factsAhead 22 = .ok (.bipush (-9), 2) := by decide +kernel
theorem dX1_factsAhead_24 : decode cX1_factsAhead 24 = .ok (.if_icmp .eq 21, 3) := by decide +kernel
theorem dX1_factsAhead_27 : decode cX1_factsAhead 27 = .ok (.aload_n 0, 1) := by decide +kernel
theorem dX1_factsAhead_28 : decode cX1_factsAhead 28 = .ok (.getfield 9, 3) := by decide +kernel
theorem dX1_factsAhead_31 : decode cX1_factsAhead 31 = .ok (.iload 4, 2) := by decide +kernel
theorem dX1_factsAhead_33 : decode cX1_factsAhead 33 = .ok (.iaload, 1) := by decide +kernel
theorem dX1_factsAhead_34 : decode cX1_factsAhead 34 = .ok (.iload_n 1, 1) := by decide +kernel
theorem dX1_factsAhead_35 : decode cX1_factsAhead 35 = .ok (.if_icmp .ge 10, 3) := by decide +kernel
theorem dX1_factsAhead_38 : decode cX1_factsAhead 38 = .ok (.lload_n 2, 1) := by decide +kernel
theorem dX1_factsAhead_39 : decode cX1_factsAhead 39 = .ok (.lconst 1, 1) := by decide +kernel
theorem dX1_factsAhead_40 : decode cX1_factsAhead 40 = .ok (.iload 4, 2) := by decide +kernel
theorem dX1_factsAhead_42 : decode cX1_factsAhead 42 = .ok (.lshl, 1) := by decide +kernel
theorem dX1_factsAhead_43 : decode cX1_factsAhead 43 = .ok (.lor, 1) := by decide +kernel
theorem dX1_factsAhead_44 : decode cX1_factsAhead 44 = .ok (.lstore_n 2, 1) := by decide +kernel
theorem dX1_factsAhead_45 : decode cX1_factsAhead 45 = .ok (.iinc 4 1, 3) := by decide +kernel
theorem dX1_factsAhead_48 : decode cX1_factsAhead 48 = .ok (.goto (-43), 3) := by decide +kernel
theorem dX1_factsAhead_51 : decode cX1_factsAhead 51 = .ok (.lload_n 2, 1) := by decide +kernel
theorem dX1_factsAhead_52 : decode cX1_factsAhead 52 = .ok (.lreturn, 1) := by decide +kernel
theorem dX1_step_0 : decode cX1_step 0 = .ok (.aload_n 0, 1) := by decide +kernel
theorem dX1_step_1 : decode cX1_step 1 = .ok (.iload_n 1, 1) := by decide +kernel
theorem dX1_step_2 : decode cX1_step 2 = .ok (.invokevirtual 57, 3) := by decide +kernel
theorem dX1_step_5 : decode cX1_step 5 = .ok (.istore_n 3, 1) := by decide +kernel
theorem dX1_step_6 : decode cX1_step 6 = .ok (.iload_n 3, 1) := by decide +kernel
theorem dX1_step_7 : decode cX1_step 7 = .ok (.bipush (-9), 2) := by decide +kernel
theorem dX1_step_9 : decode cX1_step 9 = .ok (.if_icmp .eq 11, 3) := by decide +kernel
theorem dX1_step_12 : decode cX1_step 12 = .ok (.aload_n 0, 1) := by decide +kernel
theorem dX1_step_13 : decode cX1_step 13 = .ok (.iload_n 1, 1) := by decide +kernel
theorem dX1_step_14 : decode cX1_step 14 = .ok (.invokevirtual 37, 3) := by decide +kernel
theorem dX1_step_17 : decode cX1_step 17 = .ok (.ifCond .eq 6, 3) := by decide +kernel
theorem dX1_step_20 : decode cX1_step 20 = .ok (.bipush (-9), 2) := by decide +kernel
theorem dX1_step_22 : decode cX1_step 22 = .ok (.ireturn, 1) := by decide +kernel
theorem dX1_step_23 : decode cX1_step 23 = .ok (.aload_n 0, 1) := by decide +kernel
theorem dX1_step_24 : decode cX1_step 24 = .ok (.aload_n 0, 1) := by decide +kernel
theorem dX1_step_25 : decode cX1_step 25 = .ok (.iload_n 3, 1) := by decide +kernel
theorem dX1_step_26 : decode cX1_step 26 = .ok (.invokevirtual 40, 3) := by decide +kernel
theorem dX1_step_29 : decode cX1_step 29 = .ok (.putfield 44, 3) := by decide +kernel
theorem dX1_step_32 : decode cX1_step 32 = .ok (.aload_n 0, 1) := by decide +kernel
theorem dX1_step_33 : decode cX1_step 33 = .ok (.iload_n 1, 1) := by decide +kernel
theorem dX1_step_34 : decode cX1_step 34 = .ok (.invokevirtual 53, 3) := by decide +kernel
theorem dX1_step_37 : decode cX1_step 37 = .ok (.istore 4, 2) := by decide +kernel
theorem dX1_step_39 : decode cX1_step 39 = .ok (.iload_n 2, 1) := by decide +kernel
theorem dX1_step_40 : decode cX1_step 40 = .ok (.ifCond .eq 10, 3) := by decide +kernel
theorem dX1_step_43 : decode cX1_step 43 = .ok (.iload 4, 2) := by decide +kernel
theorem dX1_step_45 : decode cX1_step 45 = .ok (.bipush (-9), 2) := by decide +kernel
theorem dX1_step_47 : decode cX1_step 47 = .ok (.if_icmp .ne 6, 3) := by decide +kernel
theorem dX1_step_50 : decode cX1_step 50 = .ok (.iload 4, 2) := by decide +kernel
theorem dX1_step_52 : decode cX1_step 52 = .ok (.ireturn, 1) := by decide +kernel
theorem dX1_step_53 : decode cX1_step 53 = .ok (.iload_n 2, 1) := by decide +kernel
theorem dX1_step_54 : decode cX1_step 54 = .ok (.iconst 1, 1) := by decide +kernel
theorem dX1_step_55 : decode cX1_step 55 = .ok (.if_icmp .ne 10, 3) := by decide +kernel
theorem dX1_step_58 : decode cX1_step 58 = .ok (.aload_n 0, 1) := by decide +kernel
theorem dX1_step_59 : decode cX1_step 59 = .ok (.getfield 60, 3) := by decide +kernel
theorem dX1_step_62 : decode cX1_step 62 = .ok (.goto 7, 3) := by decide +kernel
theorem dX1_step_65 : decode cX1_step 65 = .ok (.aload_n 0, 1) := by decide +kernel
theorem dX1_step_66 : decode cX1_step 66 = .ok (.getfield 63, 3) := by decide +kernel
theorem dX1_step_69 : decode cX1_step 69 = .ok (.ireturn, 1) := by decide +kernel
theorem dX1_leastMood_0 : decode cX1_leastMood 0 = .ok (.iconst 0, 1) := by decide +kernel
theorem dX1_leastMood_1 : decode cX1_leastMood 1 = .ok (.istore_n 2, 1) := by decide +kernel
theorem dX1_leastMood_2 : decode cX1_leastMood 2 = .ok (.iload_n 2, 1) := by decide +kernel
theorem dX1_leastMood_3 : decode cX1_leastMood 3 = .ok (.bipush 9, 2) := by decide +kernel
theorem dX1_leastMood_5 : decode cX1_leastMood 5 = .ok (.if_icmp .ge 67, 3) := by decide +kernel
theorem dX1_leastMood_8 : decode cX1_leastMood 8 = .ok (.iload_n 2, 1) := by decide +kernel
theorem dX1_leastMood_9 : decode cX1_leastMood 9 = .ok (.getstatic 66, 3) := by decide +kernel
theorem dX1_leastMood_12 : decode cX1_leastMood 12 = .ok (.arraylength, 1) := by decide +kernel
theorem dX1_leastMood_13 : decode cX1_leastMood 13 = .ok (.if_icmp .ge 59, 3) := by decide +kernel
theorem dX1_leastMood_16 : decode cX1_leastMood 16 = .ok (.aload_n 0, 1) := by decide +kernel
theorem dX1_leastMood_17 : decode cX1_leastMood 17 = .ok (.getfield 19, 3) := by decide +kernel
theorem dX1_leastMood_20 : decode cX1_leastMood 20 = .ok (.iload_n 2, 1) := by decide +kernel
theorem dX1_leastMood_21 : decode cX1_leastMood 21 = .ok (.invokestatic 29, 3) := by decide +kernel
theorem dX1_leastMood_24 : decode cX1_leastMood 24 = .ok (.ifCond .eq 18, 3) := by decide +kernel
theorem dX1_leastMood_27 : decode cX1_leastMood 27 = .ok (.getstatic 66, 3) := by decide +kernel
theorem dX1_leastMood_30 : decode cX1_leastMood 30 = .ok (.iload_n 2, 1) := by decide +kernel
theorem dX1_leastMood_31 : decode cX1_leastMood 31 = .ok (.iaload, 1) := by decide +kernel
theorem dX1_leastMood_32 : decode cX1_leastMood 32 = .ok (.iload_n 1, 1) := by decide +kernel
theorem dX1_leastMood_33 : decode cX1_leastMood 33 = .ok (.iconst 4, 1) := by decide +kernel
theorem dX1_leastMood_34 : decode cX1_leastMood 34 = .ok (.ishr, 1) := by decide +kernel
theorem dX1_leastMood_35 : decode cX1_leastMood 35 = .ok (.if_icmp .ne 7, 3) := by decide +kernel
theorem dX1_leastMood_38 : decode cX1_leastMood 38 = .ok (.iconst 1, 1) := by decide +kernel
theorem dX1_leastMood_39 : decode cX1_leastMood 39 = .ok (.goto 4, 3) := by decide +kernel
theorem dX1_leastMood_42 : decode cX1_leastMood 42 = .ok (.iconst 0, 1) := by decide +kernel
theorem dX1_leastMood_43 : decode cX1_leastMood 43 = .ok (.istore_n 3, 1) := by decide +kernel
theorem dX1_leastMood_44 : decode cX1_leastMood 44 = .ok (.iload_n 3, 1) := by decide +kernel
theorem dX1_leastMood_45 : decode cX1_leastMood 45 = .ok (.ifCond .eq 21, 3) := by decide +kernel
theorem dX1_leastMood_48 : decode cX1_leastMood 48 = .ok (.aload_n 0, 1) := by decide +kernel
theorem dX1_leastMood_49 : decode cX1_leastMood 49 = .ok (.iload_n 2, 1) := by decide +kernel
theorem dX1_leastMood_50 : decode cX1_leastMood 50 = .ok (.iload_n 1, 1) := by decide +kernel
theorem dX1_leastMood_51 : decode cX1_leastMood 51 = .ok (.iconst 2, 1) := by decide +kernel
theorem dX1_leastMood_52 : decode cX1_leastMood 52 = .ok (.ishr, 1) := by decide +kernel
theorem dX1_leastMood_53 : decode cX1_leastMood 53 = .ok (.iconst 3, 1) := by decide +kernel
theorem dX1_leastMood_54 : decode cX1_leastMood 54 = .ok (.iand, 1) := by decide +kernel
theorem dX1_leastMood_55 : decode cX1_leastMood 55 = .ok (.iload_n 1, 1) := by decide +kernel
theorem dX1_leastMood_56 : decode cX1_leastMood 56 = .ok (.iconst 3, 1) := by decide +kernel
theorem dX1_leastMood_57 : decode cX1_leastMood 57 = .ok (.iand, 1) := by decide +kernel
theorem dX1_leastMood_58 : decode cX1_leastMood 58 = .ok (.invokevirtual 69, 3) := by decide +kernel
theorem dX1_leastMood_61 : decode cX1_leastMood 61 = .ok (.ifCond .eq 5, 3) := by decide +kernel
theorem dX1_leastMood_64 : decode cX1_leastMood 64 = .ok (.iload_n 2, 1) := by decide +kernel
theorem dX1_leastMood_65 : decode cX1_leastMood 65 = .ok (.ireturn, 1) := by decide +kernel
theorem dX1_leastMood_66 : decode cX1_leastMood 66 = .ok (.iinc 2 1, 3) := by decide +kernel
theorem dX1_leastMood_69 : decode cX1_leastMood 69 = .ok (.goto (-67), 3) := by decide +kernel
theorem dX1_leastMood_72 : decode cX1_leastMood 72 = .ok (.bipush (-9), 2) := by decide +kernel
theorem dX1_leastMood_74 : decode cX1_leastMood 74 = .ok (.ireturn, 1) := by decide +kernel
theorem dX1_isShowing_0 : decode cX1_isShowing 0 = .ok (.iload_n 1, 1) := by decide +kernel
theorem dX1_isShowing_1 : decode cX1_isShowing 1 = .ok (.getstatic 73, 3) := by decide +kernel
theorem dX1_isShowing_4 : decode cX1_isShowing 4 = .ok (.arraylength, 1) := by decide +kernel
theorem dX1_isShowing_5 : decode cX1_isShowing 5 = .ok (.if_icmp .ge 11, 3) := by decide +kernel
theorem dX1_isShowing_8 : decode cX1_isShowing 8 = .ok (.getstatic 73, 3) := by decide +kernel
theorem dX1_isShowing_11 : decode cX1_isShowing 11 = .ok (.iload_n 1, 1) := by decide +kernel
theorem dX1_isShowing_12 : decode cX1_isShowing 12 = .ok (.iaload, 1) := by decide +kernel
theorem dX1_isShowing_13 : decode cX1_isShowing 13 = .ok (.goto 5, 3) := by decide +kernel
theorem dX1_isShowing_16 : decode cX1_isShowing 16 = .ok (.bipush (-9), 2) := by decide +kernel
theorem dX1_isShowing_18 : decode cX1_isShowing 18 = .ok (.istore 4, 2) := by decide +kernel
theorem dX1_isShowing_20 : decode cX1_isShowing 20 = .ok (.iload_n 1, 1) := by decide +kernel
theorem dX1_isShowing_21 : decode cX1_isShowing 21 = .ok (.getstatic 76, 3) := by decide +kernel
theorem dX1_isShowing_24 : decode cX1_isShowing 24 = .ok (.arraylength, 1) := by decide +kernel
theorem dX1_isShowing_25 : decode cX1_isShowing 25 = .ok (.if_icmp .ge 11, 3) := by decide +kernel
theorem dX1_isShowing_28 : decode cX1_isShowing 28 = .ok (.getstatic 76, 3) := by decide +kernel
theorem dX1_isShowing_31 : decode cX1_isShowing 31 = .ok (.iload_n 1, 1) := by decide +kernel
theorem dX1_isShowing_32 : decode cX1_isShowing 32 = .ok (.iaload, 1) := by decide +kernel
theorem dX1_isShowing_33 : decode cX1_isShowing 33 = .ok (.goto 5, 3) := by decide +kernel
theorem dX1_isShowing_36 : decode cX1_isShowing 36 = .ok (.bipush (-9), 2) := by decide +kernel
theorem dX1_isShowing_38 : decode cX1_isShowing 38 = .ok (.istore 5, 2) := by decide +kernel
theorem dX1_isShowing_40 : decode cX1_isShowing 40 = .ok (.iload_n 1, 1) := by decide +kernel
theorem dX1_isShowing_41 : decode cX1_isShowing 41 = .ok (.tableswitch 85 4 8 #[35, 35, 85, 49, 71], 35) := by decide +kernel
theorem dX1_isShowing_76 : decode cX1_isShowing 76 = .ok (.aload_n 0, 1) := by decide +kernel
theorem dX1_isShowing_77 : decode cX1_isShowing 77 = .ok (.iload 4, 2) := by decide +kernel
theorem dX1_isShowing_79 : decode cX1_isShowing 79 = .ok (.iload_n 3, 1) := by decide +kernel
theorem dX1_isShowing_80 : decode cX1_isShowing 80 = .ok (.iload_n 2, 1) := by decide +kernel
theorem dX1_isShowing_81 : decode cX1_isShowing 81 = .ok (.invokestatic 79, 3) := by decide +kernel
theorem dX1_isShowing_84 : decode cX1_isShowing 84 = .ok (.bipush (-9), 2) := by decide +kernel
theorem dX1_isShowing_86 : decode cX1_isShowing 86 = .ok (.invokevirtual 83, 3) := by decide +kernel
theorem dX1_isShowing_89 : decode cX1_isShowing 89 = .ok (.ireturn, 1) := by decide +kernel
theorem dX1_isShowing_90 : decode cX1_isShowing 90 = .ok (.iload_n 2, 1) := by decide +kernel
theorem dX1_isShowing_91 : decode cX1_isShowing 91 = .ok (.iload_n 3, 1) := by decide +kernel
theorem dX1_isShowing_92 : decode cX1_isShowing 92 = .ok (.if_icmp .ne 18, 3) := by decide +kernel
theorem dX1_isShowing_95 : decode cX1_isShowing 95 = .ok (.aload_n 0, 1) := by decide +kernel
theorem dX1_isShowing_96 : decode cX1_isShowing 96 = .ok (.bipush (-9), 2) := by decide +kernel
theorem dX1_isShowing_98 : decode cX1_isShowing 98 = .ok (.bipush (-9), 2) := by decide +kernel
theorem dX1_isShowing_100 : decode cX1_isShowing 100 = .ok (.invokevirtual 83, 3) := by decide +kernel
theorem dX1_isShowing_103 : decode cX1_isShowing 103 = .ok (.ifCond .eq 7, 3) := by decide +kernel
theorem dX1_isShowing_106 : decode cX1_isShowing 106 = .ok (.iconst 1, 1) := by decide +kernel
theorem dX1_isShowing_107 : decode cX1_isShowing 107 = .ok (.goto 4, 3) := by decide +kernel
theorem dX1_isShowing_110 : decode cX1_isShowing 110 = .ok (.iconst 0, 1) := by decide +kernel
theorem dX1_isShowing_111 : decode cX1_isShowing 111 = .ok (.ireturn, 1) := by decide +kernel
theorem dX1_isShowing_112 : decode cX1_isShowing 112 = .ok (.aload_n 0, 1) := by decide +kernel
theorem dX1_isShowing_113 : decode cX1_isShowing 113 = .ok (.iload 4, 2) := by decide +kernel
theorem dX1_isShowing_115 : decode cX1_isShowing 115 = .ok (.iload_n 2, 1) := by decide +kernel
theorem dX1_isShowing_116 : decode cX1_isShowing 116 = .ok (.iload_n 3, 1) := by decide +kernel
theorem dX1_isShowing_117 : decode cX1_isShowing 117 = .ok (.invokestatic 79, 3) := by decide +kernel
theorem dX1_isShowing_120 : decode cX1_isShowing 120 = .ok (.bipush (-9), 2) := by decide +kernel
theorem dX1_isShowing_122 : decode cX1_isShowing 122 = .ok (.invokevirtual 83, 3) := by decide +kernel
theorem dX1_isShowing_125 : decode cX1_isShowing 125 = .ok (.ireturn, 1) := by decide +kernel
theorem dX1_isShowing_126 : decode cX1_isShowing 126 = .ok (.iconst 0, 1) := by decide +kernel
theorem dX1_isShowing_127 : decode cX1_isShowing 127 = .ok (.istore 6, 2) := by decide +kernel
theorem dX1_isShowing_129 : decode cX1_isShowing 129 = .ok (.iload 6, 2) := by decide +kernel
theorem dX1_isShowing_131 : decode cX1_isShowing 131 = .ok (.aload_n 0, 1) := by decide +kernel
theorem dX1_isShowing_132 : decode cX1_isShowing 132 = .ok (.getfield 23, 3) := by decide +kernel
theorem dX1_isShowing_135 : decode cX1_isShowing 135 = .ok (.if_icmp .ge 59, 3) := by decide +kernel
theorem dX1_isShowing_138 : decode cX1_isShowing 138 = .ok (.iload 4, 2) := by decide +kernel
theorem dX1_isShowing_140 : decode cX1_isShowing 140 = .ok (.iload_n 2, 1) := by decide +kernel
theorem dX1_isShowing_141 : decode cX1_isShowing 141 = .ok (.iload 6, 2) := by decide +kernel
theorem dX1_isShowing_143 : decode cX1_isShowing 143 = .ok (.invokestatic 79, 3) := by decide +kernel
theorem dX1_isShowing_146 : decode cX1_isShowing 146 = .ok (.istore 7, 2) := by decide +kernel
theorem dX1_isShowing_148 : decode cX1_isShowing 148 = .ok (.iload_n 1, 1) := by decide +kernel
theorem dX1_isShowing_149 : decode cX1_isShowing 149 = .ok (.bipush 6, 2) := by decide +kernel
theorem dX1_isShowing_151 : decode cX1_isShowing 151 = .ok (.if_icmp .ne 14, 3) := by decide +kernel
theorem dX1_isShowing_154 : decode cX1_isShowing 154 = .ok (.iload 5, 2) := by decide +kernel
theorem dX1_isShowing_156 : decode cX1_isShowing 156 = .ok (.iload_n 3, 1) := by decide +kernel
theorem dX1_isShowing_157 : decode cX1_isShowing 157 = .ok (.iload 6, 2) := by decide +kernel
theorem dX1_isShowing_159 : decode cX1_isShowing 159 = .ok (.invokestatic 79, 3) := by decide +kernel
theorem dX1_isShowing_162 : decode cX1_isShowing 162 = .ok (.goto 11, 3) := by decide +kernel
theorem dX1_isShowing_165 : decode cX1_isShowing 165 = .ok (.iload 5, 2) := by decide +kernel
theorem dX1_isShowing_167 : decode cX1_isShowing 167 = .ok (.iload 6, 2) := by decide +kernel
theorem dX1_isShowing_169 : decode cX1_isShowing 169 = .ok (.iload_n 3, 1) := by decide +kernel
theorem dX1_isShowing_170 : decode cX1_isShowing 170 = .ok (.invokestatic 79, 3) := by decide +kernel
theorem dX1_isShowing_173 : decode cX1_isShowing 173 = .ok (.istore 8, 2) := by decide +kernel
theorem dX1_isShowing_175 : decode cX1_isShowing 175 = .ok (.aload_n 0, 1) := by decide +kernel
theorem dX1_isShowing_176 : decode cX1_isShowing 176 = .ok (.iload 7, 2) := by decide +kernel
theorem dX1_isShowing_178 : decode cX1_isShowing 178 = .ok (.iload 8, 2) := by decide +kernel
theorem dX1_isShowing_180 : decode cX1_isShowing 180 = .ok (.invokevirtual 83, 3) := by decide +kernel
theorem dX1_isShowing_183 : decode cX1_isShowing 183 = .ok (.ifCond .eq 5, 3) := by decide +kernel
theorem dX1_isShowing_186 : decode cX1_isShowing 186 = .ok (.iconst 1, 1) := by decide +kernel
theorem dX1_isShowing_187 : decode cX1_isShowing 187 = .ok (.ireturn, 1) := by decide +kernel
theorem dX1_isShowing_188 : decode cX1_isShowing 188 = .ok (.iinc 6 1, 3) := by decide +kernel
theorem dX1_isShowing_191 : decode cX1_isShowing 191 = .ok (.goto (-62), 3) := by decide +kernel
theorem dX1_isShowing_194 : decode cX1_isShowing 194 = .ok (.iconst 0, 1) := by decide +kernel
theorem dX1_isShowing_195 : decode cX1_isShowing 195 = .ok (.ireturn, 1) := by decide +kernel
theorem dX1_isShownOf_0 : decode cX1_isShownOf 0 = .ok (.iload_n 1, 1) := by decide +kernel
theorem dX1_isShownOf_1 : decode cX1_isShownOf 1 = .ok (.bipush (-9), 2) := by decide +kernel
theorem dX1_isShownOf_3 : decode cX1_isShownOf 3 = .ok (.if_icmp .ne 7, 3) := by decide +kernel
theorem dX1_isShownOf_6 : decode cX1_isShownOf 6 = .ok (.lconst 0, 1) := by decide +kernel
theorem dX1_isShownOf_7 : decode cX1_isShownOf 7 = .ok (.goto 6, 3) := by decide +kernel
theorem dX1_isShownOf_10 : decode cX1_isShownOf 10 = .ok (.lconst 1, 1) := by decide +kernel
theorem dX1_isShownOf_11 : decode cX1_isShownOf 11 = .ok (.iload_n 1, 1) := by decide +kernel
theorem dX1_isShownOf_12 : decode cX1_isShownOf 12 = .ok (.lshl, 1) := by decide +kernel
theorem dX1_isShownOf_13 : decode cX1_isShownOf 13 = .ok (.iload_n 2, 1) := by decide +kernel
theorem dX1_isShownOf_14 : decode cX1_isShownOf 14 = .ok (.bipush (-9), 2) := by decide +kernel
theorem dX1_isShownOf_16 : decode cX1_isShownOf 16 = .ok (.if_icmp .ne 7, 3) := by decide +kernel
theorem dX1_isShownOf_19 : decode cX1_isShownOf 19 = .ok (.lconst 0, 1) := by decide +kernel
theorem dX1_isShownOf_20 : decode cX1_isShownOf 20 = .ok (.goto 6, 3) := by decide +kernel
theorem dX1_isShownOf_23 : decode cX1_isShownOf 23 = .ok (.lconst 1, 1) := by decide +kernel
theorem dX1_isShownOf_24 : decode cX1_isShownOf 24 = .ok (.iload_n 2, 1) := by decide +kernel
theorem dX1_isShownOf_25 : decode cX1_isShownOf 25 = .ok (.lshl, 1) := by decide +kernel
theorem dX1_isShownOf_26 : decode cX1_isShownOf 26 = .ok (.lor, 1) := by decide +kernel
theorem dX1_isShownOf_27 : decode cX1_isShownOf 27 = .ok (.lstore_n 3, 1) := by decide +kernel
theorem dX1_isShownOf_28 : decode cX1_isShownOf 28 = .ok (.aload_n 0, 1) := by decide +kernel
theorem dX1_isShownOf_29 : decode cX1_isShownOf 29 = .ok (.getfield 44, 3) := by decide +kernel
theorem dX1_isShownOf_32 : decode cX1_isShownOf 32 = .ok (.lload_n 3, 1) := by decide +kernel
theorem dX1_isShownOf_33 : decode cX1_isShownOf 33 = .ok (.land, 1) := by decide +kernel
theorem dX1_isShownOf_34 : decode cX1_isShownOf 34 = .ok (.lload_n 3, 1) := by decide +kernel
theorem dX1_isShownOf_35 : decode cX1_isShownOf 35 = .ok (.lcmp, 1) := by decide +kernel
theorem dX1_isShownOf_36 : decode cX1_isShownOf 36 = .ok (.ifCond .eq 5, 3) := by decide +kernel
theorem dX1_isShownOf_39 : decode cX1_isShownOf 39 = .ok (.iconst 0, 1) := by decide +kernel
theorem dX1_isShownOf_40 : decode cX1_isShownOf 40 = .ok (.ireturn, 1) := by decide +kernel
theorem dX1_isShownOf_41 : decode cX1_isShownOf 41 = .ok (.aload_n 0, 1) := by decide +kernel
theorem dX1_isShownOf_42 : decode cX1_isShownOf 42 = .ok (.iload_n 1, 1) := by decide +kernel
theorem dX1_isShownOf_43 : decode cX1_isShownOf 43 = .ok (.putfield 60, 3) := by decide +kernel
theorem dX1_isShownOf_46 : decode cX1_isShownOf 46 = .ok (.aload_n 0, 1) := by decide +kernel
theorem dX1_isShownOf_47 : decode cX1_isShownOf 47 = .ok (.iload_n 2, 1) := by decide +kernel
theorem dX1_isShownOf_48 : decode cX1_isShownOf 48 = .ok (.putfield 63, 3) := by decide +kernel
theorem dX1_isShownOf_51 : decode cX1_isShownOf 51 = .ok (.iconst 1, 1) := by decide +kernel
theorem dX1_isShownOf_52 : decode cX1_isShownOf 52 = .ok (.ireturn, 1) := by decide +kernel
theorem dX2_init_0 : decode cX2_init 0 = .ok (.aload_n 0, 1) := by decide +kernel
theorem dX2_init_1 : decode cX2_init 1 = .ok (.invokespecial 3, 3) := by decide +kernel
theorem dX2_init_4 : decode cX2_init 4 = .ok (.aload_n 0, 1) := by decide +kernel
theorem dX2_init_5 : decode cX2_init 5 = .ok (.new 9, 3) := by decide +kernel
theorem dX2_init_8 : decode cX2_init 8 = .ok (.dup, 1) := by decide +kernel
theorem dX2_init_9 : decode cX2_init 9 = .ok (.invokespecial 11, 3) := by decide +kernel
theorem dX2_init_12 : decode cX2_init 12 = .ok (.putfield 12, 3) := by decide +kernel
theorem dX2_init_15 : decode cX2_init 15 = .ok (.aload_n 0, 1) := by decide +kernel
theorem dX2_init_16 : decode cX2_init 16 = .ok (.new 18, 3) := by decide +kernel
theorem dX2_init_19 : decode cX2_init 19 = .ok (.dup, 1) := by decide +kernel
theorem dX2_init_20 : decode cX2_init 20 = .ok (.invokespecial 20, 3) := by decide +kernel
theorem dX2_init_23 : decode cX2_init 23 = .ok (.putfield 21, 3) := by decide +kernel
theorem dX2_init_26 : decode cX2_init 26 = .ok (.return_, 1) := by decide +kernel
theorem dX2_readDraft_0 : decode cX2_readDraft 0 = .ok (.aload_n 0, 1) := by decide +kernel
theorem dX2_readDraft_1 : decode cX2_readDraft 1 = .ok (.iload_n 1, 1) := by decide +kernel
theorem dX2_readDraft_2 : decode cX2_readDraft 2 = .ok (.putfield 25, 3) := by decide +kernel
theorem dX2_readDraft_5 : decode cX2_readDraft 5 = .ok (.aload_n 0, 1) := by decide +kernel
theorem dX2_readDraft_6 : decode cX2_readDraft 6 = .ok (.iconst 0, 1) := by decide +kernel
theorem dX2_readDraft_7 : decode cX2_readDraft 7 = .ok (.putfield 29, 3) := by decide +kernel
theorem dX2_readDraft_10 : decode cX2_readDraft 10 = .ok (.aload_n 0, 1) := by decide +kernel
theorem dX2_readDraft_11 : decode cX2_readDraft 11 = .ok (.iconst (-1), 1) := by decide +kernel
theorem dX2_readDraft_12 : decode cX2_readDraft 12 = .ok (.putfield 32, 3) := by decide +kernel
theorem dX2_readDraft_15 : decode cX2_readDraft 15 = .ok (.aload_n 0, 1) := by decide +kernel
theorem dX2_readDraft_16 : decode cX2_readDraft 16 = .ok (.getfield 12, 3) := by decide +kernel
theorem dX2_readDraft_19 : decode cX2_readDraft 19 = .ok (.invokevirtual 35, 3) := by decide +kernel
theorem dX2_readDraft_22 : decode cX2_readDraft 22 = .ok (.aload_n 0, 1) := by decide +kernel
theorem dX2_readDraft_23 : decode cX2_readDraft 23 = .ok (.invokevirtual 38, 3) := by decide +kernel
theorem dX2_readDraft_26 : decode cX2_readDraft 26 = .ok (.aload_n 0, 1) := by decide +kernel
theorem dX2_readDraft_27 : decode cX2_readDraft 27 = .ok (.getfield 21, 3) := by decide +kernel
theorem dX2_readDraft_30 : decode cX2_readDraft 30 = .ok (.aload_n 0, 1) := by decide +kernel
theorem dX2_readDraft_31 : decode cX2_readDraft 31 = .ok (.invokevirtual 41, 3) := by decide +kernel
theorem dX2_readDraft_34 : decode cX2_readDraft 34 = .ok (.putfield 45, 3) := by decide +kernel
theorem dX2_readDraft_37 : decode cX2_readDraft 37 = .ok (.aload_n 0, 1) := by decide +kernel
theorem dX2_readDraft_38 : decode cX2_readDraft 38 = .ok (.getfield 48, 3) := by decide +kernel
theorem dX2_readDraft_41 : decode cX2_readDraft 41 = .ok (.istore_n 2, 1) := by decide +kernel
theorem dX2_readDraft_42 : decode cX2_readDraft 42 = .ok (.aload_n 0, 1) := by decide +kernel
theorem dX2_readDraft_43 : decode cX2_readDraft 43 = .ok (.bipush 58, 2) := by decide +kernel
theorem dX2_readDraft_45 : decode cX2_readDraft 45 = .ok (.invokevirtual 51, 3) := by decide +kernel
theorem dX2_readDraft_48 : decode cX2_readDraft 48 = .ok (.aload_n 0, 1) := by decide +kernel
theorem dX2_readDraft_49 : decode cX2_readDraft 49 = .ok (.getfield 21, 3) := by decide +kernel
theorem dX2_readDraft_52 : decode cX2_readDraft 52 = .ok (.aload_n 0, 1) := by decide +kernel
theorem dX2_readDraft_53 : decode cX2_readDraft 53 = .ok (.invokevirtual 41, 3) := by decide +kernel
theorem dX2_readDraft_56 : decode cX2_readDraft 56 = .ok (.putfield 55, 3) := by decide +kernel
theorem dX2_readDraft_59 : decode cX2_readDraft 59 = .ok (.aload_n 0, 1) := by decide +kernel
theorem dX2_readDraft_60 : decode cX2_readDraft 60 = .ok (.getfield 48, 3) := by decide +kernel
theorem dX2_readDraft_63 : decode cX2_readDraft 63 = .ok (.istore_n 3, 1) := by decide +kernel
theorem dX2_readDraft_64 : decode cX2_readDraft 64 = .ok (.aload_n 0, 1) := by decide +kernel
theorem dX2_readDraft_65 : decode cX2_readDraft 65 = .ok (.iconst 0, 1) := by decide +kernel
theorem dX2_readDraft_66 : decode cX2_readDraft 66 = .ok (.invokevirtual 51, 3) := by decide +kernel
theorem dX2_readDraft_69 : decode cX2_readDraft 69 = .ok (.aload_n 0, 1) := by decide +kernel
theorem dX2_readDraft_70 : decode cX2_readDraft 70 = .ok (.getfield 21, 3) := by decide +kernel
theorem dX2_readDraft_73 : decode cX2_readDraft 73 = .ok (.aload_n 0, 1) := by decide +kernel
theorem dX2_readDraft_74 : decode cX2_readDraft 74 = .ok (.iload_n 2, 1) := by decide +kernel
theorem dX2_readDraft_75 : decode cX2_readDraft 75 = .ok (.iload_n 3, 1) := by decide +kernel
theorem dX2_readDraft_76 : decode cX2_readDraft 76 = .ok (.invokevirtual 58, 3) := by decide +kernel
theorem dX2_readDraft_79 : decode cX2_readDraft 79 = .ok (.putfield 62, 3) := by decide +kernel
theorem dX2_readDraft_82 : decode cX2_readDraft 82 = .ok (.aload_n 0, 1) := by decide +kernel
theorem dX2_readDraft_83 : decode cX2_readDraft 83 = .ok (.getfield 32, 3) := by decide +kernel
theorem dX2_readDraft_86 : decode cX2_readDraft 86 = .ok (.ireturn, 1) := by decide +kernel
theorem dX2_readHead_0 : decode cX2_readHead 0 = .ok (.aload_n 0, 1) := by decide +kernel
theorem dX2_readHead_1 : decode cX2_readHead 1 = .ok (.getfield 21, 3) := by decide +kernel
theorem dX2_readHead_4 : decode cX2_readHead 4 = .ok (.aload_n 0, 1) := by decide +kernel
theorem dX2_readHead_5 : decode cX2_readHead 5 = .ok (.getfield 12, 3) := by decide +kernel
theorem dX2_readHead_8 : decode cX2_readHead 8 = .ok (.getfield 65, 3) := by decide +kernel
theorem dX2_readHead_11 : decode cX2_readHead 11 = .ok (.iconst 2, 1) := by decide +kernel
theorem dX2_readHead_12 : decode cX2_readHead 12 = .ok (.if_icmp .ne 19, 3) := by decide +kernel
theorem dX2_readHead_15 : decode cX2_readHead 15 = .ok (.aload_n 0, 1) := by decide +kernel
theorem dX2_readHead_16 : decode cX2_readHead 16 = .ok (.getfield 12, 3) := by decide +kernel
theorem dX2_readHead_19 : decode cX2_readHead 19 = .ok (.getfield 68, 3) := by decide +kernel
theorem dX2_readHead_22 : decode cX2_readHead 22 = .ok (.bipush 8, 2) := by decide +kernel
theorem dX2_readHead_24 : decode cX2_readHead 24 = .ok (.if_icmp .ne 7, 3) := by decide +kernel
theorem dX2_readHead_27 : decode cX2_readHead 27 = .ok (.iconst 1, 1) := by decide +kernel
theorem dX2_readHead_28 : decode cX2_readHead 28 = .ok (.goto 4, 3) := by decide +kernel
theorem dX2_readHead_31 : decode cX2_readHead 31 = .ok (.iconst 0, 1) := by decide +kernel
theorem dX2_readHead_32 : decode cX2_readHead 32 = .ok (.putfield 71, 3) := by decide +kernel
theorem dX2_readHead_35 : decode cX2_readHead 35 = .ok (.aload_n 0, 1) := by decide +kernel
theorem dX2_readHead_36 : decode cX2_readHead 36 = .ok (.getfield 21, 3) := by decide +kernel
theorem dX2_readHead_39 : decode cX2_readHead 39 = .ok (.getfield 71, 3) := by decide +kernel
theorem dX2_readHead_42 : decode cX2_readHead 42 = .ok (.ifCond .eq 10, 3) := by decide +kernel
theorem dX2_readHead_45 : decode cX2_readHead 45 = .ok (.aload_n 0, 1) := by decide +kernel
theorem dX2_readHead_46 : decode cX2_readHead 46 = .ok (.getfield 12, 3) := by decide +kernel
theorem dX2_readHead_49 : decode cX2_readHead 49 = .ok (.invokevirtual 75, 3) := by decide +kernel
theorem dX2_readHead_52 : decode cX2_readHead 52 = .ok (.aload_n 0, 1) := by decide +kernel
theorem dX2_readHead_53 : decode cX2_readHead 53 = .ok (.getfield 21, 3) := by decide +kernel
theorem dX2_readHead_56 : decode cX2_readHead 56 = .ok (.aload_n 0, 1) := by decide +kernel
theorem dX2_readHead_57 : decode cX2_readHead 57 = .ok (.getfield 12, 3) := by decide +kernel
theorem dX2_readHead_60 : decode cX2_readHead 60 = .ok (.getfield 68, 3) := by decide +kernel
theorem dX2_readHead_63 : decode cX2_readHead 63 = .ok (.putfield 78, 3) := by decide +kernel
theorem dX2_readHead_66 : decode cX2_readHead 66 = .ok (.aload_n 0, 1) := by decide +kernel
theorem dX2_readHead_67 : decode cX2_readHead 67 = .ok (.getfield 21, 3) := by decide +kernel
theorem dX2_readHead_70 : decode cX2_readHead 70 = .ok (.iconst 0, 1) := by decide +kernel
theorem dX2_readHead_71 : decode cX2_readHead 71 = .ok (.putfield 81, 3) := by decide +kernel
theorem dX2_readHead_74 : decode cX2_readHead 74 = .ok (.aload_n 0, 1) := by decide +kernel
theorem dX2_readHead_75 : decode cX2_readHead 75 = .ok (.getfield 12, 3) := by decide +kernel
theorem dX2_readHead_78 : decode cX2_readHead 78 = .ok (.getfield 65, 3) := by decide +kernel
theorem dX2_readHead_81 : decode cX2_readHead 81 = .ok (.iconst 2, 1) := by decide +kernel
theorem dX2_readHead_82 : decode cX2_readHead 82 = .ok (.if_icmp .ne 19, 3) := by decide +kernel
theorem dX2_readHead_85 : decode cX2_readHead 85 = .ok (.aload_n 0, 1) := by decide +kernel
theorem dX2_readHead_86 : decode cX2_readHead 86 = .ok (.getfield 12, 3) := by decide +kernel
theorem dX2_readHead_89 : decode cX2_readHead 89 = .ok (.getfield 68, 3) := by decide +kernel
theorem dX2_readHead_92 : decode cX2_readHead 92 = .ok (.bipush 8, 2) := by decide +kernel
theorem dX2_readHead_94 : decode cX2_readHead 94 = .ok (.if_icmp .ne 7, 3) := by decide +kernel
theorem dX2_readHead_97 : decode cX2_readHead 97 = .ok (.aload_n 0, 1) := by decide +kernel
theorem dX2_readHead_98 : decode cX2_readHead 98 = .ok (.invokevirtual 84, 3) := by decide +kernel
theorem dX2_readHead_101 : decode cX2_readHead 101 = .ok (.aload_n 0, 1) := by decide +kernel
theorem dX2_readHead_102 : decode cX2_readHead 102 = .ok (.iconst 2, 1) := by decide +kernel
theorem dX2_readHead_103 : decode cX2_readHead 103 = .ok (.invokevirtual 51, 3) := by decide +kernel
theorem dX2_readHead_106 : decode cX2_readHead 106 = .ok (.aload_n 0, 1) := by decide +kernel
theorem dX2_readHead_107 : decode cX2_readHead 107 = .ok (.getfield 21, 3) := by decide +kernel
theorem dX2_readHead_110 : decode cX2_readHead 110 = .ok (.getfield 78, 3) := by decide +kernel
theorem dX2_readHead_113 : decode cX2_readHead 113 = .ok (.iconst 4, 1) := by decide +kernel
theorem dX2_readHead_114 : decode cX2_readHead 114 = .ok (.if_icmp .eq 14, 3) := by decide +kernel
theorem dX2_readHead_117 : decode cX2_readHead 117 = .ok (.aload_n 0, 1) := by decide +kernel
theorem dX2_readHead_118 : decode cX2_readHead 118 = .ok (.getfield 21, 3) := by decide +kernel
theorem dX2_readHead_121 : decode cX2_readHead 121 = .ok (.getfield 78, 3) := by decide +kernel
theorem dX2_readHead_124 : decode cX2_readHead 124 = .ok (.iconst 5, 1) := by decide +kernel
theorem dX2_readHead_125 : decode cX2_readHead 125 = .ok (.if_icmp .ne 7, 3) := by decide +kernel
theorem dX2_readHead_128 : decode cX2_readHead 128 = .ok (.aload_n 0, 1) := by decide +kernel
theorem dX2_readHead_129 : decode cX2_readHead 129 = .ok (.invokevirtual 87, 3) := by decide +kernel
theorem dX2_readHead_132 : decode cX2_readHead 132 = .ok (.return_, 1) := by decide +kernel
theorem dX2_readNumber_0 : decode cX2_readNumber 0 = .ok (.aload_n 0, 1) := by decide +kernel
theorem dX2_readNumber_1 : decode cX2_readNumber 1 = .ok (.getfield 21, 3) := by decide +kernel
theorem dX2_readNumber_4 : decode cX2_readNumber 4 = .ok (.aload_n 0, 1) := by decide +kernel
theorem dX2_readNumber_5 : decode cX2_readNumber 5 = .ok (.getfield 12, 3) := by decide +kernel
theorem dX2_readNumber_8 : decode cX2_readNumber 8 = .ok (.getfield 68, 3) := by decide +kernel
theorem dX2_readNumber_11 : decode cX2_readNumber 11 = .ok (.putfield 81, 3) := by decide +kernel
theorem dX2_readNumber_14 : decode cX2_readNumber 14 = .ok (.aload_n 0, 1) := by decide +kernel
theorem dX2_readNumber_15 : decode cX2_readNumber 15 = .ok (.getfield 12, 3) := by decide +kernel
theorem dX2_readNumber_18 : decode cX2_readNumber 18 = .ok (.getfield 65, 3) := by decide +kernel
theorem dX2_readNumber_21 : decode cX2_readNumber 21 = .ok (.iconst 3, 1) := by decide +kernel
theorem dX2_readNumber_22 : decode cX2_readNumber 22 = .ok (.if_icmp .ne 19, 3) := by decide +kernel
theorem dX2_readNumber_25 : decode cX2_readNumber 25 = .ok (.aload_n 0, 1) := by decide +kernel
theorem dX2_readNumber_26 : decode cX2_readNumber 26 = .ok (.getfield 12, 3) := by decide +kernel
theorem dX2_readNumber_29 : decode cX2_readNumber 29 = .ok (.getfield 68, 3) := by decide +kernel
theorem dX2_readNumber_32 : decode cX2_readNumber 32 = .ok (.bipush 6, 2) := by decide +kernel
theorem dX2_readNumber_34 : decode cX2_readNumber 34 = .ok (.if_icmp .le 7, 3) := by decide +kernel
theorem dX2_readNumber_37 : decode cX2_readNumber 37 = .ok (.aload_n 0, 1) := by decide +kernel
theorem dX2_readNumber_38 : decode cX2_readNumber 38 = .ok (.invokevirtual 84, 3) := by decide +kernel
theorem dX2_readNumber_41 : decode cX2_readNumber 41 = .ok (.aload_n 0, 1) := by decide +kernel
theorem dX2_readNumber_42 : decode cX2_readNumber 42 = .ok (.iconst 3, 1) := by decide +kernel
theorem dX2_readNumber_43 : decode cX2_readNumber 43 = .ok (.invokevirtual 51, 3) := by decide +kernel
theorem dX2_readNumber_46 : decode cX2_readNumber 46 = .ok (.return_, 1) := by decide +kernel
theorem dX2_readSide_0 : decode cX2_readSide 0 = .ok (.aload_n 0, 1) := by decide +kernel
theorem dX2_readSide_1 : decode cX2_readSide 1 = .ok (.getfield 12, 3) := by decide +kernel
theorem dX2_readSide_4 : decode cX2_readSide 4 = .ok (.getfield 68, 3) := by decide +kernel
theorem dX2_readSide_7 : decode cX2_readSide 7 = .ok (.istore_n 1, 1) := by decide +kernel
theorem dX2_readSide_8 : decode cX2_readSide 8 = .ok (.aload_n 0, 1) := by decide +kernel
theorem dX2_readSide_9 : decode cX2_readSide 9 = .ok (.getfield 12, 3) := by decide +kernel
theorem dX2_readSide_12 : decode cX2_readSide 12 = .ok (.getfield 90, 3) := by decide +kernel
theorem dX2_readSide_15 : decode cX2_readSide 15 = .ok (.istore_n 2, 1) := by decide +kernel
theorem dX2_readSide_16 : decode cX2_readSide 16 = .ok (.aload_n 0, 1) := by decide +kernel
theorem dX2_readSide_17 : decode cX2_readSide 17 = .ok (.iconst 0, 1) := by decide +kernel
theorem dX2_readSide_18 : decode cX2_readSide 18 = .ok (.invokevirtual 93, 3) := by decide +kernel
theorem dX2_readSide_21 : decode cX2_readSide 21 = .ok (.istore_n 3, 1) := by decide +kernel
theorem dX2_readSide_22 : decode cX2_readSide 22 = .ok (.aload_n 0, 1) := by decide +kernel
theorem dX2_readSide_23 : decode cX2_readSide 23 = .ok (.aload_n 0, 1) := by decide +kernel
theorem dX2_readSide_24 : decode cX2_readSide 24 = .ok (.getfield 12, 3) := by decide +kernel
theorem dX2_readSide_27 : decode cX2_readSide 27 = .ok (.getfield 90, 3) := by decide +kernel
theorem dX2_readSide_30 : decode cX2_readSide 30 = .ok (.iload_n 2, 1) := by decide +kernel
theorem dX2_readSide_31 : decode cX2_readSide 31 = .ok (.isub, 1) := by decide +kernel
theorem dX2_readSide_32 : decode cX2_readSide 32 = .ok (.iconst 1, 1) := by decide +kernel
theorem dX2_readSide_33 : decode cX2_readSide 33 = .ok (.if_icmp .ne 7, 3) := by decide +kernel
theorem dX2_readSide_36 : decode cX2_readSide 36 = .ok (.iload_n 1, 1) := by decide +kernel
theorem dX2_readSide_37 : decode cX2_readSide 37 = .ok (.goto 5, 3) := by decide +kernel
theorem dX2_readSide_40 : decode cX2_readSide 40 = .ok (.bipush (-9), 2) := by decide +kernel
theorem dX2_readSide_42 : decode cX2_readSide 42 = .ok (.putfield 48, 3) := by decide +kernel
theorem dX2_readSide_45 : decode cX2_readSide 45 = .ok (.iload_n 3, 1) := by decide +kernel
theorem dX2_readSide_46 : decode cX2_readSide 46 = .ok (.ireturn, 1) := by decide +kernel
theorem dX2_readUnion_0 : decode cX2_readUnion 0 = .ok (.aload_n 0, 1) := by decide +kernel
theorem dX2_readUnion_1 : decode cX2_readUnion 1 = .ok (.iload_n 1, 1) := by decide +kernel
theorem dX2_readUnion_2 : decode cX2_readUnion 2 = .ok (.invokevirtual 97, 3) := by decide +kernel
theorem dX2_readUnion_5 : decode cX2_readUnion 5 = .ok (.istore_n 2, 1) := by decide +kernel
theorem dX2_readUnion_6 : decode cX2_readUnion 6 = .ok (.iconst 0, 1) := by decide +kernel
theorem dX2_readUnion_7 : decode cX2_readUnion 7 = .ok (.istore_n 3, 1) := by decide +kernel
theorem dX2_readUnion_8 : decode cX2_readUnion 8 = .ok (.iload_n 3, 1) := by decide +kernel
theorem dX2_readUnion_9 : decode cX2_readUnion 9 = .ok (.bipush 80, 2) := by decide +kernel
theorem dX2_readUnion_11 : decode cX2_readUnion 11 = .ok (.if_icmp .ge 44, 3) := by decide +kernel
theorem dX2_readUnion_14 : decode cX2_readUnion 14 = .ok (.aload_n 0, 1) := by decide +kernel
theorem dX2_readUnion_15 : decode cX2_readUnion 15 = .ok (.getfield 32, 3) := by decide +kernel
theorem dX2_readUnion_18 : decode cX2_readUnion 18 = .ok (.iconst (-1), 1) := by decide +kernel
theorem dX2_readUnion_19 : decode cX2_readUnion 19 = .ok (.if_icmp .ne 36, 3) := by decide +kernel
theorem dX2_readUnion_22 : decode cX2_readUnion 22 = .ok (.aload_n 0, 1) := by decide +kernel
theorem dX2_readUnion_23 : decode cX2_readUnion 23 = .ok (.getfield 12, 3) := by decide +kernel
theorem dX2_readUnion_26 : decode cX2_readUnion 26 = .ok (.getfield 65, 3) := by decide +kernel
theorem dX2_readUnion_29 : decode cX2_readUnion 29 = .ok (.bipush 124, 2) := by decide +kernel
theorem dX2_readUnion_31 : decode cX2_readUnion 31 = .ok (.if_icmp .ne 24, 3) := by decide +kernel
theorem dX2_readUnion_34 : decode cX2_readUnion 34 = .ok (.aload_n 0, 1) := by decide +kernel
theorem dX2_readUnion_35 : decode cX2_readUnion 35 = .ok (.getfield 12, 3) := by decide +kernel
theorem dX2_readUnion_38 : decode cX2_readUnion 38 = .ok (.invokevirtual 75, 3) := by decide +kernel
theorem dX2_readUnion_41 : decode cX2_readUnion 41 = .ok (.iload_n 2, 1) := by decide +kernel
theorem dX2_readUnion_42 : decode cX2_readUnion 42 = .ok (.aload_n 0, 1) := by decide +kernel
theorem dX2_readUnion_43 : decode cX2_readUnion 43 = .ok (.iload_n 1, 1) := by decide +kernel
theorem dX2_readUnion_44 : decode cX2_readUnion 44 = .ok (.invokevirtual 97, 3) := by decide +kernel
theorem dX2_readUnion_47 : decode cX2_readUnion 47 = .ok (.ior, 1) := by decide +kernel
theorem dX2_readUnion_48 : decode cX2_readUnion 48 = .ok (.istore_n 2, 1) := by decide +kernel
theorem dX2_readUnion_49 : decode cX2_readUnion 49 = .ok (.iinc 3 1, 3) := by decide +kernel
theorem dX2_readUnion_52 : decode cX2_readUnion 52 = .ok (.goto (-44), 3) := by decide +kernel
theorem dX2_readUnion_55 : decode cX2_readUnion 55 = .ok (.iload_n 2, 1) := by decide +kernel
theorem dX2_readUnion_56 : decode cX2_readUnion 56 = .ok (.ireturn, 1) := by decide +kernel
theorem dX2_readMeet_0 : decode cX2_readMeet 0 = .ok (.aload_n 0, 1) := by decide +kernel
theorem dX2_readMeet_1 : decode cX2_readMeet 1 = .ok (.iload_n 1, 1) := by decide +kernel
theorem dX2_readMeet_2 : decode cX2_readMeet 2 = .ok (.invokevirtual 100, 3) := by decide +kernel
theorem dX2_readMeet_5 : decode cX2_readMeet 5 = .ok (.istore_n 2, 1) := by decide +kernel
theorem dX2_readMeet_6 : decode cX2_readMeet 6 = .ok (.iconst 0, 1) := by decide +kernel
theorem dX2_readMeet_7 : decode cX2_readMeet 7 = .ok (.istore_n 3, 1) := by decide +kernel
theorem dX2_readMeet_8 : decode cX2_readMeet 8 = .ok (.iload_n 3, 1) := by decide +kernel
theorem dX2_readMeet_9 : decode cX2_readMeet 9 = .ok (.bipush 80, 2) := by decide +kernel
theorem dX2_readMeet_11 : decode cX2_readMeet 11 = .ok (.if_icmp .ge 44, 3) := by decide +kernel
theorem dX2_readMeet_14 : decode cX2_readMeet 14 = .ok (.aload_n 0, 1) := by decide +kernel
theorem dX2_readMeet_15 : decode cX2_readMeet 15 = .ok (.getfield 32, 3) := by decide +kernel
theorem dX2_readMeet_18 : decode cX2_readMeet 18 = .ok (.iconst (-1), 1) := by decide +kernel
theorem dX2_readMeet_19 : decode cX2_readMeet 19 = .ok (.if_icmp .ne 36, 3) := by decide +kernel
theorem dX2_readMeet_22 : decode cX2_readMeet 22 = .ok (.aload_n 0, 1) := by decide +kernel
theorem dX2_readMeet_23 : decode cX2_readMeet 23 = .ok (.getfield 12, 3) := by decide +kernel
theorem dX2_readMeet_26 : decode cX2_readMeet 26 = .ok (.getfield 65, 3) := by decide +kernel
theorem dX2_readMeet_29 : decode cX2_readMeet 29 = .ok (.bipush 38, 2) := by decide +kernel
theorem dX2_readMeet_31 : decode cX2_readMeet 31 = .ok (.if_icmp .ne 24, 3) := by decide +kernel
theorem dX2_readMeet_34 : decode cX2_readMeet 34 = .ok (.aload_n 0, 1) := by decide +kernel
theorem dX2_readMeet_35 : decode cX2_readMeet 35 = .ok (.getfield 12, 3) := by decide +kernel
theorem dX2_readMeet_38 : decode cX2_readMeet 38 = .ok (.invokevirtual 75, 3) := by decide +kernel
theorem dX2_readMeet_41 : decode cX2_readMeet 41 = .ok (.iload_n 2, 1) := by decide +kernel
theorem dX2_readMeet_42 : decode cX2_readMeet 42 = .ok (.aload_n 0, 1) := by decide +kernel
theorem dX2_readMeet_43 : decode cX2_readMeet 43 = .ok (.iload_n 1, 1) := by decide +kernel
theorem dX2_readMeet_44 : decode cX2_readMeet 44 = .ok (.invokevirtual 100, 3) := by decide +kernel
theorem dX2_readMeet_47 : decode cX2_readMeet 47 = .ok (.iand, 1) := by decide +kernel
theorem dX2_readMeet_48 : decode cX2_readMeet 48 = .ok (.istore_n 2, 1) := by decide +kernel
theorem dX2_readMeet_49 : decode cX2_readMeet 49 = .ok (.iinc 3 1, 3) := by decide +kernel
theorem dX2_readMeet_52 : decode cX2_readMeet 52 = .ok (.goto (-44), 3) := by decide +kernel
theorem dX2_readMeet_55 : decode cX2_readMeet 55 = .ok (.iload_n 2, 1) := by decide +kernel
theorem dX2_readMeet_56 : decode cX2_readMeet 56 = .ok (.ireturn, 1) := by decide +kernel
theorem dX2_readPart_0 : decode cX2_readPart 0 = .ok (.aload_n 0, 1) := by decide +kernel
theorem dX2_readPart_1 : decode cX2_readPart 1 = .ok (.getfield 12, 3) := by decide +kernel
theorem dX2_readPart_4 : decode cX2_readPart 4 = .ok (.getfield 65, 3) := by decide +kernel
theorem dX2_readPart_7 : decode cX2_readPart 7 = .ok (.istore_n 2, 1) := by decide +kernel
theorem dX2_readPart_8 : decode cX2_readPart 8 = .ok (.aload_n 0, 1) := by decide +kernel
theorem dX2_readPart_9 : decode cX2_readPart 9 = .ok (.getfield 12, 3) := by decide +kernel
theorem dX2_readPart_12 : decode cX2_readPart 12 = .ok (.getfield 68, 3) := by decide +kernel
theorem dX2_readPart_15 : decode cX2_readPart 15 = .ok (.istore_n 3, 1) := by decide +kernel
theorem dX2_readPart_16 : decode cX2_readPart 16 = .ok (.aload_n 0, 1) := by decide +kernel
theorem dX2_readPart_17 : decode cX2_readPart 17 = .ok (.iload_n 2, 1) := by decide +kernel
theorem dX2_readPart_18 : decode cX2_readPart 18 = .ok (.iload_n 3, 1) := by decide +kernel
theorem dX2_readPart_19 : decode cX2_readPart 19 = .ok (.iload_n 1, 1) := by decide +kernel
theorem dX2_readPart_20 : decode cX2_readPart 20 = .ok (.invokevirtual 103, 3) := by decide +kernel
theorem dX2_readPart_23 : decode cX2_readPart 23 = .ok (.ifCond .ne 7, 3) := by decide +kernel
theorem dX2_readPart_26 : decode cX2_readPart 26 = .ok (.aload_n 0, 1) := by decide +kernel
theorem dX2_readPart_27 : decode cX2_readPart 27 = .ok (.invokevirtual 84, 3) := by decide +kernel
theorem dX2_readPart_30 : decode cX2_readPart 30 = .ok (.aload_n 0, 1) := by decide +kernel
theorem dX2_readPart_31 : decode cX2_readPart 31 = .ok (.getfield 32, 3) := by decide +kernel
theorem dX2_readPart_34 : decode cX2_readPart 34 = .ok (.iconst (-1), 1) := by decide +kernel
theorem dX2_readPart_35 : decode cX2_readPart 35 = .ok (.if_icmp .eq 5, 3) := by decide +kernel
theorem dX2_readPart_38 : decode cX2_readPart 38 = .ok (.iconst 0, 1) := by decide +kernel
theorem dX2_readPart_39 : decode cX2_readPart 39 = .ok (.ireturn, 1) := by decide +kernel
theorem dX2_readPart_40 : decode cX2_readPart 40 = .ok (.aload_n 0, 1) := by decide +kernel
theorem dX2_readPart_41 : decode cX2_readPart 41 = .ok (.dup, 1) := by decide +kernel
theorem dX2_readPart_42 : decode cX2_readPart 42 = .ok (.getfield 29, 3) := by decide +kernel
theorem dX2_readPart_45 : decode cX2_readPart 45 = .ok (.iconst 1, 1) := by decide +kernel
theorem dX2_readPart_46 : decode cX2_readPart 46 = .ok (.iadd, 1) := by decide +kernel
theorem dX2_readPart_47 : decode cX2_readPart 47 = .ok (.putfield 29, 3) := by decide +kernel
theorem dX2_readPart_50 : decode cX2_readPart 50 = .ok (.aload_n 0, 1) := by decide +kernel
theorem dX2_readPart_51 : decode cX2_readPart 51 = .ok (.getfield 12, 3) := by decide +kernel
theorem dX2_readPart_54 : decode cX2_readPart 54 = .ok (.invokevirtual 75, 3) := by decide +kernel
theorem dX2_readPart_57 : decode cX2_readPart 57 = .ok (.iload_n 2, 1) := by decide +kernel
theorem dX2_readPart_58 : decode cX2_readPart 58 = .ok (.iconst 4, 1) := by decide +kernel
theorem dX2_readPart_59 : decode cX2_readPart 59 = .ok (.if_icmp .ne 12, 3) := by decide +kernel
theorem dX2_readPart_62 : decode cX2_readPart 62 = .ok (.iload_n 3, 1) := by decide +kernel
theorem dX2_readPart_63 : decode cX2_readPart 63 = .ok (.aload_n 0, 1) := by decide +kernel
theorem dX2_readPart_64 : decode cX2_readPart 64 = .ok (.getfield 25, 3) := by decide +kernel
theorem dX2_readPart_67 : decode cX2_readPart 67 = .ok (.invokestatic 107, 3) := by decide +kernel
theorem dX2_readPart_70 : decode cX2_readPart 70 = .ok (.ireturn, 1) := by decide +kernel
theorem dX2_readPart_71 : decode cX2_readPart 71 = .ok (.iload_n 2, 1) := by decide +kernel
theorem dX2_readPart_72 : decode cX2_readPart 72 = .ok (.bipush 33, 2) := by decide +kernel
theorem dX2_readPart_74 : decode cX2_readPart 74 = .ok (.if_icmp .ne 21, 3) := by decide +kernel
theorem dX2_readPart_77 : decode cX2_readPart 77 = .ok (.aload_n 0, 1) := by decide +kernel
theorem dX2_readPart_78 : decode cX2_readPart 78 = .ok (.getfield 25, 3) := by decide +kernel
theorem dX2_readPart_81 : decode cX2_readPart 81 = .ok (.invokestatic 110, 3) := by decide +kernel
theorem dX2_readPart_84 : decode cX2_readPart 84 = .ok (.aload_n 0, 1) := by decide +kernel
theorem dX2_readPart_85 : decode cX2_readPart 85 = .ok (.iload_n 1, 1) := by decide +kernel
theorem dX2_readPart_86 : decode cX2_readPart 86 = .ok (.iconst 1, 1) := by decide +kernel
theorem dX2_readPart_87 : decode cX2_readPart 87 = .ok (.iadd, 1) := by decide +kernel
theorem dX2_readPart_88 : decode cX2_readPart 88 = .ok (.invokevirtual 100, 3) := by decide +kernel
theorem dX2_readPart_91 : decode cX2_readPart 91 = .ok (.iconst (-1), 1) := by decide +kernel
theorem dX2_readPart_92 : decode cX2_readPart 92 = .ok (.ixor, 1) := by decide +kernel
theorem dX2_readPart_93 : decode cX2_readPart 93 = .ok (.iand, 1) := by decide +kernel
theorem dX2_readPart_94 : decode cX2_readPart 94 = .ok (.ireturn, 1) := by decide +kernel
theorem dX2_readPart_95 : decode cX2_readPart 95 = .ok (.aload_n 0, 1) := by decide +kernel
theorem dX2_readPart_96 : decode cX2_readPart 96 = .ok (.iload_n 1, 1) := by decide +kernel
theorem dX2_readPart_97 : decode cX2_readPart 97 = .ok (.iconst 1, 1) := by decide +kernel
theorem dX2_readPart_98 : decode cX2_readPart 98 = .ok (.iadd, 1) := by decide +kernel
theorem dX2_readPart_99 : decode cX2_readPart 99 = .ok (.invokevirtual 93, 3) := by decide +kernel
theorem dX2_readPart_102 : decode cX2_readPart 102 = .ok (.istore 4, 2) := by decide +kernel
theorem dX2_readPart_104 : decode cX2_readPart 104 = .ok (.aload_n 0, 1) := by decide +kernel
theorem dX2_readPart_105 : decode cX2_readPart 105 = .ok (.bipush 41, 2) := by decide +kernel
theorem dX2_readPart_107 : decode cX2_readPart 107 = .ok (.invokevirtual 51, 3) := by decide +kernel
theorem dX2_readPart_110 : decode cX2_readPart 110 = .ok (.iload 4, 2) := by decide +kernel
theorem dX2_readPart_112 : decode cX2_readPart 112 = .ok (.ireturn, 1) := by decide +kernel
theorem dX2_isPart_0 : decode cX2_isPart 0 = .ok (.aload_n 0, 1) := by decide +kernel
theorem dX2_isPart_1 : decode cX2_isPart 1 = .ok (.getfield 29, 3) := by decide +kernel
theorem dX2_isPart_4 : decode cX2_isPart 4 = .ok (.bipush 24, 2) := by decide +kernel
theorem dX2_isPart_6 : decode cX2_isPart 6 = .ok (.if_icmp .lt 5, 3) := by decide +kernel
theorem dX2_isPart_9 : decode cX2_isPart 9 = .ok (.iconst 0, 1) := by decide +kernel
theorem dX2_isPart_10 : decode cX2_isPart 10 = .ok (.ireturn, 1) := by decide +kernel
theorem dX2_isPart_11 : decode cX2_isPart 11 = .ok (.iload_n 1, 1) := by decide +kernel
theorem dX2_isPart_12 : decode cX2_isPart 12 = .ok (.iconst 4, 1) := by decide +kernel
theorem dX2_isPart_13 : decode cX2_isPart 13 = .ok (.if_icmp .ne 17, 3) := by decide +kernel
theorem dX2_isPart_16 : decode cX2_isPart 16 = .ok (.iload_n 2, 1) := by decide +kernel
theorem dX2_isPart_17 : decode cX2_isPart 17 = .ok (.aload_n 0, 1) := by decide +kernel
theorem dX2_isPart_18 : decode cX2_isPart 18 = .ok (.getfield 25, 3) := by decide +kernel
theorem dX2_isPart_21 : decode cX2_isPart 21 = .ok (.if_icmp .ge 7, 3) := by decide +kernel
theorem dX2_isPart_24 : decode cX2_isPart 24 = .ok (.iconst 1, 1) := by decide +kernel
theorem dX2_isPart_25 : decode cX2_isPart 25 = .ok (.goto 4, 3) := by decide +kernel
theorem dX2_isPart_28 : decode cX2_isPart 28 = .ok (.iconst 0, 1) := by decide +kernel
theorem dX2_isPart_29 : decode cX2_isPart 29 = .ok (.ireturn, 1) := by decide +kernel
theorem dX2_isPart_30 : decode cX2_isPart 30 = .ok (.iload_n 1, 1) := by decide +kernel
theorem dX2_isPart_31 : decode cX2_isPart 31 = .ok (.bipush 33, 2) := by decide +kernel
theorem dX2_isPart_33 : decode cX2_isPart 33 = .ok (.if_icmp .eq 9, 3) := by decide +kernel
theorem dX2_isPart_36 : decode cX2_isPart 36 = .ok (.iload_n 1, 1) := by decide +kernel
theorem dX2_isPart_37 : decode cX2_isPart 37 = .ok (.bipush 40, 2) := by decide +kernel
theorem dX2_isPart_39 : decode cX2_isPart 39 = .ok (.if_icmp .ne 13, 3) := by decide +kernel
theorem dX2_isPart_42 : decode cX2_isPart 42 = .ok (.iload_n 3, 1) := by decide +kernel
theorem dX2_isPart_43 : decode cX2_isPart 43 = .ok (.bipush 8, 2) := by decide +kernel
theorem dX2_isPart_45 : decode cX2_isPart 45 = .ok (.if_icmp .ge 7, 3) := by decide +kernel
theorem dX2_isPart_48 : decode cX2_isPart 48 = .ok (.iconst 1, 1) := by decide +kernel
theorem dX2_isPart_49 : decode cX2_isPart 49 = .ok (.goto 4, 3) := by decide +kernel
theorem dX2_isPart_52 : decode cX2_isPart 52 = .ok (.iconst 0, 1) := by decide +kernel
theorem dX2_isPart_53 : decode cX2_isPart 53 = .ok (.ireturn, 1) := by decide +kernel
theorem dX2_pass_0 : decode cX2_pass 0 = .ok (.aload_n 0, 1) := by decide +kernel
theorem dX2_pass_1 : decode cX2_pass 1 = .ok (.getfield 12, 3) := by decide +kernel
theorem dX2_pass_4 : decode cX2_pass 4 = .ok (.getfield 65, 3) := by decide +kernel
theorem dX2_pass_7 : decode cX2_pass 7 = .ok (.iload_n 1, 1) := by decide +kernel
theorem dX2_pass_8 : decode cX2_pass 8 = .ok (.if_icmp .eq 7, 3) := by decide +kernel
theorem dX2_pass_11 : decode cX2_pass 11 = .ok (.aload_n 0, 1) := by decide +kernel
theorem dX2_pass_12 : decode cX2_pass 12 = .ok (.invokevirtual 84, 3) := by decide +kernel
theorem dX2_pass_15 : decode cX2_pass 15 = .ok (.aload_n 0, 1) := by decide +kernel
theorem dX2_pass_16 : decode cX2_pass 16 = .ok (.getfield 32, 3) := by decide +kernel
theorem dX2_pass_19 : decode cX2_pass 19 = .ok (.iconst (-1), 1) := by decide +kernel
theorem dX2_pass_20 : decode cX2_pass 20 = .ok (.if_icmp .ne 10, 3) := by decide +kernel
theorem dX2_pass_23 : decode cX2_pass 23 = .ok (.aload_n 0, 1) := by decide +kernel
theorem dX2_pass_24 : decode cX2_pass 24 = .ok (.getfield 12, 3) := by decide +kernel
theorem dX2_pass_27 : decode cX2_pass 27 = .ok (.invokevirtual 75, 3) := by decide +kernel
theorem dX2_pass_30 : decode cX2_pass 30 = .ok (.return_, 1) := by decide +kernel
theorem dX2_fail_0 : decode cX2_fail 0 = .ok (.aload_n 0, 1) := by decide +kernel
theorem dX2_fail_1 : decode cX2_fail 1 = .ok (.getfield 32, 3) := by decide +kernel
theorem dX2_fail_4 : decode cX2_fail 4 = .ok (.iconst (-1), 1) := by decide +kernel
theorem dX2_fail_5 : decode cX2_fail 5 = .ok (.if_icmp .ne 14, 3) := by decide +kernel
theorem dX2_fail_8 : decode cX2_fail 8 = .ok (.aload_n 0, 1) := by decide +kernel
theorem dX2_fail_9 : decode cX2_fail 9 = .ok (.aload_n 0, 1) := by decide +kernel
theorem dX2_fail_10 : decode cX2_fail 10 = .ok (.getfield 12, 3) := by decide +kernel
theorem dX2_fail_13 : decode cX2_fail 13 = .ok (.getfield 113, 3) := by decide +kernel
theorem dX2_fail_16 : decode cX2_fail 16 = .ok (.putfield 32, 3) := by decide +kernel
theorem dX2_fail_19 : decode cX2_fail 19 = .ok (.return_, 1) := by decide +kernel
theorem dX2_factTold_0 : decode cX2_factTold 0 = .ok (.iload_n 1, 1) := by decide +kernel
theorem dX2_factTold_1 : decode cX2_factTold 1 = .ok (.bipush (-9), 2) := by decide +kernel
theorem dX2_factTold_3 : decode cX2_factTold 3 = .ok (.if_icmp .eq 9, 3) := by decide +kernel
theorem dX2_factTold_6 : decode cX2_factTold 6 = .ok (.iload_n 2, 1) := by decide +kernel
theorem dX2_factTold_7 : decode cX2_factTold 7 = .ok (.bipush (-9), 2) := by decide +kernel
theorem dX2_factTold_9 : decode cX2_factTold 9 = .ok (.if_icmp .ne 6, 3) := by decide +kernel
theorem dX2_factTold_12 : decode cX2_factTold 12 = .ok (.bipush (-9), 2) := by decide +kernel
theorem dX2_factTold_14 : decode cX2_factTold 14 = .ok (.ireturn, 1) := by decide +kernel
theorem dX2_factTold_15 : decode cX2_factTold 15 = .ok (.aload_n 0, 1) := by decide +kernel
theorem dX2_factTold_16 : decode cX2_factTold 16 = .ok (.getfield 21, 3) := by decide +kernel
theorem dX2_factTold_19 : decode cX2_factTold 19 = .ok (.getfield 78, 3) := by decide +kernel
theorem dX2_factTold_22 : decode cX2_factTold 22 = .ok (.tableswitch 89 0 2 #[26, 47, 68], 26) := by decide +kernel
theorem dX2_factTold_48 : decode cX2_factTold 48 = .ok (.aload_n 0, 1) := by decide +kernel
theorem dX2_factTold_49 : decode cX2_factTold 49 = .ok (.getfield 21, 3) := by decide +kernel
theorem dX2_factTold_52 : decode cX2_factTold 52 = .ok (.getfield 71, 3) := by decide +kernel
theorem dX2_factTold_55 : decode cX2_factTold 55 = .ok (.ifCond .eq 7, 3) := by decide +kernel
theorem dX2_factTold_58 : decode cX2_factTold 58 = .ok (.iconst 3, 1) := by decide +kernel
theorem dX2_factTold_59 : decode cX2_factTold 59 = .ok (.goto 4, 3) := by decide +kernel
theorem dX2_factTold_62 : decode cX2_factTold 62 = .ok (.iconst 0, 1) := by decide +kernel
theorem dX2_factTold_63 : decode cX2_factTold 63 = .ok (.iload_n 1, 1) := by decide +kernel
theorem dX2_factTold_64 : decode cX2_factTold 64 = .ok (.iload_n 2, 1) := by decide +kernel
theorem dX2_factTold_65 : decode cX2_factTold 65 = .ok (.invokestatic 116, 3) := by decide +kernel
theorem dX2_factTold_68 : decode cX2_factTold 68 = .ok (.ireturn, 1) := by decide +kernel
theorem dX2_factTold_69 : decode cX2_factTold 69 = .ok (.aload_n 0, 1) := by decide +kernel
theorem dX2_factTold_70 : decode cX2_factTold 70 = .ok (.getfield 21, 3) := by decide +kernel
theorem dX2_factTold_73 : decode cX2_factTold 73 = .ok (.getfield 71, 3) := by decide +kernel
theorem dX2_factTold_76 : decode cX2_factTold 76 = .ok (.ifCond .eq 7, 3) := by decide +kernel
theorem dX2_factTold_79 : decode cX2_factTold 79 = .ok (.iconst 2, 1) := by decide +kernel
theorem dX2_factTold_80 : decode cX2_factTold 80 = .ok (.goto 4, 3) := by decide +kernel
theorem dX2_factTold_83 : decode cX2_factTold 83 = .ok (.iconst 1, 1) := by decide +kernel
theorem dX2_factTold_84 : decode cX2_factTold 84 = .ok (.iload_n 1, 1) := by decide +kernel
theorem dX2_factTold_85 : decode cX2_factTold 85 = .ok (.iload_n 2, 1) := by decide +kernel
theorem dX2_factTold_86 : decode cX2_factTold 86 = .ok (.invokestatic 116, 3) := by decide +kernel
theorem dX2_factTold_89 : decode cX2_factTold 89 = .ok (.ireturn, 1) := by decide +kernel
theorem dX2_factTold_90 : decode cX2_factTold 90 = .ok (.aload_n 0, 1) := by decide +kernel
theorem dX2_factTold_91 : decode cX2_factTold 91 = .ok (.getfield 21, 3) := by decide +kernel
theorem dX2_factTold_94 : decode cX2_factTold 94 = .ok (.getfield 71, 3) := by decide +kernel
theorem dX2_factTold_97 : decode cX2_factTold 97 = .ok (.ifCond .eq 7, 3) := by decide +kernel
theorem dX2_factTold_100 : decode cX2_factTold 100 = .ok (.iconst 1, 1) := by decide +kernel
theorem dX2_factTold_101 : decode cX2_factTold 101 = .ok (.goto 4, 3) := by decide +kernel
theorem dX2_factTold_104 : decode cX2_factTold 104 = .ok (.iconst 2, 1) := by decide +kernel
theorem dX2_factTold_105 : decode cX2_factTold 105 = .ok (.iload_n 1, 1) := by decide +kernel
theorem dX2_factTold_106 : decode cX2_factTold 106 = .ok (.iload_n 2, 1) := by decide +kernel
theorem dX2_factTold_107 : decode cX2_factTold 107 = .ok (.invokestatic 116, 3) := by decide +kernel
theorem dX2_factTold_110 : decode cX2_factTold 110 = .ok (.ireturn, 1) := by decide +kernel
theorem dX2_factTold_111 : decode cX2_factTold 111 = .ok (.bipush (-9), 2) := by decide +kernel
theorem dX2_factTold_113 : decode cX2_factTold 113 = .ok (.ireturn, 1) := by decide +kernel
theorem dX3_init_0 : decode cX3_init 0 = .ok (.aload_n 0, 1) := by decide +kernel
theorem dX3_init_1 : decode cX3_init 1 = .ok (.invokespecial 3, 3) := by decide +kernel
theorem dX3_init_4 : decode cX3_init 4 = .ok (.return_, 1) := by decide +kernel
theorem dX3_becomeFirst_0 : decode cX3_becomeFirst 0 = .ok (.aload_n 0, 1) := by decide +kernel
theorem dX3_becomeFirst_1 : decode cX3_becomeFirst 1 = .ok (.iconst 0, 1) := by decide +kernel
theorem dX3_becomeFirst_2 : decode cX3_becomeFirst 2 = .ok (.putfield 9, 3) := by decide +kernel
theorem dX3_becomeFirst_5 : decode cX3_becomeFirst 5 = .ok (.aload_n 0, 1) := by decide +kernel
theorem dX3_becomeFirst_6 : decode cX3_becomeFirst 6 = .ok (.iconst 0, 1) := by decide +kernel
theorem dX3_becomeFirst_7 : decode cX3_becomeFirst 7 = .ok (.putfield 15, 3) := by decide +kernel
theorem dX3_becomeFirst_10 : decode cX3_becomeFirst 10 = .ok (.aload_n 0, 1) := by decide +kernel
theorem dX3_becomeFirst_11 : decode cX3_becomeFirst 11 = .ok (.iconst 0, 1) := by decide +kernel
theorem dX3_becomeFirst_12 : decode cX3_becomeFirst 12 = .ok (.iload_n 1, 1) := by decide +kernel
theorem dX3_becomeFirst_13 : decode cX3_becomeFirst 13 = .ok (.invokestatic 18, 3) := by decide +kernel
theorem dX3_becomeFirst_16 : decode cX3_becomeFirst 16 = .ok (.putfield 22, 3) := by decide +kernel
theorem dX3_becomeFirst_19 : decode cX3_becomeFirst 19 = .ok (.aload_n 0, 1) := by decide +kernel
theorem dX3_becomeFirst_20 : decode cX3_becomeFirst 20 = .ok (.aload_n 0, 1) := by decide +kernel
theorem dX3_becomeFirst_21 : decode cX3_becomeFirst 21 = .ok (.getfield 22, 3) := by decide +kernel
theorem dX3_becomeFirst_24 : decode cX3_becomeFirst 24 = .ok (.putfield 25, 3) := by decide +kernel
theorem dX3_becomeFirst_27 : decode cX3_becomeFirst 27 = .ok (.aload_n 0, 1) := by decide +kernel
theorem dX3_becomeFirst_28 : decode cX3_becomeFirst 28 = .ok (.iconst 0, 1) := by decide +kernel
theorem dX3_becomeFirst_29 : decode cX3_becomeFirst 29 = .ok (.iconst 0, 1) := by decide +kernel
theorem dX3_becomeFirst_30 : decode cX3_becomeFirst 30 = .ok (.iconst 0, 1) := by decide +kernel
theorem dX3_becomeFirst_31 : decode cX3_becomeFirst 31 = .ok (.invokestatic 28, 3) := by decide +kernel
theorem dX3_becomeFirst_34 : decode cX3_becomeFirst 34 = .ok (.putfield 32, 3) := by decide +kernel
theorem dX3_becomeFirst_37 : decode cX3_becomeFirst 37 = .ok (.aload_n 0, 1) := by decide +kernel
theorem dX3_becomeFirst_38 : decode cX3_becomeFirst 38 = .ok (.iconst 0, 1) := by decide +kernel
theorem dX3_becomeFirst_39 : decode cX3_becomeFirst 39 = .ok (.putfield 35, 3) := by decide +kernel
theorem dX3_becomeFirst_42 : decode cX3_becomeFirst 42 = .ok (.return_, 1) := by decide +kernel
theorem dX3_become_0 : decode cX3_become 0 = .ok (.aload_n 0, 1) := by decide +kernel
theorem dX3_become_1 : decode cX3_become 1 = .ok (.aload_n 1, 1) := by decide +kernel
theorem dX3_become_2 : decode cX3_become 2 = .ok (.getfield 9, 3) := by decide +kernel
theorem dX3_become_5 : decode cX3_become 5 = .ok (.putfield 9, 3) := by decide +kernel
theorem dX3_become_8 : decode cX3_become 8 = .ok (.aload_n 0, 1) := by decide +kernel
theorem dX3_become_9 : decode cX3_become 9 = .ok (.aload_n 1, 1) := by decide +kernel
theorem dX3_become_10 : decode cX3_become 10 = .ok (.getfield 15, 3) := by decide +kernel
theorem dX3_become_13 : decode cX3_become 13 = .ok (.putfield 15, 3) := by decide +kernel
theorem dX3_become_16 : decode cX3_become 16 = .ok (.aload_n 0, 1) := by decide +kernel
theorem dX3_become_17 : decode cX3_become 17 = .ok (.aload_n 1, 1) := by decide +kernel
theorem dX3_become_18 : decode cX3_become 18 = .ok (.getfield 22, 3) := by decide +kernel
theorem dX3_become_21 : decode cX3_become 21 = .ok (.putfield 22, 3) := by decide +kernel
theorem dX3_become_24 : decode cX3_become 24 = .ok (.aload_n 0, 1) := by decide +kernel
theorem dX3_become_25 : decode cX3_become 25 = .ok (.aload_n 1, 1) := by decide +kernel
theorem dX3_become_26 : decode cX3_become 26 = .ok (.getfield 25, 3) := by decide +kernel
theorem dX3_become_29 : decode cX3_become 29 = .ok (.putfield 25, 3) := by decide +kernel
theorem dX3_become_32 : decode cX3_become 32 = .ok (.aload_n 0, 1) := by decide +kernel
theorem dX3_become_33 : decode cX3_become 33 = .ok (.aload_n 1, 1) := by decide +kernel
theorem dX3_become_34 : decode cX3_become 34 = .ok (.getfield 32, 3) := by decide +kernel
theorem dX3_become_37 : decode cX3_become 37 = .ok (.putfield 32, 3) := by decide +kernel
theorem dX3_become_40 : decode cX3_become 40 = .ok (.aload_n 0, 1) := by decide +kernel
theorem dX3_become_41 : decode cX3_become 41 = .ok (.aload_n 1, 1) := by decide +kernel
theorem dX3_become_42 : decode cX3_become 42 = .ok (.getfield 35, 3) := by decide +kernel
theorem dX3_become_45 : decode cX3_become 45 = .ok (.putfield 35, 3) := by decide +kernel
theorem dX3_become_48 : decode cX3_become 48 = .ok (.return_, 1) := by decide +kernel
theorem dX3_isLike_0 : decode cX3_isLike 0 = .ok (.aload_n 0, 1) := by decide +kernel
theorem dX3_isLike_1 : decode cX3_isLike 1 = .ok (.getfield 9, 3) := by decide +kernel
theorem dX3_isLike_4 : decode cX3_isLike 4 = .ok (.aload_n 1, 1) := by decide +kernel
theorem dX3_isLike_5 : decode cX3_isLike 5 = .ok (.getfield 9, 3) := by decide +kernel
theorem dX3_isLike_8 : decode cX3_isLike 8 = .ok (.if_icmp .ne 51, 3) := by decide +kernel
theorem dX3_isLike_11 : decode cX3_isLike 11 = .ok (.aload_n 0, 1) := by decide +kernel
theorem dX3_isLike_12 : decode cX3_isLike 12 = .ok (.getfield 15, 3) := by decide +kernel
theorem dX3_isLike_15 : decode cX3_isLike 15 = .ok (.aload_n 1, 1) := by decide +kernel
theorem dX3_isLike_16 : decode cX3_isLike 16 = .ok (.getfield 15, 3) := by decide +kernel
theorem dX3_isLike_19 : decode cX3_isLike 19 = .ok (.if_icmp .ne 40, 3) := by decide +kernel
theorem dX3_isLike_22 : decode cX3_isLike 22 = .ok (.aload_n 0, 1) := by decide +kernel
theorem dX3_isLike_23 : decode cX3_isLike 23 = .ok (.getfield 35, 3) := by decide +kernel
theorem dX3_isLike_26 : decode cX3_isLike 26 = .ok (.aload_n 1, 1) := by decide +kernel
theorem dX3_isLike_27 : decode cX3_isLike 27 = .ok (.getfield 35, 3) := by decide +kernel
theorem dX3_isLike_30 : decode cX3_isLike 30 = .ok (.if_icmp .ne 29, 3) := by decide +kernel
theorem dX3_isLike_33 : decode cX3_isLike 33 = .ok (.aload_n 0, 1) := by decide +kernel
theorem dX3_isLike_34 : decode cX3_isLike 34 = .ok (.getfield 22, 3) := by decide +kernel
theorem dX3_isLike_37 : decode cX3_isLike 37 = .ok (.aload_n 1, 1) := by decide +kernel
theorem dX3_isLike_38 : decode cX3_isLike 38 = .ok (.getfield 22, 3) := by decide +kernel
theorem dX3_isLike_41 : decode cX3_isLike 41 = .ok (.if_icmp .ne 18, 3) := by decide +kernel
theorem dX3_isLike_44 : decode cX3_isLike 44 = .ok (.aload_n 0, 1) := by decide +kernel
theorem dX3_isLike_45 : decode cX3_isLike 45 = .ok (.getfield 25, 3) := by decide +kernel
theorem dX3_isLike_48 : decode cX3_isLike 48 = .ok (.aload_n 1, 1) := by decide +kernel
theorem dX3_isLike_49 : decode cX3_isLike 49 = .ok (.getfield 25, 3) := by decide +kernel
theorem dX3_isLike_52 : decode cX3_isLike 52 = .ok (.if_icmp .ne 7, 3) := by decide +kernel
theorem dX3_isLike_55 : decode cX3_isLike 55 = .ok (.iconst 1, 1) := by decide +kernel
theorem dX3_isLike_56 : decode cX3_isLike 56 = .ok (.goto 4, 3) := by decide +kernel
theorem dX3_isLike_59 : decode cX3_isLike 59 = .ok (.iconst 0, 1) := by decide +kernel
theorem dX3_isLike_60 : decode cX3_isLike 60 = .ok (.ireturn, 1) := by decide +kernel
theorem dX3_weight_0 : decode cX3_weight 0 = .ok (.aload_n 0, 1) := by decide +kernel
theorem dX3_weight_1 : decode cX3_weight 1 = .ok (.getfield 22, 3) := by decide +kernel
theorem dX3_weight_4 : decode cX3_weight 4 = .ok (.iload_n 1, 1) := by decide +kernel
theorem dX3_weight_5 : decode cX3_weight 5 = .ok (.ishr, 1) := by decide +kernel
theorem dX3_weight_6 : decode cX3_weight 6 = .ok (.iconst 1, 1) := by decide +kernel
theorem dX3_weight_7 : decode cX3_weight 7 = .ok (.iand, 1) := by decide +kernel
theorem dX3_weight_8 : decode cX3_weight 8 = .ok (.istore_n 2, 1) := by decide +kernel
theorem dX3_weight_9 : decode cX3_weight 9 = .ok (.aload_n 0, 1) := by decide +kernel
theorem dX3_weight_10 : decode cX3_weight 10 = .ok (.getfield 25, 3) := by decide +kernel
theorem dX3_weight_13 : decode cX3_weight 13 = .ok (.iload_n 1, 1) := by decide +kernel
theorem dX3_weight_14 : decode cX3_weight 14 = .ok (.ishr, 1) := by decide +kernel
theorem dX3_weight_15 : decode cX3_weight 15 = .ok (.iconst 1, 1) := by decide +kernel
theorem dX3_weight_16 : decode cX3_weight 16 = .ok (.iand, 1) := by decide +kernel
theorem dX3_weight_17 : decode cX3_weight 17 = .ok (.istore_n 3, 1) := by decide +kernel
theorem dX3_weight_18 : decode cX3_weight 18 = .ok (.iload_n 2, 1) := by decide +kernel
theorem dX3_weight_19 : decode cX3_weight 19 = .ok (.iload_n 3, 1) := by decide +kernel
theorem dX3_weight_20 : decode cX3_weight 20 = .ok (.iconst 4, 1) := by decide +kernel
theorem dX3_weight_21 : decode cX3_weight 21 = .ok (.ishl, 1) := by decide +kernel
theorem dX3_weight_22 : decode cX3_weight 22 = .ok (.ior, 1) := by decide +kernel
theorem dX3_weight_23 : decode cX3_weight 23 = .ok (.iload_n 2, 1) := by decide +kernel
theorem dX3_weight_24 : decode cX3_weight 24 = .ok (.iload_n 3, 1) := by decide +kernel
theorem dX3_weight_25 : decode cX3_weight 25 = .ok (.iand, 1) := by decide +kernel
theorem dX3_weight_26 : decode cX3_weight 26 = .ok (.bipush 8, 2) := by decide +kernel
theorem dX3_weight_28 : decode cX3_weight 28 = .ok (.ishl, 1) := by decide +kernel
theorem dX3_weight_29 : decode cX3_weight 29 = .ok (.ior, 1) := by decide +kernel
theorem dX3_weight_30 : decode cX3_weight 30 = .ok (.ireturn, 1) := by decide +kernel
theorem dX3_isTrue_0 : decode cX3_isTrue 0 = .ok (.aload_n 0, 1) := by decide +kernel
theorem dX3_isTrue_1 : decode cX3_isTrue 1 = .ok (.getfield 35, 3) := by decide +kernel
theorem dX3_isTrue_4 : decode cX3_isTrue 4 = .ok (.aload_n 0, 1) := by decide +kernel
theorem dX3_isTrue_5 : decode cX3_isTrue 5 = .ok (.iload_n 1, 1) := by decide +kernel
theorem dX3_isTrue_6 : decode cX3_isTrue 6 = .ok (.bipush 15, 2) := by decide +kernel
theorem dX3_isTrue_8 : decode cX3_isTrue 8 = .ok (.iand, 1) := by decide +kernel
theorem dX3_isTrue_9 : decode cX3_isTrue 9 = .ok (.iload_n 1, 1) := by decide +kernel
theorem dX3_isTrue_10 : decode cX3_isTrue 10 = .ok (.iconst 4, 1) := by decide +kernel
theorem dX3_isTrue_11 : decode cX3_isTrue 11 = .ok (.ishr, 1) := by decide +kernel
theorem dX3_isTrue_12 : decode cX3_isTrue 12 = .ok (.bipush 15, 2) := by decide +kernel
theorem dX3_isTrue_14 : decode cX3_isTrue 14 = .ok (.iand, 1) := by decide +kernel
theorem dX3_isTrue_15 : decode cX3_isTrue 15 = .ok (.iload_n 1, 1) := by decide +kernel
theorem dX3_isTrue_16 : decode cX3_isTrue 16 = .ok (.bipush 8, 2) := by decide +kernel
theorem dX3_isTrue_18 : decode cX3_isTrue 18 = .ok (.ishr, 1) := by decide +kernel
theorem dX3_isTrue_19 : decode cX3_isTrue 19 = .ok (.bipush 15, 2) := by decide +kernel
theorem dX3_isTrue_21 : decode cX3_isTrue 21 = .ok (.iand, 1) := by decide +kernel
theorem dX3_isTrue_22 : decode cX3_isTrue 22 = .ok (.invokevirtual 39, 3) := by decide +kernel
theorem dX3_isTrue_25 : decode cX3_isTrue 25 = .ok (.if_icmp .eq 7, 3) := by decide +kernel
theorem dX3_isTrue_28 : decode cX3_isTrue 28 = .ok (.iconst 1, 1) := by decide +kernel
theorem dX3_isTrue_29 : decode cX3_isTrue 29 = .ok (.goto 4, 3) := by decide +kernel
theorem dX3_isTrue_32 : decode cX3_isTrue 32 = .ok (.iconst 0, 1) := by decide +kernel
theorem dX3_isTrue_33 : decode cX3_isTrue 33 = .ok (.ireturn, 1) := by decide +kernel
theorem dX3_isTrueUnturned_0 : decode cX3_isTrueUnturned 0 = .ok (.aload_n 0, 1) := by decide +kernel
theorem dX3_isTrueUnturned_1 : decode cX3_isTrueUnturned 1 = .ok (.getfield 9, 3) := by decide +kernel
theorem dX3_isTrueUnturned_4 : decode cX3_isTrueUnturned 4 = .ok (.tableswitch 127 0 6 #[44, 55, 65, 75, 88, 102, 116], 44) := by decide +kernel
theorem dX3_isTrueUnturned_48 : decode cX3_isTrueUnturned 48 = .ok (.iload_n 3, 1) := by decide +kernel
theorem dX3_isTrueUnturned_49 : decode cX3_isTrueUnturned 49 = .ok (.iload_n 1, 1) := by decide +kernel
theorem dX3_isTrueUnturned_50 : decode cX3_isTrueUnturned 50 = .ok (.if_icmp .ne 7, 3) := by decide +kernel
theorem dX3_isTrueUnturned_53 : decode cX3_isTrueUnturned 53 = .ok (.iconst 1, 1) := by decide +kernel
theorem dX3_isTrueUnturned_54 : decode cX3_isTrueUnturned 54 = .ok (.goto 4, 3) := by decide +kernel
theorem dX3_isTrueUnturned_57 : decode cX3_isTrueUnturned 57 = .ok (.iconst 0, 1) := by decide +kernel
theorem dX3_isTrueUnturned_58 : decode cX3_isTrueUnturned 58 = .ok (.ireturn, 1) := by decide +kernel
theorem dX3_isTrueUnturned_59 : decode cX3_isTrueUnturned 59 = .ok (.iload_n 3, 1) := by decide +kernel
theorem dX3_isTrueUnturned_60 : decode cX3_isTrueUnturned 60 = .ok (.ifCond .le 7, 3) := by decide +kernel
theorem dX3_isTrueUnturned_63 : decode cX3_isTrueUnturned 63 = .ok (.iconst 1, 1) := by decide +kernel
theorem dX3_isTrueUnturned_64 : decode cX3_isTrueUnturned 64 = .ok (.goto 4, 3) := by decide +kernel
theorem dX3_isTrueUnturned_67 : decode cX3_isTrueUnturned 67 = .ok (.iconst 0, 1) := by decide +kernel
theorem dX3_isTrueUnturned_68 : decode cX3_isTrueUnturned 68 = .ok (.ireturn, 1) := by decide +kernel
theorem dX3_isTrueUnturned_69 : decode cX3_isTrueUnturned 69 = .ok (.iload_n 3, 1) := by decide +kernel
theorem dX3_isTrueUnturned_70 : decode cX3_isTrueUnturned 70 = .ok (.ifCond .ne 7, 3) := by decide +kernel
theorem dX3_isTrueUnturned_73 : decode cX3_isTrueUnturned 73 = .ok (.iconst 1, 1) := by decide +kernel
theorem dX3_isTrueUnturned_74 : decode cX3_isTrueUnturned 74 = .ok (.goto 4, 3) := by decide +kernel
theorem dX3_isTrueUnturned_77 : decode cX3_isTrueUnturned 77 = .ok (.iconst 0, 1) := by decide +kernel
theorem dX3_isTrueUnturned_78 : decode cX3_isTrueUnturned 78 = .ok (.ireturn, 1) := by decide +kernel
theorem dX3_isTrueUnturned_79 : decode cX3_isTrueUnturned 79 = .ok (.iconst 2, 1) := by decide +kernel
theorem dX3_isTrueUnturned_80 : decode cX3_isTrueUnturned 80 = .ok (.iload_n 3, 1) := by decide +kernel
theorem dX3_isTrueUnturned_81 : decode cX3_isTrueUnturned 81 = .ok (.imul, 1) := by decide +kernel
theorem dX3_isTrueUnturned_82 : decode cX3_isTrueUnturned 82 = .ok (.iload_n 1, 1) := by decide +kernel
theorem dX3_isTrueUnturned_83 : decode cX3_isTrueUnturned 83 = .ok (.if_icmp .le 7, 3) := by decide +kernel
theorem dX3_isTrueUnturned_86 : decode cX3_isTrueUnturned 86 = .ok (.iconst 1, 1) := by decide +kernel
theorem dX3_isTrueUnturned_87 : decode cX3_isTrueUnturned 87 = .ok (.goto 4, 3) := by decide +kernel
theorem dX3_isTrueUnturned_90 : decode cX3_isTrueUnturned 90 = .ok (.iconst 0, 1) := by decide +kernel
theorem dX3_isTrueUnturned_91 : decode cX3_isTrueUnturned 91 = .ok (.ireturn, 1) := by decide +kernel
theorem dX3_isTrueUnturned_92 : decode cX3_isTrueUnturned 92 = .ok (.iload_n 3, 1) := by decide +kernel
theorem dX3_isTrueUnturned_93 : decode cX3_isTrueUnturned 93 = .ok (.aload_n 0, 1) := by decide +kernel
theorem dX3_isTrueUnturned_94 : decode cX3_isTrueUnturned 94 = .ok (.getfield 15, 3) := by decide +kernel
theorem dX3_isTrueUnturned_97 : decode cX3_isTrueUnturned 97 = .ok (.if_icmp .lt 7, 3) := by decide +kernel
theorem dX3_isTrueUnturned_100 : decode cX3_isTrueUnturned 100 = .ok (.iconst 1, 1) := by decide +kernel
theorem dX3_isTrueUnturned_101 : decode cX3_isTrueUnturned 101 = .ok (.goto 4, 3) := by decide +kernel
theorem dX3_isTrueUnturned_104 : decode cX3_isTrueUnturned 104 = .ok (.iconst 0, 1) := by decide +kernel
theorem dX3_isTrueUnturned_105 : decode cX3_isTrueUnturned 105 = .ok (.ireturn, 1) := by decide +kernel
theorem dX3_isTrueUnturned_106 : decode cX3_isTrueUnturned 106 = .ok (.iload_n 3, 1) := by decide +kernel
theorem dX3_isTrueUnturned_107 : decode cX3_isTrueUnturned 107 = .ok (.aload_n 0, 1) := by decide +kernel
theorem dX3_isTrueUnturned_108 : decode cX3_isTrueUnturned 108 = .ok (.getfield 15, 3) := by decide +kernel
theorem dX3_isTrueUnturned_111 : decode cX3_isTrueUnturned 111 = .ok (.if_icmp .ne 7, 3) := by decide +kernel
theorem dX3_isTrueUnturned_114 : decode cX3_isTrueUnturned 114 = .ok (.iconst 1, 1) := by decide +kernel
theorem dX3_isTrueUnturned_115 : decode cX3_isTrueUnturned 115 = .ok (.goto 4, 3) := by decide +kernel
theorem dX3_isTrueUnturned_118 : decode cX3_isTrueUnturned 118 = .ok (.iconst 0, 1) := by decide +kernel
theorem dX3_isTrueUnturned_119 : decode cX3_isTrueUnturned 119 = .ok (.ireturn, 1) := by decide +kernel
theorem dX3_isTrueUnturned_120 : decode cX3_isTrueUnturned 120 = .ok (.iload_n 1, 1) := by decide +kernel
theorem dX3_isTrueUnturned_121 : decode cX3_isTrueUnturned 121 = .ok (.iload_n 2, 1) := by decide +kernel
theorem dX3_isTrueUnturned_122 : decode cX3_isTrueUnturned 122 = .ok (.if_icmp .le 7, 3) := by decide +kernel
theorem dX3_isTrueUnturned_125 : decode cX3_isTrueUnturned 125 = .ok (.iconst 1, 1) := by decide +kernel
theorem dX3_isTrueUnturned_126 : decode cX3_isTrueUnturned 126 = .ok (.goto 4, 3) := by decide +kernel
theorem dX3_isTrueUnturned_129 : decode cX3_isTrueUnturned 129 = .ok (.iconst 0, 1) := by decide +kernel
theorem dX3_isTrueUnturned_130 : decode cX3_isTrueUnturned 130 = .ok (.ireturn, 1) := by decide +kernel
theorem dX3_isTrueUnturned_131 : decode cX3_isTrueUnturned 131 = .ok (.iload_n 1, 1) := by decide +kernel
theorem dX3_isTrueUnturned_132 : decode cX3_isTrueUnturned 132 = .ok (.iload_n 2, 1) := by decide +kernel
theorem dX3_isTrueUnturned_133 : decode cX3_isTrueUnturned 133 = .ok (.if_icmp .ne 7, 3) := by decide +kernel
theorem dX3_isTrueUnturned_136 : decode cX3_isTrueUnturned 136 = .ok (.iconst 1, 1) := by decide +kernel
theorem dX3_isTrueUnturned_137 : decode cX3_isTrueUnturned 137 = .ok (.goto 4, 3) := by decide +kernel
theorem dX3_isTrueUnturned_140 : decode cX3_isTrueUnturned 140 = .ok (.iconst 0, 1) := by decide +kernel
theorem dX3_isTrueUnturned_141 : decode cX3_isTrueUnturned 141 = .ok (.ireturn, 1) := by decide +kernel
theorem dX4_init_0 : decode cX4_init 0 = .ok (.aload_n 0, 1) := by decide +kernel
theorem dX4_init_1 : decode cX4_init 1 = .ok (.invokespecial 3, 3) := by decide +kernel
theorem dX4_init_4 : decode cX4_init 4 = .ok (.aload_n 0, 1) := by decide +kernel
theorem dX4_init_5 : decode cX4_init 5 = .ok (.bipush 80, 2) := by decide +kernel
theorem dX4_init_7 : decode cX4_init 7 = .ok (.newarray .char, 2) := by decide +kernel
theorem dX4_init_9 : decode cX4_init 9 = .ok (.putfield 9, 3) := by decide +kernel
theorem dX4_init_12 : decode cX4_init 12 = .ok (.return_, 1) := by decide +kernel
theorem dX4_append_0 : decode cX4_append 0 = .ok (.iload_n 3, 1) := by decide +kernel
theorem dX4_append_1 : decode cX4_append 1 = .ok (.iconst 1, 1) := by decide +kernel
theorem dX4_append_2 : decode cX4_append 2 = .ok (.isub, 1) := by decide +kernel
theorem dX4_append_3 : decode cX4_append 3 = .ok (.istore 4, 2) := by decide +kernel
theorem dX4_append_5 : decode cX4_append 5 = .ok (.iload 4, 2) := by decide +kernel
theorem dX4_append_7 : decode cX4_append 7 = .ok (.ifCond .lt 60, 3) := by decide +kernel
theorem dX4_append_10 : decode cX4_append 10 = .ok (.aload_n 0, 1) := by decide +kernel
theorem dX4_append_11 : decode cX4_append 11 = .ok (.getfield 15, 3) := by decide +kernel
theorem dX4_append_14 : decode cX4_append 14 = .ok (.ifCond .lt 53, 3) := by decide +kernel
theorem dX4_append_17 : decode cX4_append 17 = .ok (.aload_n 0, 1) := by decide +kernel
theorem dX4_append_18 : decode cX4_append 18 = .ok (.getfield 15, 3) := by decide +kernel
theorem dX4_append_21 : decode cX4_append 21 = .ok (.aload_n 0, 1) := by decide +kernel
theorem dX4_append_22 : decode cX4_append 22 = .ok (.getfield 9, 3) := by decide +kernel
theorem dX4_append_25 : decode cX4_append 25 = .ok (.arraylength, 1) := by decide +kernel
theorem dX4_append_26 : decode cX4_append 26 = .ok (.if_icmp .ge 41, 3) := by decide +kernel
theorem dX4_append_29 : decode cX4_append 29 = .ok (.aload_n 0, 1) := by decide +kernel
theorem dX4_append_30 : decode cX4_append 30 = .ok (.getfield 9, 3) := by decide +kernel
theorem dX4_append_33 : decode cX4_append 33 = .ok (.aload_n 0, 1) := by decide +kernel
theorem dX4_append_34 : decode cX4_append 34 = .ok (.getfield 15, 3) := by decide +kernel
theorem dX4_append_37 : decode cX4_append 37 = .ok (.lload_n 1, 1) := by decide +kernel
theorem dX4_append_38 : decode cX4_append 38 = .ok (.bipush 8, 2) := by decide +kernel
theorem dX4_append_40 : decode cX4_append 40 = .ok (.iload 4, 2) := by decide +kernel
theorem dX4_append_42 : decode cX4_append 42 = .ok (.imul, 1) := by decide +kernel
theorem dX4_append_43 : decode cX4_append 43 = .ok (.lushr, 1) := by decide +kernel
theorem dX4_append_44 : decode cX4_append 44 = .ok (.ldc2_w 19, 3) := by decide +kernel
theorem dX4_append_47 : decode cX4_append 47 = .ok (.land, 1) := by decide +kernel
theorem dX4_append_48 : decode cX4_append 48 = .ok (.l2i, 1) := by decide +kernel
theorem dX4_append_49 : decode cX4_append 49 = .ok (.i2c, 1) := by decide +kernel
theorem dX4_append_50 : decode cX4_append 50 = .ok (.castore, 1) := by decide +kernel
theorem dX4_append_51 : decode cX4_append 51 = .ok (.aload_n 0, 1) := by decide +kernel
theorem dX4_append_52 : decode cX4_append 52 = .ok (.dup, 1) := by decide +kernel
theorem dX4_append_53 : decode cX4_append 53 = .ok (.getfield 15, 3) := by decide +kernel
theorem dX4_append_56 : decode cX4_append 56 = .ok (.iconst 1, 1) := by decide +kernel
theorem dX4_append_57 : decode cX4_append 57 = .ok (.iadd, 1) := by decide +kernel
theorem dX4_append_58 : decode cX4_append 58 = .ok (.putfield 15, 3) := by decide +kernel
theorem dX4_append_61 : decode cX4_append 61 = .ok (.iinc 4 (-1), 3) := by decide +kernel
theorem dX4_append_64 : decode cX4_append 64 = .ok (.goto (-59), 3) := by decide +kernel
theorem dX4_append_67 : decode cX4_append 67 = .ok (.return_, 1) := by decide +kernel
theorem dX4_begin_0 : decode cX4_begin 0 = .ok (.aload_n 0, 1) := by decide +kernel
theorem dX4_begin_1 : decode cX4_begin 1 = .ok (.iconst 0, 1) := by decide +kernel
theorem dX4_begin_2 : decode cX4_begin 2 = .ok (.putfield 21, 3) := by decide +kernel
theorem dX4_begin_5 : decode cX4_begin 5 = .ok (.aload_n 0, 1) := by decide +kernel
theorem dX4_begin_6 : decode cX4_begin 6 = .ok (.iconst (-1), 1) := by decide +kernel
theorem dX4_begin_7 : decode cX4_begin 7 = .ok (.putfield 24, 3) := by decide +kernel
theorem dX4_begin_10 : decode cX4_begin 10 = .ok (.aload_n 0, 1) := by decide +kernel
theorem dX4_begin_11 : decode cX4_begin 11 = .ok (.invokevirtual 27, 3) := by decide +kernel
theorem dX4_begin_14 : decode cX4_begin 14 = .ok (.return_, 1) := by decide +kernel
theorem dX4_advance_0 : decode cX4_advance 0 = .ok (.aload_n 0, 1) := by decide +kernel
theorem dX4_advance_1 : decode cX4_advance 1 = .ok (.dup, 1) := by decide +kernel
theorem dX4_advance_2 : decode cX4_advance 2 = .ok (.getfield 24, 3) := by decide +kernel
theorem dX4_advance_5 : decode cX4_advance 5 = .ok (.iconst 1, 1) := by decide +kernel
theorem dX4_advance_6 : decode cX4_advance 6 = .ok (.iadd, 1) := by decide +kernel
theorem dX4_advance_7 : decode cX4_advance 7 = .ok (.putfield 24, 3) := by decide +kernel
theorem dX4_advance_10 : decode cX4_advance 10 = .ok (.aload_n 0, 1) := by decide +kernel
theorem dX4_advance_11 : decode cX4_advance 11 = .ok (.getfield 21, 3) := by decide +kernel
theorem dX4_advance_14 : decode cX4_advance 14 = .ok (.aload_n 0, 1) := by decide +kernel
theorem dX4_advance_15 : decode cX4_advance 15 = .ok (.getfield 15, 3) := by decide +kernel
theorem dX4_advance_18 : decode cX4_advance 18 = .ok (.if_icmp .ge 29, 3) := by decide +kernel
theorem dX4_advance_21 : decode cX4_advance 21 = .ok (.aload_n 0, 1) := by decide +kernel
theorem dX4_advance_22 : decode cX4_advance 22 = .ok (.aload_n 0, 1) := by decide +kernel
theorem dX4_advance_23 : decode cX4_advance 23 = .ok (.getfield 21, 3) := by decide +kernel
theorem dX4_advance_26 : decode cX4_advance 26 = .ok (.invokevirtual 30, 3) := by decide +kernel
theorem dX4_advance_29 : decode cX4_advance 29 = .ok (.bipush 32, 2) := by decide +kernel
theorem dX4_advance_31 : decode cX4_advance 31 = .ok (.if_icmp .ne 16, 3) := by decide +kernel
theorem dX4_advance_34 : decode cX4_advance 34 = .ok (.aload_n 0, 1) := by decide +kernel
theorem dX4_advance_35 : decode cX4_advance 35 = .ok (.dup, 1) := by decide +kernel
theorem dX4_advance_36 : decode cX4_advance 36 = .ok (.getfield 21, 3) := by decide +kernel
theorem dX4_advance_39 : decode cX4_advance 39 = .ok (.iconst 1, 1) := by decide +kernel
theorem dX4_advance_40 : decode cX4_advance 40 = .ok (.iadd, 1) := by decide +kernel
theorem dX4_advance_41 : decode cX4_advance 41 = .ok (.putfield 21, 3) := by decide +kernel
theorem dX4_advance_44 : decode cX4_advance 44 = .ok (.goto (-34), 3) := by decide +kernel
theorem dX4_advance_47 : decode cX4_advance 47 = .ok (.aload_n 0, 1) := by decide +kernel
theorem dX4_advance_48 : decode cX4_advance 48 = .ok (.aload_n 0, 1) := by decide +kernel
theorem dX4_advance_49 : decode cX4_advance 49 = .ok (.getfield 21, 3) := by decide +kernel
theorem dX4_advance_52 : decode cX4_advance 52 = .ok (.putfield 34, 3) := by decide +kernel
theorem dX4_advance_55 : decode cX4_advance 55 = .ok (.aload_n 0, 1) := by decide +kernel
theorem dX4_advance_56 : decode cX4_advance 56 = .ok (.iconst 0, 1) := by decide +kernel
theorem dX4_advance_57 : decode cX4_advance 57 = .ok (.putfield 37, 3) := by decide +kernel
theorem dX4_advance_60 : decode cX4_advance 60 = .ok (.aload_n 0, 1) := by decide +kernel
theorem dX4_advance_61 : decode cX4_advance 61 = .ok (.aload_n 0, 1) := by decide +kernel
theorem dX4_advance_62 : decode cX4_advance 62 = .ok (.getfield 34, 3) := by decide +kernel
theorem dX4_advance_65 : decode cX4_advance 65 = .ok (.invokevirtual 30, 3) := by decide +kernel
theorem dX4_advance_68 : decode cX4_advance 68 = .ok (.istore_n 1, 1) := by decide +kernel
theorem dX4_advance_69 : decode cX4_advance 69 = .ok (.iload_n 1, 1) := by decide +kernel
theorem dX4_advance_70 : decode cX4_advance 70 = .ok (.ifCond .ge 11, 3) := by decide +kernel
theorem dX4_advance_73 : decode cX4_advance 73 = .ok (.aload_n 0, 1) := by decide +kernel
theorem dX4_advance_74 : decode cX4_advance 74 = .ok (.iconst 0, 1) := by decide +kernel
theorem dX4_advance_75 : decode cX4_advance 75 = .ok (.putfield 40, 3) := by decide +kernel
theorem dX4_advance_78 : decode cX4_advance 78 = .ok (.goto 36, 3) := by decide +kernel
theorem dX4_advance_81 : decode cX4_advance 81 = .ok (.iload_n 1, 1) := by decide +kernel
theorem dX4_advance_82 : decode cX4_advance 82 = .ok (.invokestatic 43, 3) := by decide +kernel
theorem dX4_advance_85 : decode cX4_advance 85 = .ok (.ifCond .eq 10, 3) := by decide +kernel
theorem dX4_advance_88 : decode cX4_advance 88 = .ok (.aload_n 0, 1) := by decide +kernel
theorem dX4_advance_89 : decode cX4_advance 89 = .ok (.invokevirtual 47, 3) := by decide +kernel
theorem dX4_advance_92 : decode cX4_advance 92 = .ok (.goto 22, 3) := by decide +kernel
theorem dX4_advance_95 : decode cX4_advance 95 = .ok (.iload_n 1, 1) := by decide +kernel
theorem dX4_advance_96 : decode cX4_advance 96 = .ok (.invokestatic 50, 3) := by decide +kernel
theorem dX4_advance_99 : decode cX4_advance 99 = .ok (.ifCond .eq 10, 3) := by decide +kernel
theorem dX4_advance_102 : decode cX4_advance 102 = .ok (.aload_n 0, 1) := by decide +kernel
theorem dX4_advance_103 : decode cX4_advance 103 = .ok (.invokevirtual 53, 3) := by decide +kernel
theorem dX4_advance_106 : decode cX4_advance 106 = .ok (.goto 8, 3) := by decide +kernel
theorem dX4_advance_109 : decode cX4_advance 109 = .ok (.aload_n 0, 1) := by decide +kernel
theorem dX4_advance_110 : decode cX4_advance 110 = .ok (.iload_n 1, 1) := by decide +kernel
theorem dX4_advance_111 : decode cX4_advance 111 = .ok (.invokevirtual 56, 3) := by decide +kernel
theorem dX4_advance_114 : decode cX4_advance 114 = .ok (.return_, 1) := by decide +kernel
theorem dX4_takeWord_0 : decode cX4_takeWord 0 = .ok (.lconst 0, 1) := by decide +kernel
theorem dX4_takeWord_1 : decode cX4_takeWord 1 = .ok (.lstore_n 1, 1) := by decide +kernel
theorem dX4_takeWord_2 : decode cX4_takeWord 2 = .ok (.aload_n 0, 1) := by decide +kernel
theorem dX4_takeWord_3 : decode cX4_takeWord 3 = .ok (.getfield 21, 3) := by decide +kernel
theorem dX4_takeWord_6 : decode cX4_takeWord 6 = .ok (.aload_n 0, 1) := by decide +kernel
theorem dX4_takeWord_7 : decode cX4_takeWord 7 = .ok (.getfield 15, 3) := by decide +kernel
theorem dX4_takeWord_10 : decode cX4_takeWord 10 = .ok (.if_icmp .ge 45, 3) := by decide +kernel
theorem dX4_takeWord_13 : decode cX4_takeWord 13 = .ok (.aload_n 0, 1) := by decide +kernel
theorem dX4_takeWord_14 : decode cX4_takeWord 14 = .ok (.aload_n 0, 1) := by decide +kernel
theorem dX4_takeWord_15 : decode cX4_takeWord 15 = .ok (.getfield 21, 3) := by decide +kernel
theorem dX4_takeWord_18 : decode cX4_takeWord 18 = .ok (.invokevirtual 30, 3) := by decide +kernel
theorem dX4_takeWord_21 : decode cX4_takeWord 21 = .ok (.invokestatic 43, 3) := by decide +kernel
theorem dX4_takeWord_24 : decode cX4_takeWord 24 = .ok (.ifCond .eq 31, 3) := by decide +kernel
theorem dX4_takeWord_27 : decode cX4_takeWord 27 = .ok (.lload_n 1, 1) := by decide +kernel
theorem dX4_takeWord_28 : decode cX4_takeWord 28 = .ok (.bipush 8, 2) := by decide +kernel
theorem dX4_takeWord_30 : decode cX4_takeWord 30 = .ok (.lshl, 1) := by decide +kernel
theorem dX4_takeWord_31 : decode cX4_takeWord 31 = .ok (.aload_n 0, 1) := by decide +kernel
theorem dX4_takeWord_32 : decode cX4_takeWord 32 = .ok (.aload_n 0, 1) := by decide +kernel
theorem dX4_takeWord_33 : decode cX4_takeWord 33 = .ok (.getfield 21, 3) := by decide +kernel
theorem dX4_takeWord_36 : decode cX4_takeWord 36 = .ok (.invokevirtual 30, 3) := by decide +kernel
theorem dX4_takeWord_39 : decode cX4_takeWord 39 = .ok (.i2l, 1) := by decide +kernel
theorem dX4_takeWord_40 : decode cX4_takeWord 40 = .ok (.lor, 1) := by decide +kernel
theorem dX4_takeWord_41 : decode cX4_takeWord 41 = .ok (.lstore_n 1, 1) := by decide +kernel
theorem dX4_takeWord_42 : decode cX4_takeWord 42 = .ok (.aload_n 0, 1) := by decide +kernel
theorem dX4_takeWord_43 : decode cX4_takeWord 43 = .ok (.dup, 1) := by decide +kernel
theorem dX4_takeWord_44 : decode cX4_takeWord 44 = .ok (.getfield 21, 3) := by decide +kernel
theorem dX4_takeWord_47 : decode cX4_takeWord 47 = .ok (.iconst 1, 1) := by decide +kernel
theorem dX4_takeWord_48 : decode cX4_takeWord 48 = .ok (.iadd, 1) := by decide +kernel
theorem dX4_takeWord_49 : decode cX4_takeWord 49 = .ok (.putfield 21, 3) := by decide +kernel
theorem dX4_takeWord_52 : decode cX4_takeWord 52 = .ok (.goto (-50), 3) := by decide +kernel
theorem dX4_takeWord_55 : decode cX4_takeWord 55 = .ok (.aload_n 0, 1) := by decide +kernel
theorem dX4_takeWord_56 : decode cX4_takeWord 56 = .ok (.iconst 1, 1) := by decide +kernel
theorem dX4_takeWord_57 : decode cX4_takeWord 57 = .ok (.putfield 40, 3) := by decide +kernel
theorem dX4_takeWord_60 : decode cX4_takeWord 60 = .ok (.iconst 0, 1) := by decide +kernel
theorem dX4_takeWord_61 : decode cX4_takeWord 61 = .ok (.istore_n 3, 1) := by decide +kernel
theorem dX4_takeWord_62 : decode cX4_takeWord 62 = .ok (.iload_n 3, 1) := by decide +kernel
theorem dX4_takeWord_63 : decode cX4_takeWord 63 = .ok (.getstatic 60, 3) := by decide +kernel
theorem dX4_takeWord_66 : decode cX4_takeWord 66 = .ok (.arraylength, 1) := by decide +kernel
theorem dX4_takeWord_67 : decode cX4_takeWord 67 = .ok (.if_icmp .ge 29, 3) := by decide +kernel
theorem dX4_takeWord_70 : decode cX4_takeWord 70 = .ok (.getstatic 60, 3) := by decide +kernel
theorem dX4_takeWord_73 : decode cX4_takeWord 73 = .ok (.iload_n 3, 1) := by decide +kernel
theorem dX4_takeWord_74 : decode cX4_takeWord 74 = .ok (.laload, 1) := by decide +kernel
theorem dX4_takeWord_75 : decode cX4_takeWord 75 = .ok (.lload_n 1, 1) := by decide +kernel
theorem dX4_takeWord_76 : decode cX4_takeWord 76 = .ok (.lcmp, 1) := by decide +kernel
theorem dX4_takeWord_77 : decode cX4_takeWord 77 = .ok (.ifCond .ne 13, 3) := by decide +kernel
theorem dX4_takeWord_80 : decode cX4_takeWord 80 = .ok (.aload_n 0, 1) := by decide +kernel
theorem dX4_takeWord_81 : decode cX4_takeWord 81 = .ok (.iconst 2, 1) := by decide +kernel
theorem dX4_takeWord_82 : decode cX4_takeWord 82 = .ok (.putfield 40, 3) := by decide +kernel
theorem dX4_takeWord_85 : decode cX4_takeWord 85 = .ok (.aload_n 0, 1) := by decide +kernel
theorem dX4_takeWord_86 : decode cX4_takeWord 86 = .ok (.iload_n 3, 1) := by decide +kernel
theorem dX4_takeWord_87 : decode cX4_takeWord 87 = .ok (.putfield 37, 3) := by decide +kernel
theorem dX4_takeWord_90 : decode cX4_takeWord 90 = .ok (.iinc 3 1, 3) := by decide +kernel
theorem dX4_takeWord_93 : decode cX4_takeWord 93 = .ok (.goto (-31), 3) := by decide +kernel
theorem dX4_takeWord_96 : decode cX4_takeWord 96 = .ok (.return_, 1) := by decide +kernel
theorem dX4_takeNumber_0 : decode cX4_takeNumber 0 = .ok (.aload_n 0, 1) := by decide +kernel
theorem dX4_takeNumber_1 : decode cX4_takeNumber 1 = .ok (.getfield 21, 3) := by decide +kernel
theorem dX4_takeNumber_4 : decode cX4_takeNumber 4 = .ok (.aload_n 0, 1) := by decide +kernel
theorem dX4_takeNumber_5 : decode cX4_takeNumber 5 = .ok (.getfield 15, 3) := by decide +kernel
theorem dX4_takeNumber_8 : decode cX4_takeNumber 8 = .ok (.if_icmp .ge 59, 3) := by decide +kernel
theorem dX4_takeNumber_11 : decode cX4_takeNumber 11 = .ok (.aload_n 0, 1) := by decide +kernel
theorem dX4_takeNumber_12 : decode cX4_takeNumber 12 = .ok (.aload_n 0, 1) := by decide +kernel
theorem dX4_takeNumber_13 : decode cX4_takeNumber 13 = .ok (.getfield 21, 3) := by decide +kernel
theorem dX4_takeNumber_16 : decode cX4_takeNumber 16 = .ok (.invokevirtual 30, 3) := by decide +kernel
theorem dX4_takeNumber_19 : decode cX4_takeNumber 19 = .ok (.invokestatic 50, 3) := by decide +kernel
theorem dX4_takeNumber_22 : decode cX4_takeNumber 22 = .ok (.ifCond .eq 45, 3) := by decide +kernel
theorem dX4_takeNumber_25 : decode cX4_takeNumber 25 = .ok (.aload_n 0, 1) := by decide +kernel
theorem dX4_takeNumber_26 : decode cX4_takeNumber 26 = .ok (.bipush 10, 2) := by decide +kernel
theorem dX4_takeNumber_28 : decode cX4_takeNumber 28 = .ok (.aload_n 0, 1) := by decide +kernel
theorem dX4_takeNumber_29 : decode cX4_takeNumber 29 = .ok (.getfield 37, 3) := by decide +kernel
theorem dX4_takeNumber_32 : decode cX4_takeNumber 32 = .ok (.imul, 1) := by decide +kernel
theorem dX4_takeNumber_33 : decode cX4_takeNumber 33 = .ok (.aload_n 0, 1) := by decide +kernel
theorem dX4_takeNumber_34 : decode cX4_takeNumber 34 = .ok (.aload_n 0, 1) := by decide +kernel
end
section
theorem dX4_takeNumber_35 : decode cX4_takeNumber 35 = .ok (.getfield 21, 3) := by decide +kernel
theorem dX4_takeNumber_38 : decode cX4_takeNumber 38 = .ok (.invokevirtual 30, 3) := by decide +kernel
theorem dX4_takeNumber_41 : decode cX4_takeNumber 41 = .ok (.iadd, 1) := by decide +kernel
theorem dX4_takeNumber_42 : decode cX4_takeNumber 42 = .ok (.bipush 48, 2) := by decide +kernel
theorem dX4_takeNumber_44 : decode cX4_takeNumber 44 = .ok (.isub, 1) := by decide +kernel
theorem dX4_takeNumber_45 : decode cX4_takeNumber 45 = .ok (.sipush 1000, 3) := by decide +kernel
theorem dX4_takeNumber_48 : decode cX4_takeNumber 48 = .ok (.invokestatic 64, 3) := by decide +kernel
theorem dX4_takeNumber_51 : decode cX4_takeNumber 51 = .ok (.putfield 37, 3) := by decide +kernel
theorem dX4_takeNumber_54 : decode cX4_takeNumber 54 = .ok (.aload_n 0, 1) := by decide +kernel
theorem dX4_takeNumber_55 : decode cX4_takeNumber 55 = .ok (.dup, 1) := by decide +kernel
theorem dX4_takeNumber_56 : decode cX4_takeNumber 56 = .ok (.getfield 21, 3) := by decide +kernel
theorem dX4_takeNumber_59 : decode cX4_takeNumber 59 = .ok (.iconst 1, 1) := by decide +kernel
theorem dX4_takeNumber_60 : decode cX4_takeNumber 60 = .ok (.iadd, 1) := by decide +kernel
theorem dX4_takeNumber_61 : decode cX4_takeNumber 61 = .ok (.putfield 21, 3) := by decide +kernel
theorem dX4_takeNumber_64 : decode cX4_takeNumber 64 = .ok (.goto (-64), 3) := by decide +kernel
theorem dX4_takeNumber_67 : decode cX4_takeNumber 67 = .ok (.aload_n 0, 1) := by decide +kernel
theorem dX4_takeNumber_68 : decode cX4_takeNumber 68 = .ok (.aload_n 0, 1) := by decide +kernel
theorem dX4_takeNumber_69 : decode cX4_takeNumber 69 = .ok (.getfield 34, 3) := by decide +kernel
theorem dX4_takeNumber_72 : decode cX4_takeNumber 72 = .ok (.invokevirtual 30, 3) := by decide +kernel
theorem dX4_takeNumber_75 : decode cX4_takeNumber 75 = .ok (.bipush 48, 2) := by decide +kernel
theorem dX4_takeNumber_77 : decode cX4_takeNumber 77 = .ok (.if_icmp .ne 20, 3) := by decide +kernel
theorem dX4_takeNumber_80 : decode cX4_takeNumber 80 = .ok (.aload_n 0, 1) := by decide +kernel
theorem dX4_takeNumber_81 : decode cX4_takeNumber 81 = .ok (.getfield 21, 3) := by decide +kernel
theorem dX4_takeNumber_84 : decode cX4_takeNumber 84 = .ok (.aload_n 0, 1) := by decide +kernel
theorem dX4_takeNumber_85 : decode cX4_takeNumber 85 = .ok (.getfield 34, 3) := by decide +kernel
theorem dX4_takeNumber_88 : decode cX4_takeNumber 88 = .ok (.isub, 1) := by decide +kernel
theorem dX4_takeNumber_89 : decode cX4_takeNumber 89 = .ok (.iconst 1, 1) := by decide +kernel
theorem dX4_takeNumber_90 : decode cX4_takeNumber 90 = .ok (.if_icmp .le 7, 3) := by decide +kernel
theorem dX4_takeNumber_93 : decode cX4_takeNumber 93 = .ok (.iconst 1, 1) := by decide +kernel
theorem dX4_takeNumber_94 : decode cX4_takeNumber 94 = .ok (.goto 4, 3) := by decide +kernel
theorem dX4_takeNumber_97 : decode cX4_takeNumber 97 = .ok (.iconst 0, 1) := by decide +kernel
theorem dX4_takeNumber_98 : decode cX4_takeNumber 98 = .ok (.istore_n 1, 1) := by decide +kernel
theorem dX4_takeNumber_99 : decode cX4_takeNumber 99 = .ok (.aload_n 0, 1) := by decide +kernel
theorem dX4_takeNumber_100 : decode cX4_takeNumber 100 = .ok (.iload_n 1, 1) := by decide +kernel
theorem dX4_takeNumber_101 : decode cX4_takeNumber 101 = .ok (.ifCond .eq 7, 3) := by decide +kernel
theorem dX4_takeNumber_104 : decode cX4_takeNumber 104 = .ok (.iconst 1, 1) := by decide +kernel
theorem dX4_takeNumber_105 : decode cX4_takeNumber 105 = .ok (.goto 4, 3) := by decide +kernel
theorem dX4_takeNumber_108 : decode cX4_takeNumber 108 = .ok (.iconst 3, 1) := by decide +kernel
theorem dX4_takeNumber_109 : decode cX4_takeNumber 109 = .ok (.putfield 40, 3) := by decide +kernel
theorem dX4_takeNumber_112 : decode cX4_takeNumber 112 = .ok (.return_, 1) := by decide +kernel
theorem dX4_takeSign_0 : decode cX4_takeSign 0 = .ok (.aload_n 0, 1) := by decide +kernel
theorem dX4_takeSign_1 : decode cX4_takeSign 1 = .ok (.dup, 1) := by decide +kernel
theorem dX4_takeSign_2 : decode cX4_takeSign 2 = .ok (.getfield 21, 3) := by decide +kernel
theorem dX4_takeSign_5 : decode cX4_takeSign 5 = .ok (.iconst 1, 1) := by decide +kernel
theorem dX4_takeSign_6 : decode cX4_takeSign 6 = .ok (.iadd, 1) := by decide +kernel
theorem dX4_takeSign_7 : decode cX4_takeSign 7 = .ok (.putfield 21, 3) := by decide +kernel
theorem dX4_takeSign_10 : decode cX4_takeSign 10 = .ok (.iload_n 1, 1) := by decide +kernel
theorem dX4_takeSign_11 : decode cX4_takeSign 11 = .ok (.bipush 65, 2) := by decide +kernel
theorem dX4_takeSign_13 : decode cX4_takeSign 13 = .ok (.if_icmp .lt 25, 3) := by decide +kernel
theorem dX4_takeSign_16 : decode cX4_takeSign 16 = .ok (.iload_n 1, 1) := by decide +kernel
theorem dX4_takeSign_17 : decode cX4_takeSign 17 = .ok (.bipush 69, 2) := by decide +kernel
theorem dX4_takeSign_19 : decode cX4_takeSign 19 = .ok (.if_icmp .ge 19, 3) := by decide +kernel
theorem dX4_takeSign_22 : decode cX4_takeSign 22 = .ok (.aload_n 0, 1) := by decide +kernel
theorem dX4_takeSign_23 : decode cX4_takeSign 23 = .ok (.iconst 4, 1) := by decide +kernel
theorem dX4_takeSign_24 : decode cX4_takeSign 24 = .ok (.putfield 40, 3) := by decide +kernel
theorem dX4_takeSign_27 : decode cX4_takeSign 27 = .ok (.aload_n 0, 1) := by decide +kernel
theorem dX4_takeSign_28 : decode cX4_takeSign 28 = .ok (.iload_n 1, 1) := by decide +kernel
theorem dX4_takeSign_29 : decode cX4_takeSign 29 = .ok (.bipush 65, 2) := by decide +kernel
theorem dX4_takeSign_31 : decode cX4_takeSign 31 = .ok (.isub, 1) := by decide +kernel
theorem dX4_takeSign_32 : decode cX4_takeSign 32 = .ok (.putfield 37, 3) := by decide +kernel
theorem dX4_takeSign_35 : decode cX4_takeSign 35 = .ok (.goto 52, 3) := by decide +kernel
theorem dX4_takeSign_38 : decode cX4_takeSign 38 = .ok (.iload_n 1, 1) := by decide +kernel
theorem dX4_takeSign_39 : decode cX4_takeSign 39 = .ok (.bipush 58, 2) := by decide +kernel
theorem dX4_takeSign_41 : decode cX4_takeSign 41 = .ok (.if_icmp .eq 33, 3) := by decide +kernel
theorem dX4_takeSign_44 : decode cX4_takeSign 44 = .ok (.iload_n 1, 1) := by decide +kernel
theorem dX4_takeSign_45 : decode cX4_takeSign 45 = .ok (.bipush 124, 2) := by decide +kernel
theorem dX4_takeSign_47 : decode cX4_takeSign 47 = .ok (.if_icmp .eq 27, 3) := by decide +kernel
theorem dX4_takeSign_50 : decode cX4_takeSign 50 = .ok (.iload_n 1, 1) := by decide +kernel
theorem dX4_takeSign_51 : decode cX4_takeSign 51 = .ok (.bipush 38, 2) := by decide +kernel
theorem dX4_takeSign_53 : decode cX4_takeSign 53 = .ok (.if_icmp .eq 21, 3) := by decide +kernel
theorem dX4_takeSign_56 : decode cX4_takeSign 56 = .ok (.iload_n 1, 1) := by decide +kernel
theorem dX4_takeSign_57 : decode cX4_takeSign 57 = .ok (.bipush 33, 2) := by decide +kernel
theorem dX4_takeSign_59 : decode cX4_takeSign 59 = .ok (.if_icmp .eq 15, 3) := by decide +kernel
theorem dX4_takeSign_62 : decode cX4_takeSign 62 = .ok (.iload_n 1, 1) := by decide +kernel
theorem dX4_takeSign_63 : decode cX4_takeSign 63 = .ok (.bipush 40, 2) := by decide +kernel
theorem dX4_takeSign_65 : decode cX4_takeSign 65 = .ok (.if_icmp .eq 9, 3) := by decide +kernel
theorem dX4_takeSign_68 : decode cX4_takeSign 68 = .ok (.iload_n 1, 1) := by decide +kernel
theorem dX4_takeSign_69 : decode cX4_takeSign 69 = .ok (.bipush 41, 2) := by decide +kernel
theorem dX4_takeSign_71 : decode cX4_takeSign 71 = .ok (.if_icmp .ne 11, 3) := by decide +kernel
theorem dX4_takeSign_74 : decode cX4_takeSign 74 = .ok (.aload_n 0, 1) := by decide +kernel
theorem dX4_takeSign_75 : decode cX4_takeSign 75 = .ok (.iload_n 1, 1) := by decide +kernel
theorem dX4_takeSign_76 : decode cX4_takeSign 76 = .ok (.putfield 40, 3) := by decide +kernel
theorem dX4_takeSign_79 : decode cX4_takeSign 79 = .ok (.goto 8, 3) := by decide +kernel
theorem dX4_takeSign_82 : decode cX4_takeSign 82 = .ok (.aload_n 0, 1) := by decide +kernel
theorem dX4_takeSign_83 : decode cX4_takeSign 83 = .ok (.iconst 1, 1) := by decide +kernel
theorem dX4_takeSign_84 : decode cX4_takeSign 84 = .ok (.putfield 40, 3) := by decide +kernel
theorem dX4_takeSign_87 : decode cX4_takeSign 87 = .ok (.return_, 1) := by decide +kernel
theorem dX4_byteAt_0 : decode cX4_byteAt 0 = .ok (.iload_n 1, 1) := by decide +kernel
theorem dX4_byteAt_1 : decode cX4_byteAt 1 = .ok (.ifCond .lt 29, 3) := by decide +kernel
theorem dX4_byteAt_4 : decode cX4_byteAt 4 = .ok (.iload_n 1, 1) := by decide +kernel
theorem dX4_byteAt_5 : decode cX4_byteAt 5 = .ok (.aload_n 0, 1) := by decide +kernel
theorem dX4_byteAt_6 : decode cX4_byteAt 6 = .ok (.getfield 15, 3) := by decide +kernel
theorem dX4_byteAt_9 : decode cX4_byteAt 9 = .ok (.if_icmp .ge 21, 3) := by decide +kernel
theorem dX4_byteAt_12 : decode cX4_byteAt 12 = .ok (.iload_n 1, 1) := by decide +kernel
theorem dX4_byteAt_13 : decode cX4_byteAt 13 = .ok (.aload_n 0, 1) := by decide +kernel
theorem dX4_byteAt_14 : decode cX4_byteAt 14 = .ok (.getfield 9, 3) := by decide +kernel
theorem dX4_byteAt_17 : decode cX4_byteAt 17 = .ok (.arraylength, 1) := by decide +kernel
theorem dX4_byteAt_18 : decode cX4_byteAt 18 = .ok (.if_icmp .ge 12, 3) := by decide +kernel
theorem dX4_byteAt_21 : decode cX4_byteAt 21 = .ok (.aload_n 0, 1) := by decide +kernel
theorem dX4_byteAt_22 : decode cX4_byteAt 22 = .ok (.getfield 9, 3) := by decide +kernel
theorem dX4_byteAt_25 : decode cX4_byteAt 25 = .ok (.iload_n 1, 1) := by decide +kernel
theorem dX4_byteAt_26 : decode cX4_byteAt 26 = .ok (.caload, 1) := by decide +kernel
theorem dX4_byteAt_27 : decode cX4_byteAt 27 = .ok (.goto 4, 3) := by decide +kernel
theorem dX4_byteAt_30 : decode cX4_byteAt 30 = .ok (.iconst (-1), 1) := by decide +kernel
theorem dX4_byteAt_31 : decode cX4_byteAt 31 = .ok (.ireturn, 1) := by decide +kernel
theorem dX4_isLetter_0 : decode cX4_isLetter 0 = .ok (.iload_n 0, 1) := by decide +kernel
theorem dX4_isLetter_1 : decode cX4_isLetter 1 = .ok (.bipush 97, 2) := by decide +kernel
theorem dX4_isLetter_3 : decode cX4_isLetter 3 = .ok (.if_icmp .lt 13, 3) := by decide +kernel
theorem dX4_isLetter_6 : decode cX4_isLetter 6 = .ok (.iload_n 0, 1) := by decide +kernel
theorem dX4_isLetter_7 : decode cX4_isLetter 7 = .ok (.bipush 122, 2) := by decide +kernel
theorem dX4_isLetter_9 : decode cX4_isLetter 9 = .ok (.if_icmp .gt 7, 3) := by decide +kernel
theorem dX4_isLetter_12 : decode cX4_isLetter 12 = .ok (.iconst 1, 1) := by decide +kernel
theorem dX4_isLetter_13 : decode cX4_isLetter 13 = .ok (.goto 4, 3) := by decide +kernel
theorem dX4_isLetter_16 : decode cX4_isLetter 16 = .ok (.iconst 0, 1) := by decide +kernel
theorem dX4_isLetter_17 : decode cX4_isLetter 17 = .ok (.ireturn, 1) := by decide +kernel
theorem dX4_isFigure_0 : decode cX4_isFigure 0 = .ok (.iload_n 0, 1) := by decide +kernel
theorem dX4_isFigure_1 : decode cX4_isFigure 1 = .ok (.bipush 48, 2) := by decide +kernel
theorem dX4_isFigure_3 : decode cX4_isFigure 3 = .ok (.if_icmp .lt 13, 3) := by decide +kernel
theorem dX4_isFigure_6 : decode cX4_isFigure 6 = .ok (.iload_n 0, 1) := by decide +kernel
theorem dX4_isFigure_7 : decode cX4_isFigure 7 = .ok (.bipush 57, 2) := by decide +kernel
theorem dX4_isFigure_9 : decode cX4_isFigure 9 = .ok (.if_icmp .gt 7, 3) := by decide +kernel
theorem dX4_isFigure_12 : decode cX4_isFigure 12 = .ok (.iconst 1, 1) := by decide +kernel
theorem dX4_isFigure_13 : decode cX4_isFigure 13 = .ok (.goto 4, 3) := by decide +kernel
theorem dX4_isFigure_16 : decode cX4_isFigure 16 = .ok (.iconst 0, 1) := by decide +kernel
theorem dX4_isFigure_17 : decode cX4_isFigure 17 = .ok (.ireturn, 1) := by decide +kernel
theorem dX5_init_0 : decode cX5_init 0 = .ok (.aload_n 0, 1) := by decide +kernel
theorem dX5_init_1 : decode cX5_init 1 = .ok (.invokespecial 3, 3) := by decide +kernel
theorem dX5_init_4 : decode cX5_init 4 = .ok (.aload_n 0, 1) := by decide +kernel
theorem dX5_init_5 : decode cX5_init 5 = .ok (.bipush 6, 2) := by decide +kernel
theorem dX5_init_7 : decode cX5_init 7 = .ok (.newarray .int, 2) := by decide +kernel
theorem dX5_init_9 : decode cX5_init 9 = .ok (.putfield 9, 3) := by decide +kernel
theorem dX5_init_12 : decode cX5_init 12 = .ok (.aload_n 0, 1) := by decide +kernel
theorem dX5_init_13 : decode cX5_init 13 = .ok (.bipush 16, 2) := by decide +kernel
theorem dX5_init_15 : decode cX5_init 15 = .ok (.newarray .int, 2) := by decide +kernel
theorem dX5_init_17 : decode cX5_init 17 = .ok (.putfield 15, 3) := by decide +kernel
theorem dX5_init_20 : decode cX5_init 20 = .ok (.aload_n 0, 1) := by decide +kernel
theorem dX5_init_21 : decode cX5_init 21 = .ok (.bipush 7, 2) := by decide +kernel
theorem dX5_init_23 : decode cX5_init 23 = .ok (.newarray .int, 2) := by decide +kernel
theorem dX5_init_25 : decode cX5_init 25 = .ok (.putfield 18, 3) := by decide +kernel
theorem dX5_init_28 : decode cX5_init 28 = .ok (.return_, 1) := by decide +kernel
theorem dX5_begin_0 : decode cX5_begin 0 = .ok (.iconst 0, 1) := by decide +kernel
theorem dX5_begin_1 : decode cX5_begin 1 = .ok (.istore 4, 2) := by decide +kernel
theorem dX5_begin_3 : decode cX5_begin 3 = .ok (.iload 4, 2) := by decide +kernel
theorem dX5_begin_5 : decode cX5_begin 5 = .ok (.aload_n 0, 1) := by decide +kernel
theorem dX5_begin_6 : decode cX5_begin 6 = .ok (.getfield 15, 3) := by decide +kernel
theorem dX5_begin_9 : decode cX5_begin 9 = .ok (.arraylength, 1) := by decide +kernel
theorem dX5_begin_10 : decode cX5_begin 10 = .ok (.if_icmp .ge 30, 3) := by decide +kernel
theorem dX5_begin_13 : decode cX5_begin 13 = .ok (.aload_n 0, 1) := by decide +kernel
theorem dX5_begin_14 : decode cX5_begin 14 = .ok (.getfield 15, 3) := by decide +kernel
theorem dX5_begin_17 : decode cX5_begin 17 = .ok (.iload 4, 2) := by decide +kernel
theorem dX5_begin_19 : decode cX5_begin 19 = .ok (.aload_n 3, 1) := by decide +kernel
theorem dX5_begin_20 : decode cX5_begin 20 = .ok (.ifnonnull 7, 3) := by decide +kernel
theorem dX5_begin_23 : decode cX5_begin 23 = .ok (.iconst 0, 1) := by decide +kernel
theorem dX5_begin_24 : decode cX5_begin 24 = .ok (.goto 9, 3) := by decide +kernel
theorem dX5_begin_27 : decode cX5_begin 27 = .ok (.aload_n 3, 1) := by decide +kernel
theorem dX5_begin_28 : decode cX5_begin 28 = .ok (.iload 4, 2) := by decide +kernel
theorem dX5_begin_30 : decode cX5_begin 30 = .ok (.invokevirtual 21, 3) := by decide +kernel
theorem dX5_begin_33 : decode cX5_begin 33 = .ok (.iastore, 1) := by decide +kernel
theorem dX5_begin_34 : decode cX5_begin 34 = .ok (.iinc 4 1, 3) := by decide +kernel
theorem dX5_begin_37 : decode cX5_begin 37 = .ok (.goto (-34), 3) := by decide +kernel
theorem dX5_begin_40 : decode cX5_begin 40 = .ok (.aload_n 0, 1) := by decide +kernel
theorem dX5_begin_41 : decode cX5_begin 41 = .ok (.iload_n 1, 1) := by decide +kernel
theorem dX5_begin_42 : decode cX5_begin 42 = .ok (.aload_n 0, 1) := by decide +kernel
theorem dX5_begin_43 : decode cX5_begin 43 = .ok (.getfield 15, 3) := by decide +kernel
theorem dX5_begin_46 : decode cX5_begin 46 = .ok (.arraylength, 1) := by decide +kernel
theorem dX5_begin_47 : decode cX5_begin 47 = .ok (.invokestatic 27, 3) := by decide +kernel
theorem dX5_begin_50 : decode cX5_begin 50 = .ok (.putfield 33, 3) := by decide +kernel
theorem dX5_begin_53 : decode cX5_begin 53 = .ok (.aload_n 0, 1) := by decide +kernel
theorem dX5_begin_54 : decode cX5_begin 54 = .ok (.iload_n 2, 1) := by decide +kernel
theorem dX5_begin_55 : decode cX5_begin 55 = .ok (.aload_n 0, 1) := by decide +kernel
theorem dX5_begin_56 : decode cX5_begin 56 = .ok (.getfield 9, 3) := by decide +kernel
theorem dX5_begin_59 : decode cX5_begin 59 = .ok (.arraylength, 1) := by decide +kernel
theorem dX5_begin_60 : decode cX5_begin 60 = .ok (.invokestatic 27, 3) := by decide +kernel
theorem dX5_begin_63 : decode cX5_begin 63 = .ok (.putfield 37, 3) := by decide +kernel
theorem dX5_begin_66 : decode cX5_begin 66 = .ok (.aload_n 0, 1) := by decide +kernel
theorem dX5_begin_67 : decode cX5_begin 67 = .ok (.iconst 0, 1) := by decide +kernel
theorem dX5_begin_68 : decode cX5_begin 68 = .ok (.putfield 40, 3) := by decide +kernel
theorem dX5_begin_71 : decode cX5_begin 71 = .ok (.return_, 1) := by decide +kernel
theorem dX5_advance_0 : decode cX5_advance 0 = .ok (.aload_n 0, 1) := by decide +kernel
theorem dX5_advance_1 : decode cX5_advance 1 = .ok (.getfield 40, 3) := by decide +kernel
theorem dX5_advance_4 : decode cX5_advance 4 = .ok (.iconst 1, 1) := by decide +kernel
theorem dX5_advance_5 : decode cX5_advance 5 = .ok (.isub, 1) := by decide +kernel
theorem dX5_advance_6 : decode cX5_advance 6 = .ok (.istore_n 1, 1) := by decide +kernel
theorem dX5_advance_7 : decode cX5_advance 7 = .ok (.iload_n 1, 1) := by decide +kernel
theorem dX5_advance_8 : decode cX5_advance 8 = .ok (.ifCond .lt 33, 3) := by decide +kernel
theorem dX5_advance_11 : decode cX5_advance 11 = .ok (.iload_n 1, 1) := by decide +kernel
theorem dX5_advance_12 : decode cX5_advance 12 = .ok (.aload_n 0, 1) := by decide +kernel
theorem dX5_advance_13 : decode cX5_advance 13 = .ok (.getfield 9, 3) := by decide +kernel
theorem dX5_advance_16 : decode cX5_advance 16 = .ok (.arraylength, 1) := by decide +kernel
theorem dX5_advance_17 : decode cX5_advance 17 = .ok (.if_icmp .ge 24, 3) := by decide +kernel
theorem dX5_advance_20 : decode cX5_advance 20 = .ok (.aload_n 0, 1) := by decide +kernel
theorem dX5_advance_21 : decode cX5_advance 21 = .ok (.getfield 9, 3) := by decide +kernel
theorem dX5_advance_24 : decode cX5_advance 24 = .ok (.iload_n 1, 1) := by decide +kernel
theorem dX5_advance_25 : decode cX5_advance 25 = .ok (.iaload, 1) := by decide +kernel
theorem dX5_advance_26 : decode cX5_advance 26 = .ok (.aload_n 0, 1) := by decide +kernel
theorem dX5_advance_27 : decode cX5_advance 27 = .ok (.getfield 33, 3) := by decide +kernel
theorem dX5_advance_30 : decode cX5_advance 30 = .ok (.iconst 1, 1) := by decide +kernel
theorem dX5_advance_31 : decode cX5_advance 31 = .ok (.isub, 1) := by decide +kernel
theorem dX5_advance_32 : decode cX5_advance 32 = .ok (.if_icmp .lt 9, 3) := by decide +kernel
theorem dX5_advance_35 : decode cX5_advance 35 = .ok (.iinc 1 (-1), 3) := by decide +kernel
theorem dX5_advance_38 : decode cX5_advance 38 = .ok (.goto (-31), 3) := by decide +kernel
theorem dX5_advance_41 : decode cX5_advance 41 = .ok (.iload_n 1, 1) := by decide +kernel
theorem dX5_advance_42 : decode cX5_advance 42 = .ok (.ifCond .lt 27, 3) := by decide +kernel
theorem dX5_advance_45 : decode cX5_advance 45 = .ok (.iload_n 1, 1) := by decide +kernel
theorem dX5_advance_46 : decode cX5_advance 46 = .ok (.aload_n 0, 1) := by decide +kernel
theorem dX5_advance_47 : decode cX5_advance 47 = .ok (.getfield 9, 3) := by decide +kernel
theorem dX5_advance_50 : decode cX5_advance 50 = .ok (.arraylength, 1) := by decide +kernel
theorem dX5_advance_51 : decode cX5_advance 51 = .ok (.if_icmp .ge 18, 3) := by decide +kernel
theorem dX5_advance_54 : decode cX5_advance 54 = .ok (.aload_n 0, 1) := by decide +kernel
theorem dX5_advance_55 : decode cX5_advance 55 = .ok (.iload_n 1, 1) := by decide +kernel
theorem dX5_advance_56 : decode cX5_advance 56 = .ok (.aload_n 0, 1) := by decide +kernel
theorem dX5_advance_57 : decode cX5_advance 57 = .ok (.getfield 9, 3) := by decide +kernel
theorem dX5_advance_60 : decode cX5_advance 60 = .ok (.iload_n 1, 1) := by decide +kernel
theorem dX5_advance_61 : decode cX5_advance 61 = .ok (.iaload, 1) := by decide +kernel
theorem dX5_advance_62 : decode cX5_advance 62 = .ok (.iconst 1, 1) := by decide +kernel
theorem dX5_advance_63 : decode cX5_advance 63 = .ok (.iadd, 1) := by decide +kernel
theorem dX5_advance_64 : decode cX5_advance 64 = .ok (.invokevirtual 43, 3) := by decide +kernel
theorem dX5_advance_67 : decode cX5_advance 67 = .ok (.iconst 1, 1) := by decide +kernel
theorem dX5_advance_68 : decode cX5_advance 68 = .ok (.ireturn, 1) := by decide +kernel
theorem dX5_advance_69 : decode cX5_advance 69 = .ok (.aload_n 0, 1) := by decide +kernel
theorem dX5_advance_70 : decode cX5_advance 70 = .ok (.getfield 40, 3) := by decide +kernel
theorem dX5_advance_73 : decode cX5_advance 73 = .ok (.aload_n 0, 1) := by decide +kernel
theorem dX5_advance_74 : decode cX5_advance 74 = .ok (.getfield 37, 3) := by decide +kernel
theorem dX5_advance_77 : decode cX5_advance 77 = .ok (.if_icmp .lt 5, 3) := by decide +kernel
theorem dX5_advance_80 : decode cX5_advance 80 = .ok (.iconst 0, 1) := by decide +kernel
theorem dX5_advance_81 : decode cX5_advance 81 = .ok (.ireturn, 1) := by decide +kernel
theorem dX5_advance_82 : decode cX5_advance 82 = .ok (.aload_n 0, 1) := by decide +kernel
theorem dX5_advance_83 : decode cX5_advance 83 = .ok (.dup, 1) := by decide +kernel
theorem dX5_advance_84 : decode cX5_advance 84 = .ok (.getfield 40, 3) := by decide +kernel
theorem dX5_advance_87 : decode cX5_advance 87 = .ok (.iconst 1, 1) := by decide +kernel
theorem dX5_advance_88 : decode cX5_advance 88 = .ok (.iadd, 1) := by decide +kernel
theorem dX5_advance_89 : decode cX5_advance 89 = .ok (.putfield 40, 3) := by decide +kernel
theorem dX5_advance_92 : decode cX5_advance 92 = .ok (.aload_n 0, 1) := by decide +kernel
theorem dX5_advance_93 : decode cX5_advance 93 = .ok (.iconst 0, 1) := by decide +kernel
theorem dX5_advance_94 : decode cX5_advance 94 = .ok (.iconst 0, 1) := by decide +kernel
theorem dX5_advance_95 : decode cX5_advance 95 = .ok (.invokevirtual 43, 3) := by decide +kernel
theorem dX5_advance_98 : decode cX5_advance 98 = .ok (.iconst 1, 1) := by decide +kernel
theorem dX5_advance_99 : decode cX5_advance 99 = .ok (.ireturn, 1) := by decide +kernel
theorem dX5_fillFrom_0 : decode cX5_fillFrom 0 = .ok (.iload_n 2, 1) := by decide +kernel
theorem dX5_fillFrom_1 : decode cX5_fillFrom 1 = .ok (.ifCond .lt 21, 3) := by decide +kernel
theorem dX5_fillFrom_4 : decode cX5_fillFrom 4 = .ok (.iload_n 2, 1) := by decide +kernel
theorem dX5_fillFrom_5 : decode cX5_fillFrom 5 = .ok (.aload_n 0, 1) := by decide +kernel
theorem dX5_fillFrom_6 : decode cX5_fillFrom 6 = .ok (.getfield 15, 3) := by decide +kernel
theorem dX5_fillFrom_9 : decode cX5_fillFrom 9 = .ok (.arraylength, 1) := by decide +kernel
theorem dX5_fillFrom_10 : decode cX5_fillFrom 10 = .ok (.if_icmp .ge 12, 3) := by decide +kernel
theorem dX5_fillFrom_13 : decode cX5_fillFrom 13 = .ok (.aload_n 0, 1) := by decide +kernel
theorem dX5_fillFrom_14 : decode cX5_fillFrom 14 = .ok (.getfield 15, 3) := by decide +kernel
theorem dX5_fillFrom_17 : decode cX5_fillFrom 17 = .ok (.iload_n 2, 1) := by decide +kernel
theorem dX5_fillFrom_18 : decode cX5_fillFrom 18 = .ok (.iaload, 1) := by decide +kernel
theorem dX5_fillFrom_19 : decode cX5_fillFrom 19 = .ok (.goto 4, 3) := by decide +kernel
theorem dX5_fillFrom_22 : decode cX5_fillFrom 22 = .ok (.iconst 0, 1) := by decide +kernel
theorem dX5_fillFrom_23 : decode cX5_fillFrom 23 = .ok (.istore_n 3, 1) := by decide +kernel
theorem dX5_fillFrom_24 : decode cX5_fillFrom 24 = .ok (.iload_n 1, 1) := by decide +kernel
theorem dX5_fillFrom_25 : decode cX5_fillFrom 25 = .ok (.istore 4, 2) := by decide +kernel
theorem dX5_fillFrom_27 : decode cX5_fillFrom 27 = .ok (.iload 4, 2) := by decide +kernel
theorem dX5_fillFrom_29 : decode cX5_fillFrom 29 = .ok (.ifCond .lt 66, 3) := by decide +kernel
theorem dX5_fillFrom_32 : decode cX5_fillFrom 32 = .ok (.iload 4, 2) := by decide +kernel
theorem dX5_fillFrom_34 : decode cX5_fillFrom 34 = .ok (.aload_n 0, 1) := by decide +kernel
theorem dX5_fillFrom_35 : decode cX5_fillFrom 35 = .ok (.getfield 40, 3) := by decide +kernel
theorem dX5_fillFrom_38 : decode cX5_fillFrom 38 = .ok (.if_icmp .ge 57, 3) := by decide +kernel
theorem dX5_fillFrom_41 : decode cX5_fillFrom 41 = .ok (.iload 4, 2) := by decide +kernel
theorem dX5_fillFrom_43 : decode cX5_fillFrom 43 = .ok (.aload_n 0, 1) := by decide +kernel
theorem dX5_fillFrom_44 : decode cX5_fillFrom 44 = .ok (.getfield 9, 3) := by decide +kernel
theorem dX5_fillFrom_47 : decode cX5_fillFrom 47 = .ok (.arraylength, 1) := by decide +kernel
theorem dX5_fillFrom_48 : decode cX5_fillFrom 48 = .ok (.if_icmp .ge 47, 3) := by decide +kernel
theorem dX5_fillFrom_51 : decode cX5_fillFrom 51 = .ok (.iload 4, 2) := by decide +kernel
theorem dX5_fillFrom_53 : decode cX5_fillFrom 53 = .ok (.iconst 1, 1) := by decide +kernel
theorem dX5_fillFrom_54 : decode cX5_fillFrom 54 = .ok (.iadd, 1) := by decide +kernel
theorem dX5_fillFrom_55 : decode cX5_fillFrom 55 = .ok (.aload_n 0, 1) := by decide +kernel
theorem dX5_fillFrom_56 : decode cX5_fillFrom 56 = .ok (.getfield 18, 3) := by decide +kernel
theorem dX5_fillFrom_59 : decode cX5_fillFrom 59 = .ok (.arraylength, 1) := by decide +kernel
theorem dX5_fillFrom_60 : decode cX5_fillFrom 60 = .ok (.if_icmp .ge 35, 3) := by decide +kernel
theorem dX5_fillFrom_63 : decode cX5_fillFrom 63 = .ok (.aload_n 0, 1) := by decide +kernel
theorem dX5_fillFrom_64 : decode cX5_fillFrom 64 = .ok (.getfield 9, 3) := by decide +kernel
theorem dX5_fillFrom_67 : decode cX5_fillFrom 67 = .ok (.iload 4, 2) := by decide +kernel
theorem dX5_fillFrom_69 : decode cX5_fillFrom 69 = .ok (.iload_n 2, 1) := by decide +kernel
theorem dX5_fillFrom_70 : decode cX5_fillFrom 70 = .ok (.iastore, 1) := by decide +kernel
theorem dX5_fillFrom_71 : decode cX5_fillFrom 71 = .ok (.aload_n 0, 1) := by decide +kernel
theorem dX5_fillFrom_72 : decode cX5_fillFrom 72 = .ok (.getfield 18, 3) := by decide +kernel
theorem dX5_fillFrom_75 : decode cX5_fillFrom 75 = .ok (.iload 4, 2) := by decide +kernel
theorem dX5_fillFrom_77 : decode cX5_fillFrom 77 = .ok (.iconst 1, 1) := by decide +kernel
theorem dX5_fillFrom_78 : decode cX5_fillFrom 78 = .ok (.iadd, 1) := by decide +kernel
theorem dX5_fillFrom_79 : decode cX5_fillFrom 79 = .ok (.aload_n 0, 1) := by decide +kernel
theorem dX5_fillFrom_80 : decode cX5_fillFrom 80 = .ok (.getfield 18, 3) := by decide +kernel
theorem dX5_fillFrom_83 : decode cX5_fillFrom 83 = .ok (.iload 4, 2) := by decide +kernel
theorem dX5_fillFrom_85 : decode cX5_fillFrom 85 = .ok (.iaload, 1) := by decide +kernel
theorem dX5_fillFrom_86 : decode cX5_fillFrom 86 = .ok (.iload_n 3, 1) := by decide +kernel
theorem dX5_fillFrom_87 : decode cX5_fillFrom 87 = .ok (.iadd, 1) := by decide +kernel
theorem dX5_fillFrom_88 : decode cX5_fillFrom 88 = .ok (.iastore, 1) := by decide +kernel
theorem dX5_fillFrom_89 : decode cX5_fillFrom 89 = .ok (.iinc 4 1, 3) := by decide +kernel
theorem dX5_fillFrom_92 : decode cX5_fillFrom 92 = .ok (.goto (-65), 3) := by decide +kernel
theorem dX5_fillFrom_95 : decode cX5_fillFrom 95 = .ok (.return_, 1) := by decide +kernel
theorem dX5_sum_0 : decode cX5_sum 0 = .ok (.aload_n 0, 1) := by decide +kernel
theorem dX5_sum_1 : decode cX5_sum 1 = .ok (.getfield 40, 3) := by decide +kernel
theorem dX5_sum_4 : decode cX5_sum 4 = .ok (.ifCond .lt 27, 3) := by decide +kernel
theorem dX5_sum_7 : decode cX5_sum 7 = .ok (.aload_n 0, 1) := by decide +kernel
theorem dX5_sum_8 : decode cX5_sum 8 = .ok (.getfield 40, 3) := by decide +kernel
theorem dX5_sum_11 : decode cX5_sum 11 = .ok (.aload_n 0, 1) := by decide +kernel
theorem dX5_sum_12 : decode cX5_sum 12 = .ok (.getfield 18, 3) := by decide +kernel
theorem dX5_sum_15 : decode cX5_sum 15 = .ok (.arraylength, 1) := by decide +kernel
theorem dX5_sum_16 : decode cX5_sum 16 = .ok (.if_icmp .ge 15, 3) := by decide +kernel
theorem dX5_sum_19 : decode cX5_sum 19 = .ok (.aload_n 0, 1) := by decide +kernel
theorem dX5_sum_20 : decode cX5_sum 20 = .ok (.getfield 18, 3) := by decide +kernel
theorem dX5_sum_23 : decode cX5_sum 23 = .ok (.aload_n 0, 1) := by decide +kernel
theorem dX5_sum_24 : decode cX5_sum 24 = .ok (.getfield 40, 3) := by decide +kernel
theorem dX5_sum_27 : decode cX5_sum 27 = .ok (.iaload, 1) := by decide +kernel
theorem dX5_sum_28 : decode cX5_sum 28 = .ok (.goto 4, 3) := by decide +kernel
theorem dX5_sum_31 : decode cX5_sum 31 = .ok (.iconst 0, 1) := by decide +kernel
theorem dX5_sum_32 : decode cX5_sum 32 = .ok (.ireturn, 1) := by decide +kernel
theorem dX5_witnessed_0 : decode cX5_witnessed 0 = .ok (.lconst 0, 1) := by decide +kernel
theorem dX5_witnessed_1 : decode cX5_witnessed 1 = .ok (.lstore_n 2, 1) := by decide +kernel
theorem dX5_witnessed_2 : decode cX5_witnessed 2 = .ok (.iconst 0, 1) := by decide +kernel
theorem dX5_witnessed_3 : decode cX5_witnessed 3 = .ok (.istore 4, 2) := by decide +kernel
theorem dX5_witnessed_5 : decode cX5_witnessed 5 = .ok (.iload 4, 2) := by decide +kernel
theorem dX5_witnessed_7 : decode cX5_witnessed 7 = .ok (.aload_n 0, 1) := by decide +kernel
theorem dX5_witnessed_8 : decode cX5_witnessed 8 = .ok (.getfield 40, 3) := by decide +kernel
theorem dX5_witnessed_11 : decode cX5_witnessed 11 = .ok (.if_icmp .ge 47, 3) := by decide +kernel
theorem dX5_witnessed_14 : decode cX5_witnessed 14 = .ok (.iload 4, 2) := by decide +kernel
theorem dX5_witnessed_16 : decode cX5_witnessed 16 = .ok (.aload_n 0, 1) := by decide +kernel
theorem dX5_witnessed_17 : decode cX5_witnessed 17 = .ok (.getfield 9, 3) := by decide +kernel
theorem dX5_witnessed_20 : decode cX5_witnessed 20 = .ok (.arraylength, 1) := by decide +kernel
theorem dX5_witnessed_21 : decode cX5_witnessed 21 = .ok (.if_icmp .ge 37, 3) := by decide +kernel
theorem dX5_witnessed_24 : decode cX5_witnessed 24 = .ok (.aload_n 0, 1) := by decide +kernel
theorem dX5_witnessed_25 : decode cX5_witnessed 25 = .ok (.getfield 9, 3) := by decide +kernel
theorem dX5_witnessed_28 : decode cX5_witnessed 28 = .ok (.iload 4, 2) := by decide +kernel
theorem dX5_witnessed_30 : decode cX5_witnessed 30 = .ok (.iaload, 1) := by decide +kernel
theorem dX5_witnessed_31 : decode cX5_witnessed 31 = .ok (.istore 5, 2) := by decide +kernel
theorem dX5_witnessed_33 : decode cX5_witnessed 33 = .ok (.iload 5, 2) := by decide +kernel
theorem dX5_witnessed_35 : decode cX5_witnessed 35 = .ok (.ifCond .lt 17, 3) := by decide +kernel
theorem dX5_witnessed_38 : decode cX5_witnessed 38 = .ok (.iload 5, 2) := by decide +kernel
theorem dX5_witnessed_40 : decode cX5_witnessed 40 = .ok (.aload_n 1, 1) := by decide +kernel
theorem dX5_witnessed_41 : decode cX5_witnessed 41 = .ok (.arraylength, 1) := by decide +kernel
theorem dX5_witnessed_42 : decode cX5_witnessed 42 = .ok (.if_icmp .ge 10, 3) := by decide +kernel
theorem dX5_witnessed_45 : decode cX5_witnessed 45 = .ok (.lload_n 2, 1) := by decide +kernel
theorem dX5_witnessed_46 : decode cX5_witnessed 46 = .ok (.aload_n 1, 1) := by decide +kernel
theorem dX5_witnessed_47 : decode cX5_witnessed 47 = .ok (.iload 5, 2) := by decide +kernel
theorem dX5_witnessed_49 : decode cX5_witnessed 49 = .ok (.laload, 1) := by decide +kernel
theorem dX5_witnessed_50 : decode cX5_witnessed 50 = .ok (.lor, 1) := by decide +kernel
theorem dX5_witnessed_51 : decode cX5_witnessed 51 = .ok (.lstore_n 2, 1) := by decide +kernel
theorem dX5_witnessed_52 : decode cX5_witnessed 52 = .ok (.iinc 4 1, 3) := by decide +kernel
theorem dX5_witnessed_55 : decode cX5_witnessed 55 = .ok (.goto (-50), 3) := by decide +kernel
theorem dX5_witnessed_58 : decode cX5_witnessed 58 = .ok (.lload_n 2, 1) := by decide +kernel
theorem dX5_witnessed_59 : decode cX5_witnessed 59 = .ok (.lreturn, 1) := by decide +kernel
theorem dX6_init_0 : decode cX6_init 0 = .ok (.aload_n 0, 1) := by decide +kernel
theorem dX6_init_1 : decode cX6_init 1 = .ok (.invokespecial 3, 3) := by decide +kernel
theorem dX6_init_4 : decode cX6_init 4 = .ok (.aload_n 0, 1) := by decide +kernel
theorem dX6_init_5 : decode cX6_init 5 = .ok (.bipush 10, 2) := by decide +kernel
theorem dX6_init_7 : decode cX6_init 7 = .ok (.anewarray 9, 3) := by decide +kernel
theorem dX6_init_10 : decode cX6_init 10 = .ok (.putfield 11, 3) := by decide +kernel
theorem dX6_init_13 : decode cX6_init 13 = .ok (.aload_n 0, 1) := by decide +kernel
theorem dX6_init_14 : decode cX6_init 14 = .ok (.bipush 16, 2) := by decide +kernel
theorem dX6_init_16 : decode cX6_init 16 = .ok (.newarray .int, 2) := by decide +kernel
theorem dX6_init_18 : decode cX6_init 18 = .ok (.putfield 15, 3) := by decide +kernel
theorem dX6_init_21 : decode cX6_init 21 = .ok (.aload_n 0, 1) := by decide +kernel
theorem dX6_init_22 : decode cX6_init 22 = .ok (.new 19, 3) := by decide +kernel
theorem dX6_init_25 : decode cX6_init 25 = .ok (.dup, 1) := by decide +kernel
theorem dX6_init_26 : decode cX6_init 26 = .ok (.invokespecial 21, 3) := by decide +kernel
theorem dX6_init_29 : decode cX6_init 29 = .ok (.putfield 22, 3) := by decide +kernel
theorem dX6_init_32 : decode cX6_init 32 = .ok (.aload_n 0, 1) := by decide +kernel
theorem dX6_init_33 : decode cX6_init 33 = .ok (.new 26, 3) := by decide +kernel
theorem dX6_init_36 : decode cX6_init 36 = .ok (.dup, 1) := by decide +kernel
theorem dX6_init_37 : decode cX6_init 37 = .ok (.invokespecial 28, 3) := by decide +kernel
theorem dX6_init_40 : decode cX6_init 40 = .ok (.putfield 29, 3) := by decide +kernel
theorem dX6_init_43 : decode cX6_init 43 = .ok (.aload_n 0, 1) := by decide +kernel
theorem dX6_init_44 : decode cX6_init 44 = .ok (.new 33, 3) := by decide +kernel
theorem dX6_init_47 : decode cX6_init 47 = .ok (.dup, 1) := by decide +kernel
theorem dX6_init_48 : decode cX6_init 48 = .ok (.invokespecial 35, 3) := by decide +kernel
theorem dX6_init_51 : decode cX6_init 51 = .ok (.putfield 36, 3) := by decide +kernel
theorem dX6_init_54 : decode cX6_init 54 = .ok (.aload_n 0, 1) := by decide +kernel
theorem dX6_init_55 : decode cX6_init 55 = .ok (.iconst 3, 1) := by decide +kernel
theorem dX6_init_56 : decode cX6_init 56 = .ok (.putfield 40, 3) := by decide +kernel
theorem dX6_init_59 : decode cX6_init 59 = .ok (.aload_n 0, 1) := by decide +kernel
theorem dX6_init_60 : decode cX6_init 60 = .ok (.iconst 4, 1) := by decide +kernel
theorem dX6_init_61 : decode cX6_init 61 = .ok (.putfield 44, 3) := by decide +kernel
theorem dX6_init_64 : decode cX6_init 64 = .ok (.aload_n 0, 1) := by decide +kernel
theorem dX6_init_65 : decode cX6_init 65 = .ok (.sipush 255, 3) := by decide +kernel
theorem dX6_init_68 : decode cX6_init 68 = .ok (.putfield 47, 3) := by decide +kernel
theorem dX6_init_71 : decode cX6_init 71 = .ok (.iconst 0, 1) := by decide +kernel
theorem dX6_init_72 : decode cX6_init 72 = .ok (.istore_n 1, 1) := by decide +kernel
theorem dX6_init_73 : decode cX6_init 73 = .ok (.iload_n 1, 1) := by decide +kernel
theorem dX6_init_74 : decode cX6_init 74 = .ok (.aload_n 0, 1) := by decide +kernel
theorem dX6_init_75 : decode cX6_init 75 = .ok (.getfield 11, 3) := by decide +kernel
theorem dX6_init_78 : decode cX6_init 78 = .ok (.arraylength, 1) := by decide +kernel
theorem dX6_init_79 : decode cX6_init 79 = .ok (.if_icmp .ge 22, 3) := by decide +kernel
theorem dX6_init_82 : decode cX6_init 82 = .ok (.aload_n 0, 1) := by decide +kernel
theorem dX6_init_83 : decode cX6_init 83 = .ok (.getfield 11, 3) := by decide +kernel
theorem dX6_init_86 : decode cX6_init 86 = .ok (.iload_n 1, 1) := by decide +kernel
theorem dX6_init_87 : decode cX6_init 87 = .ok (.new 9, 3) := by decide +kernel
theorem dX6_init_90 : decode cX6_init 90 = .ok (.dup, 1) := by decide +kernel
theorem dX6_init_91 : decode cX6_init 91 = .ok (.invokespecial 50, 3) := by decide +kernel
theorem dX6_init_94 : decode cX6_init 94 = .ok (.aastore, 1) := by decide +kernel
theorem dX6_init_95 : decode cX6_init 95 = .ok (.iinc 1 1, 3) := by decide +kernel
theorem dX6_init_98 : decode cX6_init 98 = .ok (.goto (-25), 3) := by decide +kernel
theorem dX6_init_101 : decode cX6_init 101 = .ok (.aload_n 0, 1) := by decide +kernel
theorem dX6_init_102 : decode cX6_init 102 = .ok (.invokevirtual 51, 3) := by decide +kernel
theorem dX6_init_105 : decode cX6_init 105 = .ok (.return_, 1) := by decide +kernel
theorem dX6_kinds_0 : decode cX6_kinds 0 = .ok (.iload_n 1, 1) := by decide +kernel
theorem dX6_kinds_1 : decode cX6_kinds 1 = .ok (.iconst 1, 1) := by decide +kernel
theorem dX6_kinds_2 : decode cX6_kinds 2 = .ok (.if_icmp .lt 8, 3) := by decide +kernel
theorem dX6_kinds_5 : decode cX6_kinds 5 = .ok (.iload_n 1, 1) := by decide +kernel
theorem dX6_kinds_6 : decode cX6_kinds 6 = .ok (.iconst 4, 1) := by decide +kernel
theorem dX6_kinds_7 : decode cX6_kinds 7 = .ok (.if_icmp .le 5, 3) := by decide +kernel
theorem dX6_kinds_10 : decode cX6_kinds 10 = .ok (.iconst (-1), 1) := by decide +kernel
theorem dX6_kinds_11 : decode cX6_kinds 11 = .ok (.ireturn, 1) := by decide +kernel
theorem dX6_kinds_12 : decode cX6_kinds 12 = .ok (.aload_n 0, 1) := by decide +kernel
theorem dX6_kinds_13 : decode cX6_kinds 13 = .ok (.getfield 40, 3) := by decide +kernel
theorem dX6_kinds_16 : decode cX6_kinds 16 = .ok (.istore_n 2, 1) := by decide +kernel
theorem dX6_kinds_17 : decode cX6_kinds 17 = .ok (.aload_n 0, 1) := by decide +kernel
theorem dX6_kinds_18 : decode cX6_kinds 18 = .ok (.iload_n 1, 1) := by decide +kernel
theorem dX6_kinds_19 : decode cX6_kinds 19 = .ok (.putfield 40, 3) := by decide +kernel
theorem dX6_kinds_22 : decode cX6_kinds 22 = .ok (.aload_n 0, 1) := by decide +kernel
theorem dX6_kinds_23 : decode cX6_kinds 23 = .ok (.invokevirtual 51, 3) := by decide +kernel
theorem dX6_kinds_26 : decode cX6_kinds 26 = .ok (.iload_n 2, 1) := by decide +kernel
theorem dX6_kinds_27 : decode cX6_kinds 27 = .ok (.ireturn, 1) := by decide +kernel
theorem dX6_most_0 : decode cX6_most 0 = .ok (.iload_n 1, 1) := by decide +kernel
theorem dX6_most_1 : decode cX6_most 1 = .ok (.iconst 1, 1) := by decide +kernel
theorem dX6_most_2 : decode cX6_most 2 = .ok (.if_icmp .lt 9, 3) := by decide +kernel
theorem dX6_most_5 : decode cX6_most 5 = .ok (.iload_n 1, 1) := by decide +kernel
theorem dX6_most_6 : decode cX6_most 6 = .ok (.bipush 6, 2) := by decide +kernel
theorem dX6_most_8 : decode cX6_most 8 = .ok (.if_icmp .le 5, 3) := by decide +kernel
theorem dX6_most_11 : decode cX6_most 11 = .ok (.iconst (-1), 1) := by decide +kernel
theorem dX6_most_12 : decode cX6_most 12 = .ok (.ireturn, 1) := by decide +kernel
theorem dX6_most_13 : decode cX6_most 13 = .ok (.aload_n 0, 1) := by decide +kernel
theorem dX6_most_14 : decode cX6_most 14 = .ok (.getfield 44, 3) := by decide +kernel
theorem dX6_most_17 : decode cX6_most 17 = .ok (.istore_n 2, 1) := by decide +kernel
theorem dX6_most_18 : decode cX6_most 18 = .ok (.aload_n 0, 1) := by decide +kernel
theorem dX6_most_19 : decode cX6_most 19 = .ok (.iload_n 1, 1) := by decide +kernel
theorem dX6_most_20 : decode cX6_most 20 = .ok (.putfield 44, 3) := by decide +kernel
theorem dX6_most_23 : decode cX6_most 23 = .ok (.aload_n 0, 1) := by decide +kernel
theorem dX6_most_24 : decode cX6_most 24 = .ok (.getfield 29, 3) := by decide +kernel
theorem dX6_most_27 : decode cX6_most 27 = .ok (.aload_n 0, 1) := by decide +kernel
theorem dX6_most_28 : decode cX6_most 28 = .ok (.invokevirtual 54, 3) := by decide +kernel
theorem dX6_most_31 : decode cX6_most 31 = .ok (.aload_n 0, 1) := by decide +kernel
theorem dX6_most_32 : decode cX6_most 32 = .ok (.getfield 44, 3) := by decide +kernel
theorem dX6_most_35 : decode cX6_most 35 = .ok (.invokevirtual 58, 3) := by decide +kernel
theorem dX6_most_38 : decode cX6_most 38 = .ok (.iload_n 2, 1) := by decide +kernel
theorem dX6_most_39 : decode cX6_most 39 = .ok (.ireturn, 1) := by decide +kernel
theorem dX6_worlds_0 : decode cX6_worlds 0 = .ok (.aload_n 0, 1) := by decide +kernel
theorem dX6_worlds_1 : decode cX6_worlds 1 = .ok (.getfield 29, 3) := by decide +kernel
theorem dX6_worlds_4 : decode cX6_worlds 4 = .ok (.getfield 62, 3) := by decide +kernel
theorem dX6_worlds_7 : decode cX6_worlds 7 = .ok (.ireturn, 1) := by decide +kernel
theorem dX6_put_0 : decode cX6_put 0 = .ok (.aload_n 0, 1) := by decide +kernel
theorem dX6_put_1 : decode cX6_put 1 = .ok (.iload_n 1, 1) := by decide +kernel
theorem dX6_put_2 : decode cX6_put 2 = .ok (.invokevirtual 65, 3) := by decide +kernel
theorem dX6_put_5 : decode cX6_put 5 = .ok (.ifCond .eq 13, 3) := by decide +kernel
theorem dX6_put_8 : decode cX6_put 8 = .ok (.iload_n 2, 1) := by decide +kernel
theorem dX6_put_9 : decode cX6_put 9 = .ok (.ifCond .lt 9, 3) := by decide +kernel
theorem dX6_put_12 : decode cX6_put 12 = .ok (.iload_n 2, 1) := by decide +kernel
theorem dX6_put_13 : decode cX6_put 13 = .ok (.bipush 6, 2) := by decide +kernel
theorem dX6_put_15 : decode cX6_put 15 = .ok (.if_icmp .le 5, 3) := by decide +kernel
theorem dX6_put_18 : decode cX6_put 18 = .ok (.iconst (-1), 1) := by decide +kernel
theorem dX6_put_19 : decode cX6_put 19 = .ok (.ireturn, 1) := by decide +kernel
theorem dX6_put_20 : decode cX6_put 20 = .ok (.aload_n 0, 1) := by decide +kernel
theorem dX6_put_21 : decode cX6_put 21 = .ok (.getfield 15, 3) := by decide +kernel
theorem dX6_put_24 : decode cX6_put 24 = .ok (.iload_n 1, 1) := by decide +kernel
theorem dX6_put_25 : decode cX6_put 25 = .ok (.iaload, 1) := by decide +kernel
theorem dX6_put_26 : decode cX6_put 26 = .ok (.istore_n 3, 1) := by decide +kernel
theorem dX6_put_27 : decode cX6_put 27 = .ok (.aload_n 0, 1) := by decide +kernel
theorem dX6_put_28 : decode cX6_put 28 = .ok (.invokevirtual 69, 3) := by decide +kernel
theorem dX6_put_31 : decode cX6_put 31 = .ok (.iload_n 3, 1) := by decide +kernel
theorem dX6_put_32 : decode cX6_put 32 = .ok (.isub, 1) := by decide +kernel
theorem dX6_put_33 : decode cX6_put 33 = .ok (.iload_n 2, 1) := by decide +kernel
theorem dX6_put_34 : decode cX6_put 34 = .ok (.iadd, 1) := by decide +kernel
theorem dX6_put_35 : decode cX6_put 35 = .ok (.bipush 6, 2) := by decide +kernel
theorem dX6_put_37 : decode cX6_put 37 = .ok (.if_icmp .le 6, 3) := by decide +kernel
theorem dX6_put_40 : decode cX6_put 40 = .ok (.bipush (-3), 2) := by decide +kernel
theorem dX6_put_42 : decode cX6_put 42 = .ok (.ireturn, 1) := by decide +kernel
theorem dX6_put_43 : decode cX6_put 43 = .ok (.aload_n 0, 1) := by decide +kernel
theorem dX6_put_44 : decode cX6_put 44 = .ok (.getfield 15, 3) := by decide +kernel
theorem dX6_put_47 : decode cX6_put 47 = .ok (.iload_n 1, 1) := by decide +kernel
theorem dX6_put_48 : decode cX6_put 48 = .ok (.iload_n 2, 1) := by decide +kernel
theorem dX6_put_49 : decode cX6_put 49 = .ok (.iastore, 1) := by decide +kernel
theorem dX6_put_50 : decode cX6_put 50 = .ok (.iload_n 3, 1) := by decide +kernel
theorem dX6_put_51 : decode cX6_put 51 = .ok (.ireturn, 1) := by decide +kernel
theorem dX6_holds_0 : decode cX6_holds 0 = .ok (.aload_n 0, 1) := by decide +kernel
theorem dX6_holds_1 : decode cX6_holds 1 = .ok (.iload_n 1, 1) := by decide +kernel
theorem dX6_holds_2 : decode cX6_holds 2 = .ok (.invokevirtual 72, 3) := by decide +kernel
theorem dX6_holds_5 : decode cX6_holds 5 = .ok (.astore_n 2, 1) := by decide +kernel
theorem dX6_holds_6 : decode cX6_holds 6 = .ok (.aload_n 2, 1) := by decide +kernel
theorem dX6_holds_7 : decode cX6_holds 7 = .ok (.ifnonnull 5, 3) := by decide +kernel
theorem dX6_holds_10 : decode cX6_holds 10 = .ok (.iconst (-1), 1) := by decide +kernel
theorem dX6_holds_11 : decode cX6_holds 11 = .ok (.ireturn, 1) := by decide +kernel
theorem dX6_holds_12 : decode cX6_holds 12 = .ok (.aload_n 0, 1) := by decide +kernel
theorem dX6_holds_13 : decode cX6_holds 13 = .ok (.aload_n 2, 1) := by decide +kernel
theorem dX6_holds_14 : decode cX6_holds 14 = .ok (.invokevirtual 76, 3) := by decide +kernel
theorem dX6_holds_17 : decode cX6_holds 17 = .ok (.istore_n 3, 1) := by decide +kernel
theorem dX6_holds_18 : decode cX6_holds 18 = .ok (.aload_n 2, 1) := by decide +kernel
theorem dX6_holds_19 : decode cX6_holds 19 = .ok (.iload_n 3, 1) := by decide +kernel
theorem dX6_holds_20 : decode cX6_holds 20 = .ok (.invokevirtual 80, 3) := by decide +kernel
theorem dX6_holds_23 : decode cX6_holds 23 = .ok (.invokestatic 83, 3) := by decide +kernel
theorem dX6_holds_26 : decode cX6_holds 26 = .ok (.ireturn, 1) := by decide +kernel
theorem dX6_size_0 : decode cX6_size 0 = .ok (.aload_n 0, 1) := by decide +kernel
theorem dX6_size_1 : decode cX6_size 1 = .ok (.iload_n 1, 1) := by decide +kernel
theorem dX6_size_2 : decode cX6_size 2 = .ok (.invokevirtual 72, 3) := by decide +kernel
theorem dX6_size_5 : decode cX6_size 5 = .ok (.astore_n 3, 1) := by decide +kernel
theorem dX6_size_6 : decode cX6_size 6 = .ok (.aload_n 3, 1) := by decide +kernel
theorem dX6_size_7 : decode cX6_size 7 = .ok (.ifnull 12, 3) := by decide +kernel
theorem dX6_size_10 : decode cX6_size 10 = .ok (.iload_n 2, 1) := by decide +kernel
theorem dX6_size_11 : decode cX6_size 11 = .ok (.ifCond .lt 8, 3) := by decide +kernel
theorem dX6_size_14 : decode cX6_size 14 = .ok (.iload_n 2, 1) := by decide +kernel
theorem dX6_size_15 : decode cX6_size 15 = .ok (.iconst 2, 1) := by decide +kernel
theorem dX6_size_16 : decode cX6_size 16 = .ok (.if_icmp .le 5, 3) := by decide +kernel
theorem dX6_size_19 : decode cX6_size 19 = .ok (.iconst (-1), 1) := by decide +kernel
theorem dX6_size_20 : decode cX6_size 20 = .ok (.ireturn, 1) := by decide +kernel
theorem dX6_size_21 : decode cX6_size 21 = .ok (.aload_n 0, 1) := by decide +kernel
theorem dX6_size_22 : decode cX6_size 22 = .ok (.aload_n 3, 1) := by decide +kernel
theorem dX6_size_23 : decode cX6_size 23 = .ok (.invokevirtual 76, 3) := by decide +kernel
theorem dX6_size_26 : decode cX6_size 26 = .ok (.iconst 4, 1) := by decide +kernel
theorem dX6_size_27 : decode cX6_size 27 = .ok (.iload_n 2, 1) := by decide +kernel
theorem dX6_size_28 : decode cX6_size 28 = .ok (.imul, 1) := by decide +kernel
theorem dX6_size_29 : decode cX6_size 29 = .ok (.ishr, 1) := by decide +kernel
theorem dX6_size_30 : decode cX6_size 30 = .ok (.bipush 15, 2) := by decide +kernel
theorem dX6_size_32 : decode cX6_size 32 = .ok (.iand, 1) := by decide +kernel
theorem dX6_size_33 : decode cX6_size 33 = .ok (.ireturn, 1) := by decide +kernel
theorem dX6_type_0 : decode cX6_type 0 = .ok (.iload_n 3, 1) := by decide +kernel
theorem dX6_type_1 : decode cX6_type 1 = .ok (.iconst 1, 1) := by decide +kernel
theorem dX6_type_2 : decode cX6_type 2 = .ok (.if_icmp .lt 9, 3) := by decide +kernel
theorem dX6_type_5 : decode cX6_type 5 = .ok (.iload_n 3, 1) := by decide +kernel
theorem dX6_type_6 : decode cX6_type 6 = .ok (.bipush 8, 2) := by decide +kernel
theorem dX6_type_8 : decode cX6_type 8 = .ok (.if_icmp .le 5, 3) := by decide +kernel
theorem dX6_type_11 : decode cX6_type 11 = .ok (.iconst (-1), 1) := by decide +kernel
theorem dX6_type_12 : decode cX6_type 12 = .ok (.ireturn, 1) := by decide +kernel
theorem dX6_type_13 : decode cX6_type 13 = .ok (.aload_n 0, 1) := by decide +kernel
theorem dX6_type_14 : decode cX6_type 14 = .ok (.getfield 22, 3) := by decide +kernel
theorem dX6_type_17 : decode cX6_type 17 = .ok (.getfield 87, 3) := by decide +kernel
theorem dX6_type_20 : decode cX6_type 20 = .ok (.astore 4, 2) := by decide +kernel
theorem dX6_type_22 : decode cX6_type 22 = .ok (.aload 4, 2) := by decide +kernel
theorem dX6_type_24 : decode cX6_type 24 = .ok (.getfield 91, 3) := by decide +kernel
theorem dX6_type_27 : decode cX6_type 27 = .ok (.iload_n 3, 1) := by decide +kernel
theorem dX6_type_28 : decode cX6_type 28 = .ok (.iadd, 1) := by decide +kernel
theorem dX6_type_29 : decode cX6_type 29 = .ok (.bipush 80, 2) := by decide +kernel
theorem dX6_type_31 : decode cX6_type 31 = .ok (.if_icmp .le 6, 3) := by decide +kernel
theorem dX6_type_34 : decode cX6_type 34 = .ok (.bipush (-3), 2) := by decide +kernel
theorem dX6_type_36 : decode cX6_type 36 = .ok (.ireturn, 1) := by decide +kernel
theorem dX6_type_37 : decode cX6_type 37 = .ok (.aload 4, 2) := by decide +kernel
theorem dX6_type_39 : decode cX6_type 39 = .ok (.lload_n 1, 1) := by decide +kernel
theorem dX6_type_40 : decode cX6_type 40 = .ok (.iload_n 3, 1) := by decide +kernel
theorem dX6_type_41 : decode cX6_type 41 = .ok (.invokevirtual 96, 3) := by decide +kernel
theorem dX6_type_44 : decode cX6_type 44 = .ok (.aload 4, 2) := by decide +kernel
theorem dX6_type_46 : decode cX6_type 46 = .ok (.getfield 91, 3) := by decide +kernel
theorem dX6_type_49 : decode cX6_type 49 = .ok (.ireturn, 1) := by decide +kernel
theorem dX6_clear_0 : decode cX6_clear 0 = .ok (.aload_n 0, 1) := by decide +kernel
theorem dX6_clear_1 : decode cX6_clear 1 = .ok (.getfield 22, 3) := by decide +kernel
theorem dX6_clear_4 : decode cX6_clear 4 = .ok (.getfield 87, 3) := by decide +kernel
theorem dX6_clear_7 : decode cX6_clear 7 = .ok (.getfield 91, 3) := by decide +kernel
theorem dX6_clear_10 : decode cX6_clear 10 = .ok (.istore_n 1, 1) := by decide +kernel
theorem dX6_clear_11 : decode cX6_clear 11 = .ok (.aload_n 0, 1) := by decide +kernel
theorem dX6_clear_12 : decode cX6_clear 12 = .ok (.getfield 22, 3) := by decide +kernel
theorem dX6_clear_15 : decode cX6_clear 15 = .ok (.getfield 87, 3) := by decide +kernel
theorem dX6_clear_18 : decode cX6_clear 18 = .ok (.iconst 0, 1) := by decide +kernel
theorem dX6_clear_19 : decode cX6_clear 19 = .ok (.putfield 91, 3) := by decide +kernel
theorem dX6_clear_22 : decode cX6_clear 22 = .ok (.iload_n 1, 1) := by decide +kernel
theorem dX6_clear_23 : decode cX6_clear 23 = .ok (.ireturn, 1) := by decide +kernel
theorem dX6_read_0 : decode cX6_read 0 = .ok (.aload_n 0, 1) := by decide +kernel
theorem dX6_read_1 : decode cX6_read 1 = .ok (.iload_n 1, 1) := by decide +kernel
theorem dX6_read_2 : decode cX6_read 2 = .ok (.invokevirtual 72, 3) := by decide +kernel
theorem dX6_read_5 : decode cX6_read 5 = .ok (.astore_n 2, 1) := by decide +kernel
theorem dX6_read_6 : decode cX6_read 6 = .ok (.aload_n 2, 1) := by decide +kernel
theorem dX6_read_7 : decode cX6_read 7 = .ok (.ifnonnull 5, 3) := by decide +kernel
theorem dX6_read_10 : decode cX6_read 10 = .ok (.iconst (-1), 1) := by decide +kernel
theorem dX6_read_11 : decode cX6_read 11 = .ok (.ireturn, 1) := by decide +kernel
theorem dX6_read_12 : decode cX6_read 12 = .ok (.aload_n 0, 1) := by decide +kernel
theorem dX6_read_13 : decode cX6_read 13 = .ok (.getfield 22, 3) := by decide +kernel
theorem dX6_read_16 : decode cX6_read 16 = .ok (.aload_n 0, 1) := by decide +kernel
theorem dX6_read_17 : decode cX6_read 17 = .ok (.getfield 40, 3) := by decide +kernel
theorem dX6_read_20 : decode cX6_read 20 = .ok (.invokevirtual 100, 3) := by decide +kernel
theorem dX6_read_23 : decode cX6_read 23 = .ok (.istore_n 3, 1) := by decide +kernel
theorem dX6_read_24 : decode cX6_read 24 = .ok (.iload_n 3, 1) := by decide +kernel
theorem dX6_read_25 : decode cX6_read 25 = .ok (.iconst (-1), 1) := by decide +kernel
theorem dX6_read_26 : decode cX6_read 26 = .ok (.if_icmp .eq 8, 3) := by decide +kernel
theorem dX6_read_29 : decode cX6_read 29 = .ok (.bipush (-10), 2) := by decide +kernel
theorem dX6_read_31 : decode cX6_read 31 = .ok (.iload_n 3, 1) := by decide +kernel
theorem dX6_read_32 : decode cX6_read 32 = .ok (.isub, 1) := by decide +kernel
theorem dX6_read_33 : decode cX6_read 33 = .ok (.ireturn, 1) := by decide +kernel
theorem dX6_read_34 : decode cX6_read 34 = .ok (.aload_n 2, 1) := by decide +kernel
theorem dX6_read_35 : decode cX6_read 35 = .ok (.aload_n 0, 1) := by decide +kernel
theorem dX6_read_36 : decode cX6_read 36 = .ok (.getfield 22, 3) := by decide +kernel
theorem dX6_read_39 : decode cX6_read 39 = .ok (.getfield 104, 3) := by decide +kernel
theorem dX6_read_42 : decode cX6_read 42 = .ok (.invokevirtual 108, 3) := by decide +kernel
theorem dX6_read_45 : decode cX6_read 45 = .ok (.aload_n 0, 1) := by decide +kernel
theorem dX6_read_46 : decode cX6_read 46 = .ok (.getfield 29, 3) := by decide +kernel
theorem dX6_read_49 : decode cX6_read 49 = .ok (.dup, 1) := by decide +kernel
theorem dX6_read_50 : decode cX6_read 50 = .ok (.getfield 112, 3) := by decide +kernel
theorem dX6_read_53 : decode cX6_read 53 = .ok (.iconst 1, 1) := by decide +kernel
theorem dX6_read_54 : decode cX6_read 54 = .ok (.iload_n 1, 1) := by decide +kernel
theorem dX6_read_55 : decode cX6_read 55 = .ok (.ishl, 1) := by decide +kernel
theorem dX6_read_56 : decode cX6_read 56 = .ok (.ior, 1) := by decide +kernel
theorem dX6_read_57 : decode cX6_read 57 = .ok (.putfield 112, 3) := by decide +kernel
theorem dX6_read_60 : decode cX6_read 60 = .ok (.aload_n 0, 1) := by decide +kernel
theorem dX6_read_61 : decode cX6_read 61 = .ok (.getfield 22, 3) := by decide +kernel
theorem dX6_read_64 : decode cX6_read 64 = .ok (.getfield 87, 3) := by decide +kernel
theorem dX6_read_67 : decode cX6_read 67 = .ok (.iconst 0, 1) := by decide +kernel
theorem dX6_read_68 : decode cX6_read 68 = .ok (.putfield 91, 3) := by decide +kernel
theorem dX6_read_71 : decode cX6_read 71 = .ok (.iconst 1, 1) := by decide +kernel
theorem dX6_read_72 : decode cX6_read 72 = .ok (.ireturn, 1) := by decide +kernel
theorem dX6_about_0 : decode cX6_about 0 = .ok (.aload_n 0, 1) := by decide +kernel
theorem dX6_about_1 : decode cX6_about 1 = .ok (.iload_n 1, 1) := by decide +kernel
theorem dX6_about_2 : decode cX6_about 2 = .ok (.invokevirtual 72, 3) := by decide +kernel
theorem dX6_about_5 : decode cX6_about 5 = .ok (.astore_n 3, 1) := by decide +kernel
theorem dX6_about_6 : decode cX6_about 6 = .ok (.aload_n 3, 1) := by decide +kernel
theorem dX6_about_7 : decode cX6_about 7 = .ok (.ifnonnull 5, 3) := by decide +kernel
theorem dX6_about_10 : decode cX6_about 10 = .ok (.iconst (-1), 1) := by decide +kernel
theorem dX6_about_11 : decode cX6_about 11 = .ok (.ireturn, 1) := by decide +kernel
theorem dX6_about_12 : decode cX6_about 12 = .ok (.iload_n 2, 1) := by decide +kernel
theorem dX6_about_13 : decode cX6_about 13 = .ok (.tableswitch 72 0 5 #[39, 44, 49, 54, 59, 67], 39) := by decide +kernel
theorem dX6_about_52 : decode cX6_about 52 = .ok (.aload_n 3, 1) := by decide +kernel
theorem dX6_about_53 : decode cX6_about 53 = .ok (.getfield 115, 3) := by decide +kernel
theorem dX6_about_56 : decode cX6_about 56 = .ok (.ireturn, 1) := by decide +kernel
theorem dX6_about_57 : decode cX6_about 57 = .ok (.aload_n 3, 1) := by decide +kernel
theorem dX6_about_58 : decode cX6_about 58 = .ok (.getfield 118, 3) := by decide +kernel
theorem dX6_about_61 : decode cX6_about 61 = .ok (.ireturn, 1) := by decide +kernel
theorem dX6_about_62 : decode cX6_about 62 = .ok (.aload_n 3, 1) := by decide +kernel
theorem dX6_about_63 : decode cX6_about 63 = .ok (.getfield 121, 3) := by decide +kernel
theorem dX6_about_66 : decode cX6_about 66 = .ok (.ireturn, 1) := by decide +kernel
theorem dX6_about_67 : decode cX6_about 67 = .ok (.aload_n 3, 1) := by decide +kernel
theorem dX6_about_68 : decode cX6_about 68 = .ok (.getfield 124, 3) := by decide +kernel
theorem dX6_about_71 : decode cX6_about 71 = .ok (.ireturn, 1) := by decide +kernel
theorem dX6_about_72 : decode cX6_about 72 = .ok (.aload_n 3, 1) := by decide +kernel
theorem dX6_about_73 : decode cX6_about 73 = .ok (.getfield 127, 3) := by decide +kernel
theorem dX6_about_76 : decode cX6_about 76 = .ok (.invokestatic 83, 3) := by decide +kernel
theorem dX6_about_79 : decode cX6_about 79 = .ok (.ireturn, 1) := by decide +kernel
theorem dX6_about_80 : decode cX6_about 80 = .ok (.aload_n 3, 1) := by decide +kernel
theorem dX6_about_81 : decode cX6_about 81 = .ok (.getfield 131, 3) := by decide +kernel
theorem dX6_about_84 : decode cX6_about 84 = .ok (.ireturn, 1) := by decide +kernel
theorem dX6_about_85 : decode cX6_about 85 = .ok (.iconst (-1), 1) := by decide +kernel
theorem dX6_about_86 : decode cX6_about 86 = .ok (.ireturn, 1) := by decide +kernel
theorem dX6_can_0 : decode cX6_can 0 = .ok (.iload_n 1, 1) := by decide +kernel
theorem dX6_can_1 : decode cX6_can 1 = .ok (.invokestatic 134, 3) := by decide +kernel
theorem dX6_can_4 : decode cX6_can 4 = .ok (.ifCond .ne 5, 3) := by decide +kernel
theorem dX6_can_7 : decode cX6_can 7 = .ok (.iconst (-1), 1) := by decide +kernel
theorem dX6_can_8 : decode cX6_can 8 = .ok (.ireturn, 1) := by decide +kernel
theorem dX6_can_9 : decode cX6_can 9 = .ok (.aload_n 0, 1) := by decide +kernel
theorem dX6_can_10 : decode cX6_can 10 = .ok (.invokevirtual 137, 3) := by decide +kernel
theorem dX6_can_13 : decode cX6_can 13 = .ok (.iload_n 1, 1) := by decide +kernel
theorem dX6_can_14 : decode cX6_can 14 = .ok (.invokevirtual 141, 3) := by decide +kernel
theorem dX6_can_17 : decode cX6_can 17 = .ok (.ireturn, 1) := by decide +kernel
theorem dX6_least_0 : decode cX6_least 0 = .ok (.iload_n 1, 1) := by decide +kernel
theorem dX6_least_1 : decode cX6_least 1 = .ok (.invokestatic 134, 3) := by decide +kernel
theorem dX6_least_4 : decode cX6_least 4 = .ok (.ifCond .eq 11, 3) := by decide +kernel
theorem dX6_least_7 : decode cX6_least 7 = .ok (.aload_n 0, 1) := by decide +kernel
theorem dX6_least_8 : decode cX6_least 8 = .ok (.iload_n 2, 1) := by decide +kernel
theorem dX6_least_9 : decode cX6_least 9 = .ok (.invokevirtual 144, 3) := by decide +kernel
theorem dX6_least_12 : decode cX6_least 12 = .ok (.ifCond .ne 5, 3) := by decide +kernel
theorem dX6_least_15 : decode cX6_least 15 = .ok (.iconst (-1), 1) := by decide +kernel
theorem dX6_least_16 : decode cX6_least 16 = .ok (.ireturn, 1) := by decide +kernel
theorem dX6_least_17 : decode cX6_least 17 = .ok (.aload_n 0, 1) := by decide +kernel
theorem dX6_least_18 : decode cX6_least 18 = .ok (.invokevirtual 137, 3) := by decide +kernel
theorem dX6_least_21 : decode cX6_least 21 = .ok (.astore_n 3, 1) := by decide +kernel
theorem dX6_least_22 : decode cX6_least 22 = .ok (.aload_n 3, 1) := by decide +kernel
theorem dX6_least_23 : decode cX6_least 23 = .ok (.aload_n 3, 1) := by decide +kernel
theorem dX6_least_24 : decode cX6_least 24 = .ok (.iload_n 1, 1) := by decide +kernel
theorem dX6_least_25 : decode cX6_least 25 = .ok (.iconst 0, 1) := by decide +kernel
theorem dX6_least_26 : decode cX6_least 26 = .ok (.invokevirtual 147, 3) := by decide +kernel
theorem dX6_least_29 : decode cX6_least 29 = .ok (.iload_n 2, 1) := by decide +kernel
theorem dX6_least_30 : decode cX6_least 30 = .ok (.invokevirtual 151, 3) := by decide +kernel
theorem dX6_least_33 : decode cX6_least 33 = .ok (.ireturn, 1) := by decide +kernel
theorem dX6_follows_0 : decode cX6_follows 0 = .ok (.iload_n 1, 1) := by decide +kernel
theorem dX6_follows_1 : decode cX6_follows 1 = .ok (.invokestatic 134, 3) := by decide +kernel
theorem dX6_follows_4 : decode cX6_follows 4 = .ok (.ifCond .eq 11, 3) := by decide +kernel
theorem dX6_follows_7 : decode cX6_follows 7 = .ok (.aload_n 0, 1) := by decide +kernel
theorem dX6_follows_8 : decode cX6_follows 8 = .ok (.iload_n 2, 1) := by decide +kernel
theorem dX6_follows_9 : decode cX6_follows 9 = .ok (.invokevirtual 72, 3) := by decide +kernel
theorem dX6_follows_12 : decode cX6_follows 12 = .ok (.ifnonnull 5, 3) := by decide +kernel
theorem dX6_follows_15 : decode cX6_follows 15 = .ok (.iconst (-1), 1) := by decide +kernel
theorem dX6_follows_16 : decode cX6_follows 16 = .ok (.ireturn, 1) := by decide +kernel
theorem dX6_follows_17 : decode cX6_follows 17 = .ok (.aload_n 0, 1) := by decide +kernel
theorem dX6_follows_18 : decode cX6_follows 18 = .ok (.invokevirtual 137, 3) := by decide +kernel
theorem dX6_follows_21 : decode cX6_follows 21 = .ok (.iload_n 1, 1) := by decide +kernel
theorem dX6_follows_22 : decode cX6_follows 22 = .ok (.iload_n 2, 1) := by decide +kernel
theorem dX6_follows_23 : decode cX6_follows 23 = .ok (.invokevirtual 154, 3) := by decide +kernel
theorem dX6_follows_26 : decode cX6_follows 26 = .ok (.invokestatic 83, 3) := by decide +kernel
theorem dX6_follows_29 : decode cX6_follows 29 = .ok (.ireturn, 1) := by decide +kernel
theorem dX6_against_0 : decode cX6_against 0 = .ok (.iload_n 1, 1) := by decide +kernel
theorem dX6_against_1 : decode cX6_against 1 = .ok (.invokestatic 134, 3) := by decide +kernel
theorem dX6_against_4 : decode cX6_against 4 = .ok (.ifCond .eq 19, 3) := by decide +kernel
theorem dX6_against_7 : decode cX6_against 7 = .ok (.aload_n 0, 1) := by decide +kernel
theorem dX6_against_8 : decode cX6_against 8 = .ok (.iload_n 2, 1) := by decide +kernel
theorem dX6_against_9 : decode cX6_against 9 = .ok (.invokevirtual 72, 3) := by decide +kernel
theorem dX6_against_12 : decode cX6_against 12 = .ok (.ifnull 11, 3) := by decide +kernel
theorem dX6_against_15 : decode cX6_against 15 = .ok (.aload_n 0, 1) := by decide +kernel
theorem dX6_against_16 : decode cX6_against 16 = .ok (.iload_n 3, 1) := by decide +kernel
theorem dX6_against_17 : decode cX6_against 17 = .ok (.invokevirtual 144, 3) := by decide +kernel
theorem dX6_against_20 : decode cX6_against 20 = .ok (.ifCond .ne 5, 3) := by decide +kernel
theorem dX6_against_23 : decode cX6_against 23 = .ok (.iconst (-1), 1) := by decide +kernel
theorem dX6_against_24 : decode cX6_against 24 = .ok (.ireturn, 1) := by decide +kernel
theorem dX6_against_25 : decode cX6_against 25 = .ok (.aload_n 0, 1) := by decide +kernel
theorem dX6_against_26 : decode cX6_against 26 = .ok (.invokevirtual 137, 3) := by decide +kernel
theorem dX6_against_29 : decode cX6_against 29 = .ok (.astore 4, 2) := by decide +kernel
theorem dX6_against_31 : decode cX6_against 31 = .ok (.aload 4, 2) := by decide +kernel
theorem dX6_against_33 : decode cX6_against 33 = .ok (.aload 4, 2) := by decide +kernel
theorem dX6_against_35 : decode cX6_against 35 = .ok (.iload_n 1, 1) := by decide +kernel
theorem dX6_against_36 : decode cX6_against 36 = .ok (.iconst 1, 1) := by decide +kernel
theorem dX6_against_37 : decode cX6_against 37 = .ok (.iload_n 2, 1) := by decide +kernel
theorem dX6_against_38 : decode cX6_against 38 = .ok (.ishl, 1) := by decide +kernel
theorem dX6_against_39 : decode cX6_against 39 = .ok (.invokevirtual 147, 3) := by decide +kernel
theorem dX6_against_42 : decode cX6_against 42 = .ok (.iload_n 3, 1) := by decide +kernel
theorem dX6_against_43 : decode cX6_against 43 = .ok (.invokevirtual 151, 3) := by decide +kernel
theorem dX6_against_46 : decode cX6_against 46 = .ok (.ireturn, 1) := by decide +kernel
theorem dX6_unsaid_0 : decode cX6_unsaid 0 = .ok (.iload_n 1, 1) := by decide +kernel
theorem dX6_unsaid_1 : decode cX6_unsaid 1 = .ok (.invokestatic 134, 3) := by decide +kernel
theorem dX6_unsaid_4 : decode cX6_unsaid 4 = .ok (.ifCond .ne 5, 3) := by decide +kernel
theorem dX6_unsaid_7 : decode cX6_unsaid 7 = .ok (.iconst (-1), 1) := by decide +kernel
theorem dX6_unsaid_8 : decode cX6_unsaid 8 = .ok (.ireturn, 1) := by decide +kernel
theorem dX6_unsaid_9 : decode cX6_unsaid 9 = .ok (.aload_n 0, 1) := by decide +kernel
theorem dX6_unsaid_10 : decode cX6_unsaid 10 = .ok (.invokevirtual 137, 3) := by decide +kernel
theorem dX6_unsaid_13 : decode cX6_unsaid 13 = .ok (.astore_n 2, 1) := by decide +kernel
theorem dX6_unsaid_14 : decode cX6_unsaid 14 = .ok (.iconst 0, 1) := by decide +kernel
theorem dX6_unsaid_15 : decode cX6_unsaid 15 = .ok (.istore_n 3, 1) := by decide +kernel
theorem dX6_unsaid_16 : decode cX6_unsaid 16 = .ok (.iconst 0, 1) := by decide +kernel
theorem dX6_unsaid_17 : decode cX6_unsaid 17 = .ok (.istore 4, 2) := by decide +kernel
theorem dX6_unsaid_19 : decode cX6_unsaid 19 = .ok (.iload 4, 2) := by decide +kernel
theorem dX6_unsaid_21 : decode cX6_unsaid 21 = .ok (.bipush 10, 2) := by decide +kernel
theorem dX6_unsaid_23 : decode cX6_unsaid 23 = .ok (.if_icmp .ge 42, 3) := by decide +kernel
theorem dX6_unsaid_26 : decode cX6_unsaid 26 = .ok (.iload_n 1, 1) := by decide +kernel
theorem dX6_unsaid_27 : decode cX6_unsaid 27 = .ok (.iload 4, 2) := by decide +kernel
theorem dX6_unsaid_29 : decode cX6_unsaid 29 = .ok (.invokestatic 158, 3) := by decide +kernel
theorem dX6_unsaid_32 : decode cX6_unsaid 32 = .ok (.ifCond .eq 27, 3) := by decide +kernel
theorem dX6_unsaid_35 : decode cX6_unsaid 35 = .ok (.aload_n 2, 1) := by decide +kernel
theorem dX6_unsaid_36 : decode cX6_unsaid 36 = .ok (.iload_n 1, 1) := by decide +kernel
theorem dX6_unsaid_37 : decode cX6_unsaid 37 = .ok (.iconst 1, 1) := by decide +kernel
theorem dX6_unsaid_38 : decode cX6_unsaid 38 = .ok (.iload 4, 2) := by decide +kernel
theorem dX6_unsaid_40 : decode cX6_unsaid 40 = .ok (.ishl, 1) := by decide +kernel
theorem dX6_unsaid_41 : decode cX6_unsaid 41 = .ok (.iconst (-1), 1) := by decide +kernel
theorem dX6_unsaid_42 : decode cX6_unsaid 42 = .ok (.ixor, 1) := by decide +kernel
theorem dX6_unsaid_43 : decode cX6_unsaid 43 = .ok (.iand, 1) := by decide +kernel
theorem dX6_unsaid_44 : decode cX6_unsaid 44 = .ok (.iload 4, 2) := by decide +kernel
theorem dX6_unsaid_46 : decode cX6_unsaid 46 = .ok (.invokevirtual 154, 3) := by decide +kernel
theorem dX6_unsaid_49 : decode cX6_unsaid 49 = .ok (.ifCond .eq 10, 3) := by decide +kernel
theorem dX6_unsaid_52 : decode cX6_unsaid 52 = .ok (.iload_n 3, 1) := by decide +kernel
theorem dX6_unsaid_53 : decode cX6_unsaid 53 = .ok (.iconst 1, 1) := by decide +kernel
theorem dX6_unsaid_54 : decode cX6_unsaid 54 = .ok (.iload 4, 2) := by decide +kernel
theorem dX6_unsaid_56 : decode cX6_unsaid 56 = .ok (.ishl, 1) := by decide +kernel
theorem dX6_unsaid_57 : decode cX6_unsaid 57 = .ok (.ior, 1) := by decide +kernel
theorem dX6_unsaid_58 : decode cX6_unsaid 58 = .ok (.istore_n 3, 1) := by decide +kernel
theorem dX6_unsaid_59 : decode cX6_unsaid 59 = .ok (.iinc 4 1, 3) := by decide +kernel
theorem dX6_unsaid_62 : decode cX6_unsaid 62 = .ok (.goto (-43), 3) := by decide +kernel
theorem dX6_unsaid_65 : decode cX6_unsaid 65 = .ok (.iload_n 3, 1) := by decide +kernel
theorem dX6_unsaid_66 : decode cX6_unsaid 66 = .ok (.ireturn, 1) := by decide +kernel
theorem dX6_clash_0 : decode cX6_clash 0 = .ok (.iload_n 1, 1) := by decide +kernel
theorem dX6_clash_1 : decode cX6_clash 1 = .ok (.invokestatic 134, 3) := by decide +kernel
theorem dX6_clash_4 : decode cX6_clash 4 = .ok (.ifCond .eq 12, 3) := by decide +kernel
theorem dX6_clash_7 : decode cX6_clash 7 = .ok (.iload_n 2, 1) := by decide +kernel
theorem dX6_clash_8 : decode cX6_clash 8 = .ok (.ifCond .lt 8, 3) := by decide +kernel
theorem dX6_clash_11 : decode cX6_clash 11 = .ok (.iload_n 2, 1) := by decide +kernel
theorem dX6_clash_12 : decode cX6_clash 12 = .ok (.iconst 1, 1) := by decide +kernel
theorem dX6_clash_13 : decode cX6_clash 13 = .ok (.if_icmp .le 5, 3) := by decide +kernel
theorem dX6_clash_16 : decode cX6_clash 16 = .ok (.iconst (-1), 1) := by decide +kernel
theorem dX6_clash_17 : decode cX6_clash 17 = .ok (.ireturn, 1) := by decide +kernel
theorem dX6_clash_18 : decode cX6_clash 18 = .ok (.aload_n 0, 1) := by decide +kernel
theorem dX6_clash_19 : decode cX6_clash 19 = .ok (.invokevirtual 137, 3) := by decide +kernel
theorem dX6_clash_22 : decode cX6_clash 22 = .ok (.iload_n 1, 1) := by decide +kernel
theorem dX6_clash_23 : decode cX6_clash 23 = .ok (.invokevirtual 161, 3) := by decide +kernel
theorem dX6_clash_26 : decode cX6_clash 26 = .ok (.istore_n 3, 1) := by decide +kernel
theorem dX6_clash_27 : decode cX6_clash 27 = .ok (.iload_n 3, 1) := by decide +kernel
theorem dX6_clash_28 : decode cX6_clash 28 = .ok (.bipush (-9), 2) := by decide +kernel
theorem dX6_clash_30 : decode cX6_clash 30 = .ok (.if_icmp .ne 6, 3) := by decide +kernel
theorem dX6_clash_33 : decode cX6_clash 33 = .ok (.bipush (-9), 2) := by decide +kernel
theorem dX6_clash_35 : decode cX6_clash 35 = .ok (.ireturn, 1) := by decide +kernel
theorem dX6_clash_36 : decode cX6_clash 36 = .ok (.iload_n 2, 1) := by decide +kernel
theorem dX6_clash_37 : decode cX6_clash 37 = .ok (.ifCond .ne 10, 3) := by decide +kernel
theorem dX6_clash_40 : decode cX6_clash 40 = .ok (.iload_n 3, 1) := by decide +kernel
theorem dX6_clash_41 : decode cX6_clash 41 = .ok (.invokestatic 164, 3) := by decide +kernel
theorem dX6_clash_44 : decode cX6_clash 44 = .ok (.goto 4, 3) := by decide +kernel
theorem dX6_clash_47 : decode cX6_clash 47 = .ok (.iload_n 3, 1) := by decide +kernel
theorem dX6_clash_48 : decode cX6_clash 48 = .ok (.ireturn, 1) := by decide +kernel
theorem dX6_ask_0 : decode cX6_ask 0 = .ok (.iload_n 1, 1) := by decide +kernel
theorem dX6_ask_1 : decode cX6_ask 1 = .ok (.invokestatic 134, 3) := by decide +kernel
theorem dX6_ask_4 : decode cX6_ask 4 = .ok (.ifCond .ne 5, 3) := by decide +kernel
theorem dX6_ask_7 : decode cX6_ask 7 = .ok (.iconst (-1), 1) := by decide +kernel
theorem dX6_ask_8 : decode cX6_ask 8 = .ok (.ireturn, 1) := by decide +kernel
theorem dX6_ask_9 : decode cX6_ask 9 = .ok (.aload_n 0, 1) := by decide +kernel
theorem dX6_ask_10 : decode cX6_ask 10 = .ok (.invokevirtual 137, 3) := by decide +kernel
theorem dX6_ask_13 : decode cX6_ask 13 = .ok (.astore_n 2, 1) := by decide +kernel
theorem dX6_ask_14 : decode cX6_ask 14 = .ok (.aload_n 2, 1) := by decide +kernel
theorem dX6_ask_15 : decode cX6_ask 15 = .ok (.iload_n 1, 1) := by decide +kernel
theorem dX6_ask_16 : decode cX6_ask 16 = .ok (.invokevirtual 141, 3) := by decide +kernel
theorem dX6_ask_19 : decode cX6_ask 19 = .ok (.istore_n 3, 1) := by decide +kernel
theorem dX6_ask_20 : decode cX6_ask 20 = .ok (.iload_n 3, 1) := by decide +kernel
theorem dX6_ask_21 : decode cX6_ask 21 = .ok (.ifCond .ne 6, 3) := by decide +kernel
theorem dX6_ask_24 : decode cX6_ask 24 = .ok (.bipush (-2), 2) := by decide +kernel
theorem dX6_ask_26 : decode cX6_ask 26 = .ok (.ireturn, 1) := by decide +kernel
theorem dX6_ask_27 : decode cX6_ask 27 = .ok (.iconst 0, 1) := by decide +kernel
theorem dX6_ask_28 : decode cX6_ask 28 = .ok (.istore 4, 2) := by decide +kernel
theorem dX6_ask_30 : decode cX6_ask 30 = .ok (.iload_n 3, 1) := by decide +kernel
theorem dX6_ask_31 : decode cX6_ask 31 = .ok (.iconst 1, 1) := by decide +kernel
theorem dX6_ask_32 : decode cX6_ask 32 = .ok (.iadd, 1) := by decide +kernel
theorem dX6_ask_33 : decode cX6_ask 33 = .ok (.istore 5, 2) := by decide +kernel
theorem dX6_ask_35 : decode cX6_ask 35 = .ok (.iconst 0, 1) := by decide +kernel
theorem dX6_ask_36 : decode cX6_ask 36 = .ok (.istore 6, 2) := by decide +kernel
theorem dX6_ask_38 : decode cX6_ask 38 = .ok (.iload 6, 2) := by decide +kernel
theorem dX6_ask_40 : decode cX6_ask 40 = .ok (.bipush 10, 2) := by decide +kernel
theorem dX6_ask_42 : decode cX6_ask 42 = .ok (.if_icmp .ge 47, 3) := by decide +kernel
theorem dX6_ask_45 : decode cX6_ask 45 = .ok (.aload_n 2, 1) := by decide +kernel
theorem dX6_ask_46 : decode cX6_ask 46 = .ok (.iload_n 1, 1) := by decide +kernel
theorem dX6_ask_47 : decode cX6_ask 47 = .ok (.iconst 1, 1) := by decide +kernel
theorem dX6_ask_48 : decode cX6_ask 48 = .ok (.iload 6, 2) := by decide +kernel
theorem dX6_ask_50 : decode cX6_ask 50 = .ok (.ishl, 1) := by decide +kernel
theorem dX6_ask_51 : decode cX6_ask 51 = .ok (.ior, 1) := by decide +kernel
theorem dX6_ask_52 : decode cX6_ask 52 = .ok (.invokevirtual 141, 3) := by decide +kernel
theorem dX6_ask_55 : decode cX6_ask 55 = .ok (.istore 7, 2) := by decide +kernel
theorem dX6_ask_57 : decode cX6_ask 57 = .ok (.iload 7, 2) := by decide +kernel
theorem dX6_ask_59 : decode cX6_ask 59 = .ok (.iload_n 3, 1) := by decide +kernel
theorem dX6_ask_60 : decode cX6_ask 60 = .ok (.iload 7, 2) := by decide +kernel
theorem dX6_ask_62 : decode cX6_ask 62 = .ok (.isub, 1) := by decide +kernel
theorem dX6_ask_63 : decode cX6_ask 63 = .ok (.invokestatic 169, 3) := by decide +kernel
theorem dX6_ask_66 : decode cX6_ask 66 = .ok (.istore 8, 2) := by decide +kernel
theorem dX6_ask_68 : decode cX6_ask 68 = .ok (.iload 8, 2) := by decide +kernel
theorem dX6_ask_70 : decode cX6_ask 70 = .ok (.iload 5, 2) := by decide +kernel
theorem dX6_ask_72 : decode cX6_ask 72 = .ok (.if_icmp .ge 11, 3) := by decide +kernel
theorem dX6_ask_75 : decode cX6_ask 75 = .ok (.iload 8, 2) := by decide +kernel
theorem dX6_ask_77 : decode cX6_ask 77 = .ok (.istore 5, 2) := by decide +kernel
theorem dX6_ask_79 : decode cX6_ask 79 = .ok (.iload 6, 2) := by decide +kernel
theorem dX6_ask_81 : decode cX6_ask 81 = .ok (.istore 4, 2) := by decide +kernel
theorem dX6_ask_83 : decode cX6_ask 83 = .ok (.iinc 6 1, 3) := by decide +kernel
theorem dX6_ask_86 : decode cX6_ask 86 = .ok (.goto (-48), 3) := by decide +kernel
theorem dX6_ask_89 : decode cX6_ask 89 = .ok (.iload 4, 2) := by decide +kernel
theorem dX6_ask_91 : decode cX6_ask 91 = .ok (.ireturn, 1) := by decide +kernel
theorem dX6_heaps_0 : decode cX6_heaps 0 = .ok (.iload_n 1, 1) := by decide +kernel
theorem dX6_heaps_1 : decode cX6_heaps 1 = .ok (.invokestatic 134, 3) := by decide +kernel
theorem dX6_heaps_4 : decode cX6_heaps 4 = .ok (.ifCond .ne 5, 3) := by decide +kernel
theorem dX6_heaps_7 : decode cX6_heaps 7 = .ok (.iconst (-1), 1) := by decide +kernel
theorem dX6_heaps_8 : decode cX6_heaps 8 = .ok (.ireturn, 1) := by decide +kernel
theorem dX6_heaps_9 : decode cX6_heaps 9 = .ok (.aload_n 0, 1) := by decide +kernel
theorem dX6_heaps_10 : decode cX6_heaps 10 = .ok (.invokevirtual 137, 3) := by decide +kernel
theorem dX6_heaps_13 : decode cX6_heaps 13 = .ok (.iload_n 1, 1) := by decide +kernel
theorem dX6_heaps_14 : decode cX6_heaps 14 = .ok (.invokevirtual 174, 3) := by decide +kernel
theorem dX6_heaps_17 : decode cX6_heaps 17 = .ok (.ireturn, 1) := by decide +kernel
theorem dX6_twin_0 : decode cX6_twin 0 = .ok (.aload_n 0, 1) := by decide +kernel
theorem dX6_twin_1 : decode cX6_twin 1 = .ok (.iload_n 1, 1) := by decide +kernel
theorem dX6_twin_2 : decode cX6_twin 2 = .ok (.invokevirtual 72, 3) := by decide +kernel
theorem dX6_twin_5 : decode cX6_twin 5 = .ok (.ifnonnull 5, 3) := by decide +kernel
theorem dX6_twin_8 : decode cX6_twin 8 = .ok (.iconst (-1), 1) := by decide +kernel
theorem dX6_twin_9 : decode cX6_twin 9 = .ok (.ireturn, 1) := by decide +kernel
theorem dX6_twin_10 : decode cX6_twin 10 = .ok (.aload_n 0, 1) := by decide +kernel
theorem dX6_twin_11 : decode cX6_twin 11 = .ok (.invokevirtual 137, 3) := by decide +kernel
theorem dX6_twin_14 : decode cX6_twin 14 = .ok (.astore_n 2, 1) := by decide +kernel
theorem dX6_twin_15 : decode cX6_twin 15 = .ok (.iconst 0, 1) := by decide +kernel
theorem dX6_twin_16 : decode cX6_twin 16 = .ok (.istore_n 3, 1) := by decide +kernel
theorem dX6_twin_17 : decode cX6_twin 17 = .ok (.iload_n 3, 1) := by decide +kernel
theorem dX6_twin_18 : decode cX6_twin 18 = .ok (.bipush 10, 2) := by decide +kernel
theorem dX6_twin_20 : decode cX6_twin 20 = .ok (.if_icmp .ge 38, 3) := by decide +kernel
theorem dX6_twin_23 : decode cX6_twin 23 = .ok (.iload_n 3, 1) := by decide +kernel
theorem dX6_twin_24 : decode cX6_twin 24 = .ok (.iload_n 1, 1) := by decide +kernel
theorem dX6_twin_25 : decode cX6_twin 25 = .ok (.if_icmp .eq 27, 3) := by decide +kernel
theorem dX6_twin_28 : decode cX6_twin 28 = .ok (.aload_n 2, 1) := by decide +kernel
theorem dX6_twin_29 : decode cX6_twin 29 = .ok (.iconst 1, 1) := by decide +kernel
theorem dX6_twin_30 : decode cX6_twin 30 = .ok (.iload_n 1, 1) := by decide +kernel
theorem dX6_twin_31 : decode cX6_twin 31 = .ok (.ishl, 1) := by decide +kernel
theorem dX6_twin_32 : decode cX6_twin 32 = .ok (.iload_n 3, 1) := by decide +kernel
theorem dX6_twin_33 : decode cX6_twin 33 = .ok (.invokevirtual 154, 3) := by decide +kernel
theorem dX6_twin_36 : decode cX6_twin 36 = .ok (.ifCond .eq 16, 3) := by decide +kernel
theorem dX6_twin_39 : decode cX6_twin 39 = .ok (.aload_n 2, 1) := by decide +kernel
theorem dX6_twin_40 : decode cX6_twin 40 = .ok (.iconst 1, 1) := by decide +kernel
theorem dX6_twin_41 : decode cX6_twin 41 = .ok (.iload_n 3, 1) := by decide +kernel
theorem dX6_twin_42 : decode cX6_twin 42 = .ok (.ishl, 1) := by decide +kernel
theorem dX6_twin_43 : decode cX6_twin 43 = .ok (.iload_n 1, 1) := by decide +kernel
theorem dX6_twin_44 : decode cX6_twin 44 = .ok (.invokevirtual 154, 3) := by decide +kernel
theorem dX6_twin_47 : decode cX6_twin 47 = .ok (.ifCond .eq 5, 3) := by decide +kernel
theorem dX6_twin_50 : decode cX6_twin 50 = .ok (.iload_n 3, 1) := by decide +kernel
theorem dX6_twin_51 : decode cX6_twin 51 = .ok (.ireturn, 1) := by decide +kernel
theorem dX6_twin_52 : decode cX6_twin 52 = .ok (.iinc 3 1, 3) := by decide +kernel
theorem dX6_twin_55 : decode cX6_twin 55 = .ok (.goto (-38), 3) := by decide +kernel
theorem dX6_twin_58 : decode cX6_twin 58 = .ok (.bipush (-9), 2) := by decide +kernel
theorem dX6_twin_60 : decode cX6_twin 60 = .ok (.ireturn, 1) := by decide +kernel
theorem dX6_moods_0 : decode cX6_moods 0 = .ok (.iload_n 1, 1) := by decide +kernel
theorem dX6_moods_1 : decode cX6_moods 1 = .ok (.ifCond .lt 10, 3) := by decide +kernel
theorem dX6_moods_4 : decode cX6_moods 4 = .ok (.iload_n 1, 1) := by decide +kernel
theorem dX6_moods_5 : decode cX6_moods 5 = .ok (.sipush 512, 3) := by decide +kernel
theorem dX6_moods_8 : decode cX6_moods 8 = .ok (.if_icmp .lt 5, 3) := by decide +kernel
theorem dX6_moods_11 : decode cX6_moods 11 = .ok (.iconst (-1), 1) := by decide +kernel
theorem dX6_moods_12 : decode cX6_moods 12 = .ok (.ireturn, 1) := by decide +kernel
theorem dX6_moods_13 : decode cX6_moods 13 = .ok (.aload_n 0, 1) := by decide +kernel
theorem dX6_moods_14 : decode cX6_moods 14 = .ok (.getfield 47, 3) := by decide +kernel
theorem dX6_moods_17 : decode cX6_moods 17 = .ok (.istore_n 2, 1) := by decide +kernel
theorem dX6_moods_18 : decode cX6_moods 18 = .ok (.aload_n 0, 1) := by decide +kernel
theorem dX6_moods_19 : decode cX6_moods 19 = .ok (.iload_n 1, 1) := by decide +kernel
theorem dX6_moods_20 : decode cX6_moods 20 = .ok (.putfield 47, 3) := by decide +kernel
theorem dX6_moods_23 : decode cX6_moods 23 = .ok (.iload_n 2, 1) := by decide +kernel
theorem dX6_moods_24 : decode cX6_moods 24 = .ok (.ireturn, 1) := by decide +kernel
theorem dX6_round_0 : decode cX6_round 0 = .ok (.iload_n 1, 1) := by decide +kernel
theorem dX6_round_1 : decode cX6_round 1 = .ok (.invokestatic 134, 3) := by decide +kernel
theorem dX6_round_4 : decode cX6_round 4 = .ok (.ifCond .eq 14, 3) := by decide +kernel
theorem dX6_round_7 : decode cX6_round 7 = .ok (.aload_n 0, 1) := by decide +kernel
theorem dX6_round_8 : decode cX6_round 8 = .ok (.iload_n 2, 1) := by decide +kernel
theorem dX6_round_9 : decode cX6_round 9 = .ok (.iload_n 3, 1) := by decide +kernel
theorem dX6_round_10 : decode cX6_round 10 = .ok (.iload 4, 2) := by decide +kernel
theorem dX6_round_12 : decode cX6_round 12 = .ok (.invokevirtual 177, 3) := by decide +kernel
theorem dX6_round_15 : decode cX6_round 15 = .ok (.ifCond .ne 5, 3) := by decide +kernel
theorem dX6_round_18 : decode cX6_round 18 = .ok (.iconst (-1), 1) := by decide +kernel
theorem dX6_round_19 : decode cX6_round 19 = .ok (.ireturn, 1) := by decide +kernel
theorem dX6_round_20 : decode cX6_round 20 = .ok (.aload_n 0, 1) := by decide +kernel
theorem dX6_round_21 : decode cX6_round 21 = .ok (.iload_n 1, 1) := by decide +kernel
theorem dX6_round_22 : decode cX6_round 22 = .ok (.invokevirtual 181, 3) := by decide +kernel
theorem dX6_round_25 : decode cX6_round 25 = .ok (.aload_n 0, 1) := by decide +kernel
theorem dX6_round_26 : decode cX6_round 26 = .ok (.getfield 36, 3) := by decide +kernel
theorem dX6_round_29 : decode cX6_round 29 = .ok (.iload_n 2, 1) := by decide +kernel
theorem dX6_round_30 : decode cX6_round 30 = .ok (.iload_n 3, 1) := by decide +kernel
theorem dX6_round_31 : decode cX6_round 31 = .ok (.iload 4, 2) := by decide +kernel
theorem dX6_round_33 : decode cX6_round 33 = .ok (.invokestatic 185, 3) := by decide +kernel
theorem dX6_round_36 : decode cX6_round 36 = .ok (.invokevirtual 189, 3) := by decide +kernel
theorem dX6_round_39 : decode cX6_round 39 = .ok (.ireturn, 1) := by decide +kernel
theorem dX6_by_0 : decode cX6_by 0 = .ok (.iload_n 1, 1) := by decide +kernel
theorem dX6_by_1 : decode cX6_by 1 = .ok (.invokestatic 134, 3) := by decide +kernel
theorem dX6_by_4 : decode cX6_by 4 = .ok (.ifCond .eq 25, 3) := by decide +kernel
theorem dX6_by_7 : decode cX6_by 7 = .ok (.aload_n 0, 1) := by decide +kernel
theorem dX6_by_8 : decode cX6_by 8 = .ok (.iload_n 2, 1) := by decide +kernel
theorem dX6_by_9 : decode cX6_by 9 = .ok (.iload_n 3, 1) := by decide +kernel
theorem dX6_by_10 : decode cX6_by 10 = .ok (.iload 4, 2) := by decide +kernel
theorem dX6_by_12 : decode cX6_by 12 = .ok (.invokevirtual 177, 3) := by decide +kernel
theorem dX6_by_15 : decode cX6_by 15 = .ok (.ifCond .eq 14, 3) := by decide +kernel
theorem dX6_by_18 : decode cX6_by 18 = .ok (.iload 5, 2) := by decide +kernel
theorem dX6_by_20 : decode cX6_by 20 = .ok (.ifCond .lt 9, 3) := by decide +kernel
theorem dX6_by_23 : decode cX6_by 23 = .ok (.iload 5, 2) := by decide +kernel
theorem dX6_by_25 : decode cX6_by 25 = .ok (.iconst 2, 1) := by decide +kernel
theorem dX6_by_26 : decode cX6_by 26 = .ok (.if_icmp .le 5, 3) := by decide +kernel
theorem dX6_by_29 : decode cX6_by 29 = .ok (.iconst (-1), 1) := by decide +kernel
theorem dX6_by_30 : decode cX6_by 30 = .ok (.ireturn, 1) := by decide +kernel
theorem dX6_by_31 : decode cX6_by 31 = .ok (.aload_n 0, 1) := by decide +kernel
theorem dX6_by_32 : decode cX6_by 32 = .ok (.iload_n 1, 1) := by decide +kernel
theorem dX6_by_33 : decode cX6_by 33 = .ok (.invokevirtual 181, 3) := by decide +kernel
theorem dX6_by_36 : decode cX6_by 36 = .ok (.aload_n 0, 1) := by decide +kernel
theorem dX6_by_37 : decode cX6_by 37 = .ok (.getfield 36, 3) := by decide +kernel
theorem dX6_by_40 : decode cX6_by 40 = .ok (.iload_n 2, 1) := by decide +kernel
theorem dX6_by_41 : decode cX6_by 41 = .ok (.iload_n 3, 1) := by decide +kernel
theorem dX6_by_42 : decode cX6_by 42 = .ok (.iload 4, 2) := by decide +kernel
theorem dX6_by_44 : decode cX6_by 44 = .ok (.invokestatic 185, 3) := by decide +kernel
theorem dX6_by_47 : decode cX6_by 47 = .ok (.iload 5, 2) := by decide +kernel
theorem dX6_by_49 : decode cX6_by 49 = .ok (.invokevirtual 192, 3) := by decide +kernel
theorem dX6_by_52 : decode cX6_by 52 = .ok (.ireturn, 1) := by decide +kernel
theorem dX6_shown_0 : decode cX6_shown 0 = .ok (.iload_n 1, 1) := by decide +kernel
theorem dX6_shown_1 : decode cX6_shown 1 = .ok (.invokestatic 134, 3) := by decide +kernel
theorem dX6_shown_4 : decode cX6_shown 4 = .ok (.ifCond .eq 12, 3) := by decide +kernel
theorem dX6_shown_7 : decode cX6_shown 7 = .ok (.iload_n 2, 1) := by decide +kernel
theorem dX6_shown_8 : decode cX6_shown 8 = .ok (.ifCond .lt 8, 3) := by decide +kernel
theorem dX6_shown_11 : decode cX6_shown 11 = .ok (.iload_n 2, 1) := by decide +kernel
theorem dX6_shown_12 : decode cX6_shown 12 = .ok (.iconst 3, 1) := by decide +kernel
theorem dX6_shown_13 : decode cX6_shown 13 = .ok (.if_icmp .le 5, 3) := by decide +kernel
theorem dX6_shown_16 : decode cX6_shown 16 = .ok (.iconst (-1), 1) := by decide +kernel
theorem dX6_shown_17 : decode cX6_shown 17 = .ok (.ireturn, 1) := by decide +kernel
theorem dX6_shown_18 : decode cX6_shown 18 = .ok (.aload_n 0, 1) := by decide +kernel
theorem dX6_shown_19 : decode cX6_shown 19 = .ok (.iload_n 1, 1) := by decide +kernel
theorem dX6_shown_20 : decode cX6_shown 20 = .ok (.invokevirtual 181, 3) := by decide +kernel
theorem dX6_shown_23 : decode cX6_shown 23 = .ok (.aload_n 0, 1) := by decide +kernel
theorem dX6_shown_24 : decode cX6_shown 24 = .ok (.getfield 36, 3) := by decide +kernel
theorem dX6_shown_27 : decode cX6_shown 27 = .ok (.invokevirtual 195, 3) := by decide +kernel
theorem dX6_shown_30 : decode cX6_shown 30 = .ok (.lstore_n 3, 1) := by decide +kernel
theorem dX6_shown_31 : decode cX6_shown 31 = .ok (.iload_n 2, 1) := by decide +kernel
theorem dX6_shown_32 : decode cX6_shown 32 = .ok (.tableswitch 49 0 2 #[28, 33, 41], 28) := by decide +kernel
theorem dX6_shown_60 : decode cX6_shown 60 = .ok (.lload_n 3, 1) := by decide +kernel
theorem dX6_shown_61 : decode cX6_shown 61 = .ok (.invokestatic 199, 3) := by decide +kernel
theorem dX6_shown_64 : decode cX6_shown 64 = .ok (.ireturn, 1) := by decide +kernel
theorem dX6_shown_65 : decode cX6_shown 65 = .ok (.aload_n 0, 1) := by decide +kernel
theorem dX6_shown_66 : decode cX6_shown 66 = .ok (.getfield 36, 3) := by decide +kernel
theorem dX6_shown_69 : decode cX6_shown 69 = .ok (.getfield 204, 3) := by decide +kernel
theorem dX6_shown_72 : decode cX6_shown 72 = .ok (.ireturn, 1) := by decide +kernel
theorem dX6_shown_73 : decode cX6_shown 73 = .ok (.lload_n 3, 1) := by decide +kernel
theorem dX6_shown_74 : decode cX6_shown 74 = .ok (.invokestatic 207, 3) := by decide +kernel
theorem dX6_shown_77 : decode cX6_shown 77 = .ok (.invokestatic 83, 3) := by decide +kernel
theorem dX6_shown_80 : decode cX6_shown 80 = .ok (.ireturn, 1) := by decide +kernel
theorem dX6_shown_81 : decode cX6_shown 81 = .ok (.aload_n 0, 1) := by decide +kernel
theorem dX6_shown_82 : decode cX6_shown 82 = .ok (.invokevirtual 137, 3) := by decide +kernel
theorem dX6_shown_85 : decode cX6_shown 85 = .ok (.iload_n 1, 1) := by decide +kernel
theorem dX6_shown_86 : decode cX6_shown 86 = .ok (.invokevirtual 211, 3) := by decide +kernel
theorem dX6_shown_89 : decode cX6_shown 89 = .ok (.aload_n 0, 1) := by decide +kernel
theorem dX6_shown_90 : decode cX6_shown 90 = .ok (.invokevirtual 215, 3) := by decide +kernel
theorem dX6_shown_93 : decode cX6_shown 93 = .ok (.land, 1) := by decide +kernel
theorem dX6_shown_94 : decode cX6_shown 94 = .ok (.lload_n 3, 1) := by decide +kernel
theorem dX6_shown_95 : decode cX6_shown 95 = .ok (.ldc2_w 218, 3) := by decide +kernel
theorem dX6_shown_98 : decode cX6_shown 98 = .ok (.lxor, 1) := by decide +kernel
theorem dX6_shown_99 : decode cX6_shown 99 = .ok (.land, 1) := by decide +kernel
theorem dX6_shown_100 : decode cX6_shown 100 = .ok (.invokestatic 199, 3) := by decide +kernel
theorem dX6_shown_103 : decode cX6_shown 103 = .ok (.ireturn, 1) := by decide +kernel
theorem dX6_count_0 : decode cX6_count 0 = .ok (.iload_n 1, 1) := by decide +kernel
theorem dX6_count_1 : decode cX6_count 1 = .ok (.tableswitch 66 0 4 #[35, 40, 45, 50, 61], 35) := by decide +kernel
theorem dX6_count_36 : decode cX6_count 36 = .ok (.aload_n 0, 1) := by decide +kernel
theorem dX6_count_37 : decode cX6_count 37 = .ok (.getfield 40, 3) := by decide +kernel
theorem dX6_count_40 : decode cX6_count 40 = .ok (.ireturn, 1) := by decide +kernel
theorem dX6_count_41 : decode cX6_count 41 = .ok (.aload_n 0, 1) := by decide +kernel
theorem dX6_count_42 : decode cX6_count 42 = .ok (.getfield 44, 3) := by decide +kernel
theorem dX6_count_45 : decode cX6_count 45 = .ok (.ireturn, 1) := by decide +kernel
theorem dX6_count_46 : decode cX6_count 46 = .ok (.aload_n 0, 1) := by decide +kernel
theorem dX6_count_47 : decode cX6_count 47 = .ok (.invokevirtual 69, 3) := by decide +kernel
theorem dX6_count_50 : decode cX6_count 50 = .ok (.ireturn, 1) := by decide +kernel
theorem dX6_count_51 : decode cX6_count 51 = .ok (.aload_n 0, 1) := by decide +kernel
theorem dX6_count_52 : decode cX6_count 52 = .ok (.getfield 22, 3) := by decide +kernel
theorem dX6_count_55 : decode cX6_count 55 = .ok (.getfield 87, 3) := by decide +kernel
theorem dX6_count_58 : decode cX6_count 58 = .ok (.getfield 91, 3) := by decide +kernel
theorem dX6_count_61 : decode cX6_count 61 = .ok (.ireturn, 1) := by decide +kernel
theorem dX6_count_62 : decode cX6_count 62 = .ok (.aload_n 0, 1) := by decide +kernel
theorem dX6_count_63 : decode cX6_count 63 = .ok (.invokevirtual 220, 3) := by decide +kernel
theorem dX6_count_66 : decode cX6_count 66 = .ok (.ireturn, 1) := by decide +kernel
theorem dX6_count_67 : decode cX6_count 67 = .ok (.iconst (-1), 1) := by decide +kernel
theorem dX6_count_68 : decode cX6_count 68 = .ok (.ireturn, 1) := by decide +kernel
theorem dX6_startOver_0 : decode cX6_startOver 0 = .ok (.iconst 0, 1) := by decide +kernel
theorem dX6_startOver_1 : decode cX6_startOver 1 = .ok (.istore_n 1, 1) := by decide +kernel
theorem dX6_startOver_2 : decode cX6_startOver 2 = .ok (.iload_n 1, 1) := by decide +kernel
theorem dX6_startOver_3 : decode cX6_startOver 3 = .ok (.aload_n 0, 1) := by decide +kernel
theorem dX6_startOver_4 : decode cX6_startOver 4 = .ok (.getfield 11, 3) := by decide +kernel
theorem dX6_startOver_7 : decode cX6_startOver 7 = .ok (.arraylength, 1) := by decide +kernel
theorem dX6_startOver_8 : decode cX6_startOver 8 = .ok (.if_icmp .ge 28, 3) := by decide +kernel
theorem dX6_startOver_11 : decode cX6_startOver 11 = .ok (.aload_n 0, 1) := by decide +kernel
theorem dX6_startOver_12 : decode cX6_startOver 12 = .ok (.getfield 11, 3) := by decide +kernel
theorem dX6_startOver_15 : decode cX6_startOver 15 = .ok (.iload_n 1, 1) := by decide +kernel
theorem dX6_startOver_16 : decode cX6_startOver 16 = .ok (.aaload, 1) := by decide +kernel
theorem dX6_startOver_17 : decode cX6_startOver 17 = .ok (.astore_n 2, 1) := by decide +kernel
theorem dX6_startOver_18 : decode cX6_startOver 18 = .ok (.aload_n 2, 1) := by decide +kernel
theorem dX6_startOver_19 : decode cX6_startOver 19 = .ok (.ifnull 11, 3) := by decide +kernel
theorem dX6_startOver_22 : decode cX6_startOver 22 = .ok (.aload_n 2, 1) := by decide +kernel
theorem dX6_startOver_23 : decode cX6_startOver 23 = .ok (.aload_n 0, 1) := by decide +kernel
theorem dX6_startOver_24 : decode cX6_startOver 24 = .ok (.getfield 40, 3) := by decide +kernel
theorem dX6_startOver_27 : decode cX6_startOver 27 = .ok (.invokevirtual 223, 3) := by decide +kernel
theorem dX6_startOver_30 : decode cX6_startOver 30 = .ok (.iinc 1 1, 3) := by decide +kernel
theorem dX6_startOver_33 : decode cX6_startOver 33 = .ok (.goto (-31), 3) := by decide +kernel
theorem dX6_startOver_36 : decode cX6_startOver 36 = .ok (.iconst 0, 1) := by decide +kernel
theorem dX6_startOver_37 : decode cX6_startOver 37 = .ok (.istore_n 1, 1) := by decide +kernel
theorem dX6_startOver_38 : decode cX6_startOver 38 = .ok (.iload_n 1, 1) := by decide +kernel
theorem dX6_startOver_39 : decode cX6_startOver 39 = .ok (.aload_n 0, 1) := by decide +kernel
theorem dX6_startOver_40 : decode cX6_startOver 40 = .ok (.getfield 15, 3) := by decide +kernel
theorem dX6_startOver_43 : decode cX6_startOver 43 = .ok (.arraylength, 1) := by decide +kernel
theorem dX6_startOver_44 : decode cX6_startOver 44 = .ok (.if_icmp .ge 16, 3) := by decide +kernel
theorem dX6_startOver_47 : decode cX6_startOver 47 = .ok (.aload_n 0, 1) := by decide +kernel
theorem dX6_startOver_48 : decode cX6_startOver 48 = .ok (.getfield 15, 3) := by decide +kernel
theorem dX6_startOver_51 : decode cX6_startOver 51 = .ok (.iload_n 1, 1) := by decide +kernel
theorem dX6_startOver_52 : decode cX6_startOver 52 = .ok (.iconst 0, 1) := by decide +kernel
theorem dX6_startOver_53 : decode cX6_startOver 53 = .ok (.iastore, 1) := by decide +kernel
theorem dX6_startOver_54 : decode cX6_startOver 54 = .ok (.iinc 1 1, 3) := by decide +kernel
theorem dX6_startOver_57 : decode cX6_startOver 57 = .ok (.goto (-19), 3) := by decide +kernel
theorem dX6_startOver_60 : decode cX6_startOver 60 = .ok (.aload_n 0, 1) := by decide +kernel
theorem dX6_startOver_61 : decode cX6_startOver 61 = .ok (.getfield 29, 3) := by decide +kernel
theorem dX6_startOver_64 : decode cX6_startOver 64 = .ok (.aload_n 0, 1) := by decide +kernel
theorem dX6_startOver_65 : decode cX6_startOver 65 = .ok (.invokevirtual 54, 3) := by decide +kernel
theorem dX6_startOver_68 : decode cX6_startOver 68 = .ok (.aload_n 0, 1) := by decide +kernel
theorem dX6_startOver_69 : decode cX6_startOver 69 = .ok (.getfield 44, 3) := by decide +kernel
theorem dX6_startOver_72 : decode cX6_startOver 72 = .ok (.invokevirtual 58, 3) := by decide +kernel
theorem dX6_startOver_75 : decode cX6_startOver 75 = .ok (.return_, 1) := by decide +kernel
theorem dX6_sayingAt_0 : decode cX6_sayingAt 0 = .ok (.iload_n 1, 1) := by decide +kernel
theorem dX6_sayingAt_1 : decode cX6_sayingAt 1 = .ok (.ifCond .lt 21, 3) := by decide +kernel
theorem dX6_sayingAt_4 : decode cX6_sayingAt 4 = .ok (.iload_n 1, 1) := by decide +kernel
theorem dX6_sayingAt_5 : decode cX6_sayingAt 5 = .ok (.aload_n 0, 1) := by decide +kernel
theorem dX6_sayingAt_6 : decode cX6_sayingAt 6 = .ok (.getfield 11, 3) := by decide +kernel
theorem dX6_sayingAt_9 : decode cX6_sayingAt 9 = .ok (.arraylength, 1) := by decide +kernel
theorem dX6_sayingAt_10 : decode cX6_sayingAt 10 = .ok (.if_icmp .ge 12, 3) := by decide +kernel
theorem dX6_sayingAt_13 : decode cX6_sayingAt 13 = .ok (.aload_n 0, 1) := by decide +kernel
theorem dX6_sayingAt_14 : decode cX6_sayingAt 14 = .ok (.getfield 11, 3) := by decide +kernel
theorem dX6_sayingAt_17 : decode cX6_sayingAt 17 = .ok (.iload_n 1, 1) := by decide +kernel
theorem dX6_sayingAt_18 : decode cX6_sayingAt 18 = .ok (.aaload, 1) := by decide +kernel
theorem dX6_sayingAt_19 : decode cX6_sayingAt 19 = .ok (.goto 4, 3) := by decide +kernel
theorem dX6_sayingAt_22 : decode cX6_sayingAt 22 = .ok (.aconst_null, 1) := by decide +kernel
theorem dX6_sayingAt_23 : decode cX6_sayingAt 23 = .ok (.areturn, 1) := by decide +kernel
theorem dX6_sortCount_0 : decode cX6_sortCount 0 = .ok (.iconst 1, 1) := by decide +kernel
theorem dX6_sortCount_1 : decode cX6_sortCount 1 = .ok (.aload_n 0, 1) := by decide +kernel
theorem dX6_sortCount_2 : decode cX6_sortCount 2 = .ok (.getfield 40, 3) := by decide +kernel
theorem dX6_sortCount_5 : decode cX6_sortCount 5 = .ok (.ishl, 1) := by decide +kernel
theorem dX6_sortCount_6 : decode cX6_sortCount 6 = .ok (.ireturn, 1) := by decide +kernel
theorem dX6_isSort_0 : decode cX6_isSort 0 = .ok (.iload_n 1, 1) := by decide +kernel
theorem dX6_isSort_1 : decode cX6_isSort 1 = .ok (.ifCond .lt 24, 3) := by decide +kernel
theorem dX6_isSort_4 : decode cX6_isSort 4 = .ok (.iload_n 1, 1) := by decide +kernel
theorem dX6_isSort_5 : decode cX6_isSort 5 = .ok (.aload_n 0, 1) := by decide +kernel
theorem dX6_isSort_6 : decode cX6_isSort 6 = .ok (.invokevirtual 54, 3) := by decide +kernel
theorem dX6_isSort_9 : decode cX6_isSort 9 = .ok (.if_icmp .ge 16, 3) := by decide +kernel
theorem dX6_isSort_12 : decode cX6_isSort 12 = .ok (.iload_n 1, 1) := by decide +kernel
theorem dX6_isSort_13 : decode cX6_isSort 13 = .ok (.aload_n 0, 1) := by decide +kernel
theorem dX6_isSort_14 : decode cX6_isSort 14 = .ok (.getfield 15, 3) := by decide +kernel
theorem dX6_isSort_17 : decode cX6_isSort 17 = .ok (.arraylength, 1) := by decide +kernel
theorem dX6_isSort_18 : decode cX6_isSort 18 = .ok (.if_icmp .ge 7, 3) := by decide +kernel
theorem dX6_isSort_21 : decode cX6_isSort 21 = .ok (.iconst 1, 1) := by decide +kernel
theorem dX6_isSort_22 : decode cX6_isSort 22 = .ok (.goto 4, 3) := by decide +kernel
theorem dX6_isSort_25 : decode cX6_isSort 25 = .ok (.iconst 0, 1) := by decide +kernel
theorem dX6_isSort_26 : decode cX6_isSort 26 = .ok (.ireturn, 1) := by decide +kernel
theorem dX6_isSortOrEvery_0 : decode cX6_isSortOrEvery 0 = .ok (.iload_n 1, 1) := by decide +kernel
theorem dX6_isSortOrEvery_1 : decode cX6_isSortOrEvery 1 = .ok (.iconst (-1), 1) := by decide +kernel
theorem dX6_isSortOrEvery_2 : decode cX6_isSortOrEvery 2 = .ok (.if_icmp .eq 11, 3) := by decide +kernel
theorem dX6_isSortOrEvery_5 : decode cX6_isSortOrEvery 5 = .ok (.aload_n 0, 1) := by decide +kernel
theorem dX6_isSortOrEvery_6 : decode cX6_isSortOrEvery 6 = .ok (.iload_n 1, 1) := by decide +kernel
theorem dX6_isSortOrEvery_7 : decode cX6_isSortOrEvery 7 = .ok (.invokevirtual 65, 3) := by decide +kernel
theorem dX6_isSortOrEvery_10 : decode cX6_isSortOrEvery 10 = .ok (.ifCond .eq 7, 3) := by decide +kernel
theorem dX6_isSortOrEvery_13 : decode cX6_isSortOrEvery 13 = .ok (.iconst 1, 1) := by decide +kernel
theorem dX6_isSortOrEvery_14 : decode cX6_isSortOrEvery 14 = .ok (.goto 4, 3) := by decide +kernel
theorem dX6_isSortOrEvery_17 : decode cX6_isSortOrEvery 17 = .ok (.iconst 0, 1) := by decide +kernel
theorem dX6_isSortOrEvery_18 : decode cX6_isSortOrEvery 18 = .ok (.ireturn, 1) := by decide +kernel
theorem dX6_isFact_0 : decode cX6_isFact 0 = .ok (.iload_n 1, 1) := by decide +kernel
theorem dX6_isFact_1 : decode cX6_isFact 1 = .ok (.ifCond .lt 36, 3) := by decide +kernel
theorem dX6_isFact_4 : decode cX6_isFact 4 = .ok (.iload_n 1, 1) := by decide +kernel
theorem dX6_isFact_5 : decode cX6_isFact 5 = .ok (.iconst 3, 1) := by decide +kernel
theorem dX6_isFact_6 : decode cX6_isFact 6 = .ok (.if_icmp .gt 31, 3) := by decide +kernel
theorem dX6_isFact_9 : decode cX6_isFact 9 = .ok (.iload_n 2, 1) := by decide +kernel
theorem dX6_isFact_10 : decode cX6_isFact 10 = .ok (.ifCond .lt 27, 3) := by decide +kernel
theorem dX6_isFact_13 : decode cX6_isFact 13 = .ok (.iload_n 2, 1) := by decide +kernel
theorem dX6_isFact_14 : decode cX6_isFact 14 = .ok (.aload_n 0, 1) := by decide +kernel
theorem dX6_isFact_15 : decode cX6_isFact 15 = .ok (.getfield 40, 3) := by decide +kernel
theorem dX6_isFact_18 : decode cX6_isFact 18 = .ok (.if_icmp .ge 19, 3) := by decide +kernel
theorem dX6_isFact_21 : decode cX6_isFact 21 = .ok (.iload_n 3, 1) := by decide +kernel
theorem dX6_isFact_22 : decode cX6_isFact 22 = .ok (.ifCond .lt 15, 3) := by decide +kernel
theorem dX6_isFact_25 : decode cX6_isFact 25 = .ok (.iload_n 3, 1) := by decide +kernel
theorem dX6_isFact_26 : decode cX6_isFact 26 = .ok (.aload_n 0, 1) := by decide +kernel
theorem dX6_isFact_27 : decode cX6_isFact 27 = .ok (.getfield 40, 3) := by decide +kernel
theorem dX6_isFact_30 : decode cX6_isFact 30 = .ok (.if_icmp .ge 7, 3) := by decide +kernel
theorem dX6_isFact_33 : decode cX6_isFact 33 = .ok (.iconst 1, 1) := by decide +kernel
theorem dX6_isFact_34 : decode cX6_isFact 34 = .ok (.goto 4, 3) := by decide +kernel
theorem dX6_isFact_37 : decode cX6_isFact 37 = .ok (.iconst 0, 1) := by decide +kernel
theorem dX6_isFact_38 : decode cX6_isFact 38 = .ok (.ireturn, 1) := by decide +kernel
theorem dX6_thingsAtHand_0 : decode cX6_thingsAtHand 0 = .ok (.iconst 0, 1) := by decide +kernel
theorem dX6_thingsAtHand_1 : decode cX6_thingsAtHand 1 = .ok (.istore_n 1, 1) := by decide +kernel
theorem dX6_thingsAtHand_2 : decode cX6_thingsAtHand 2 = .ok (.iconst 0, 1) := by decide +kernel
theorem dX6_thingsAtHand_3 : decode cX6_thingsAtHand 3 = .ok (.istore_n 2, 1) := by decide +kernel
theorem dX6_thingsAtHand_4 : decode cX6_thingsAtHand 4 = .ok (.iload_n 2, 1) := by decide +kernel
theorem dX6_thingsAtHand_5 : decode cX6_thingsAtHand 5 = .ok (.aload_n 0, 1) := by decide +kernel
theorem dX6_thingsAtHand_6 : decode cX6_thingsAtHand 6 = .ok (.getfield 15, 3) := by decide +kernel
theorem dX6_thingsAtHand_9 : decode cX6_thingsAtHand 9 = .ok (.arraylength, 1) := by decide +kernel
theorem dX6_thingsAtHand_10 : decode cX6_thingsAtHand 10 = .ok (.if_icmp .ge 18, 3) := by decide +kernel
theorem dX6_thingsAtHand_13 : decode cX6_thingsAtHand 13 = .ok (.iload_n 1, 1) := by decide +kernel
theorem dX6_thingsAtHand_14 : decode cX6_thingsAtHand 14 = .ok (.aload_n 0, 1) := by decide +kernel
theorem dX6_thingsAtHand_15 : decode cX6_thingsAtHand 15 = .ok (.getfield 15, 3) := by decide +kernel
theorem dX6_thingsAtHand_18 : decode cX6_thingsAtHand 18 = .ok (.iload_n 2, 1) := by decide +kernel
theorem dX6_thingsAtHand_19 : decode cX6_thingsAtHand 19 = .ok (.iaload, 1) := by decide +kernel
theorem dX6_thingsAtHand_20 : decode cX6_thingsAtHand 20 = .ok (.iadd, 1) := by decide +kernel
theorem dX6_thingsAtHand_21 : decode cX6_thingsAtHand 21 = .ok (.istore_n 1, 1) := by decide +kernel
theorem dX6_thingsAtHand_22 : decode cX6_thingsAtHand 22 = .ok (.iinc 2 1, 3) := by decide +kernel
theorem dX6_thingsAtHand_25 : decode cX6_thingsAtHand 25 = .ok (.goto (-21), 3) := by decide +kernel
theorem dX6_thingsAtHand_28 : decode cX6_thingsAtHand 28 = .ok (.iload_n 1, 1) := by decide +kernel
theorem dX6_thingsAtHand_29 : decode cX6_thingsAtHand 29 = .ok (.ireturn, 1) := by decide +kernel
theorem dX6_sumAtHand_0 : decode cX6_sumAtHand 0 = .ok (.iconst 0, 1) := by decide +kernel
theorem dX6_sumAtHand_1 : decode cX6_sumAtHand 1 = .ok (.istore_n 2, 1) := by decide +kernel
theorem dX6_sumAtHand_2 : decode cX6_sumAtHand 2 = .ok (.iconst 0, 1) := by decide +kernel
theorem dX6_sumAtHand_3 : decode cX6_sumAtHand 3 = .ok (.istore_n 3, 1) := by decide +kernel
theorem dX6_sumAtHand_4 : decode cX6_sumAtHand 4 = .ok (.iload_n 3, 1) := by decide +kernel
theorem dX6_sumAtHand_5 : decode cX6_sumAtHand 5 = .ok (.aload_n 0, 1) := by decide +kernel
theorem dX6_sumAtHand_6 : decode cX6_sumAtHand 6 = .ok (.getfield 15, 3) := by decide +kernel
theorem dX6_sumAtHand_9 : decode cX6_sumAtHand 9 = .ok (.arraylength, 1) := by decide +kernel
theorem dX6_sumAtHand_10 : decode cX6_sumAtHand 10 = .ok (.if_icmp .ge 24, 3) := by decide +kernel
theorem dX6_sumAtHand_13 : decode cX6_sumAtHand 13 = .ok (.iload_n 2, 1) := by decide +kernel
theorem dX6_sumAtHand_14 : decode cX6_sumAtHand 14 = .ok (.aload_n 0, 1) := by decide +kernel
theorem dX6_sumAtHand_15 : decode cX6_sumAtHand 15 = .ok (.getfield 15, 3) := by decide +kernel
theorem dX6_sumAtHand_18 : decode cX6_sumAtHand 18 = .ok (.iload_n 3, 1) := by decide +kernel
theorem dX6_sumAtHand_19 : decode cX6_sumAtHand 19 = .ok (.iaload, 1) := by decide +kernel
theorem dX6_sumAtHand_20 : decode cX6_sumAtHand 20 = .ok (.aload_n 1, 1) := by decide +kernel
theorem dX6_sumAtHand_21 : decode cX6_sumAtHand 21 = .ok (.iload_n 3, 1) := by decide +kernel
theorem dX6_sumAtHand_22 : decode cX6_sumAtHand 22 = .ok (.invokevirtual 226, 3) := by decide +kernel
theorem dX6_sumAtHand_25 : decode cX6_sumAtHand 25 = .ok (.imul, 1) := by decide +kernel
theorem dX6_sumAtHand_26 : decode cX6_sumAtHand 26 = .ok (.iadd, 1) := by decide +kernel
theorem dX6_sumAtHand_27 : decode cX6_sumAtHand 27 = .ok (.istore_n 2, 1) := by decide +kernel
theorem dX6_sumAtHand_28 : decode cX6_sumAtHand 28 = .ok (.iinc 3 1, 3) := by decide +kernel
theorem dX6_sumAtHand_31 : decode cX6_sumAtHand 31 = .ok (.goto (-27), 3) := by decide +kernel
theorem dX6_sumAtHand_34 : decode cX6_sumAtHand 34 = .ok (.iload_n 2, 1) := by decide +kernel
theorem dX6_sumAtHand_35 : decode cX6_sumAtHand 35 = .ok (.ireturn, 1) := by decide +kernel
theorem dX6_freshHeaps_0 : decode cX6_freshHeaps 0 = .ok (.aload_n 0, 1) := by decide +kernel
theorem dX6_freshHeaps_1 : decode cX6_freshHeaps 1 = .ok (.getfield 29, 3) := by decide +kernel
theorem dX6_freshHeaps_4 : decode cX6_freshHeaps 4 = .ok (.aload_n 0, 1) := by decide +kernel
theorem dX6_freshHeaps_5 : decode cX6_freshHeaps 5 = .ok (.getfield 11, 3) := by decide +kernel
theorem dX6_freshHeaps_8 : decode cX6_freshHeaps 8 = .ok (.invokevirtual 229, 3) := by decide +kernel
theorem dX6_freshHeaps_11 : decode cX6_freshHeaps 11 = .ok (.aload_n 0, 1) := by decide +kernel
theorem dX6_freshHeaps_12 : decode cX6_freshHeaps 12 = .ok (.getfield 29, 3) := by decide +kernel
theorem dX6_freshHeaps_15 : decode cX6_freshHeaps 15 = .ok (.areturn, 1) := by decide +kernel
theorem dX6_work_0 : decode cX6_work 0 = .ok (.lconst 0, 1) := by decide +kernel
theorem dX6_work_1 : decode cX6_work 1 = .ok (.lstore_n 2, 1) := by decide +kernel
theorem dX6_work_2 : decode cX6_work 2 = .ok (.iconst 0, 1) := by decide +kernel
theorem dX6_work_3 : decode cX6_work 3 = .ok (.istore 4, 2) := by decide +kernel
theorem dX6_work_5 : decode cX6_work 5 = .ok (.iload 4, 2) := by decide +kernel
theorem dX6_work_7 : decode cX6_work 7 = .ok (.aload_n 0, 1) := by decide +kernel
theorem dX6_work_8 : decode cX6_work 8 = .ok (.getfield 11, 3) := by decide +kernel
theorem dX6_work_11 : decode cX6_work 11 = .ok (.arraylength, 1) := by decide +kernel
theorem dX6_work_12 : decode cX6_work 12 = .ok (.if_icmp .ge 52, 3) := by decide +kernel
theorem dX6_work_15 : decode cX6_work 15 = .ok (.aload_n 0, 1) := by decide +kernel
theorem dX6_work_16 : decode cX6_work 16 = .ok (.getfield 11, 3) := by decide +kernel
theorem dX6_work_19 : decode cX6_work 19 = .ok (.iload 4, 2) := by decide +kernel
theorem dX6_work_21 : decode cX6_work 21 = .ok (.aaload, 1) := by decide +kernel
theorem dX6_work_22 : decode cX6_work 22 = .ok (.astore 5, 2) := by decide +kernel
theorem dX6_work_24 : decode cX6_work 24 = .ok (.iload_n 1, 1) := by decide +kernel
theorem dX6_work_25 : decode cX6_work 25 = .ok (.iload 4, 2) := by decide +kernel
theorem dX6_work_27 : decode cX6_work 27 = .ok (.invokestatic 158, 3) := by decide +kernel
theorem dX6_work_30 : decode cX6_work 30 = .ok (.ifCond .eq 28, 3) := by decide +kernel
theorem dX6_work_33 : decode cX6_work 33 = .ok (.aload 5, 2) := by decide +kernel
theorem dX6_work_35 : decode cX6_work 35 = .ok (.ifnull 23, 3) := by decide +kernel
theorem dX6_work_38 : decode cX6_work 38 = .ok (.aload 5, 2) := by decide +kernel
theorem dX6_work_40 : decode cX6_work 40 = .ok (.getfield 131, 3) := by decide +kernel
theorem dX6_work_43 : decode cX6_work 43 = .ok (.bipush (-9), 2) := by decide +kernel
theorem dX6_work_45 : decode cX6_work 45 = .ok (.if_icmp .eq 13, 3) := by decide +kernel
theorem dX6_work_48 : decode cX6_work 48 = .ok (.lload_n 2, 1) := by decide +kernel
theorem dX6_work_49 : decode cX6_work 49 = .ok (.lconst 1, 1) := by decide +kernel
theorem dX6_work_50 : decode cX6_work 50 = .ok (.aload 5, 2) := by decide +kernel
theorem dX6_work_52 : decode cX6_work 52 = .ok (.getfield 131, 3) := by decide +kernel
theorem dX6_work_55 : decode cX6_work 55 = .ok (.lshl, 1) := by decide +kernel
theorem dX6_work_56 : decode cX6_work 56 = .ok (.lor, 1) := by decide +kernel
theorem dX6_work_57 : decode cX6_work 57 = .ok (.lstore_n 2, 1) := by decide +kernel
theorem dX6_work_58 : decode cX6_work 58 = .ok (.iinc 4 1, 3) := by decide +kernel
theorem dX6_work_61 : decode cX6_work 61 = .ok (.goto (-56), 3) := by decide +kernel
theorem dX6_work_64 : decode cX6_work 64 = .ok (.aload_n 0, 1) := by decide +kernel
theorem dX6_work_65 : decode cX6_work 65 = .ok (.getfield 36, 3) := by decide +kernel
theorem dX6_work_68 : decode cX6_work 68 = .ok (.lload_n 2, 1) := by decide +kernel
theorem dX6_work_69 : decode cX6_work 69 = .ok (.aload_n 0, 1) := by decide +kernel
theorem dX6_work_70 : decode cX6_work 70 = .ok (.getfield 47, 3) := by decide +kernel
theorem dX6_work_73 : decode cX6_work 73 = .ok (.aload_n 0, 1) := by decide +kernel
theorem dX6_work_74 : decode cX6_work 74 = .ok (.getfield 40, 3) := by decide +kernel
theorem dX6_work_77 : decode cX6_work 77 = .ok (.invokevirtual 233, 3) := by decide +kernel
theorem dX6_work_80 : decode cX6_work 80 = .ok (.return_, 1) := by decide +kernel
theorem dX6_plainSayings_0 : decode cX6_plainSayings 0 = .ok (.iconst 0, 1) := by decide +kernel
theorem dX6_plainSayings_1 : decode cX6_plainSayings 1 = .ok (.istore_n 1, 1) := by decide +kernel
theorem dX6_plainSayings_2 : decode cX6_plainSayings 2 = .ok (.iconst 0, 1) := by decide +kernel
theorem dX6_plainSayings_3 : decode cX6_plainSayings 3 = .ok (.istore_n 2, 1) := by decide +kernel
theorem dX6_plainSayings_4 : decode cX6_plainSayings 4 = .ok (.iload_n 2, 1) := by decide +kernel
theorem dX6_plainSayings_5 : decode cX6_plainSayings 5 = .ok (.aload_n 0, 1) := by decide +kernel
theorem dX6_plainSayings_6 : decode cX6_plainSayings 6 = .ok (.getfield 11, 3) := by decide +kernel
theorem dX6_plainSayings_9 : decode cX6_plainSayings 9 = .ok (.arraylength, 1) := by decide +kernel
theorem dX6_plainSayings_10 : decode cX6_plainSayings 10 = .ok (.if_icmp .ge 35, 3) := by decide +kernel
theorem dX6_plainSayings_13 : decode cX6_plainSayings 13 = .ok (.aload_n 0, 1) := by decide +kernel
theorem dX6_plainSayings_14 : decode cX6_plainSayings 14 = .ok (.getfield 11, 3) := by decide +kernel
theorem dX6_plainSayings_17 : decode cX6_plainSayings 17 = .ok (.iload_n 2, 1) := by decide +kernel
theorem dX6_plainSayings_18 : decode cX6_plainSayings 18 = .ok (.aaload, 1) := by decide +kernel
theorem dX6_plainSayings_19 : decode cX6_plainSayings 19 = .ok (.astore_n 3, 1) := by decide +kernel
theorem dX6_plainSayings_20 : decode cX6_plainSayings 20 = .ok (.aload_n 3, 1) := by decide +kernel
theorem dX6_plainSayings_21 : decode cX6_plainSayings 21 = .ok (.ifnull 18, 3) := by decide +kernel
theorem dX6_plainSayings_24 : decode cX6_plainSayings 24 = .ok (.aload_n 3, 1) := by decide +kernel
theorem dX6_plainSayings_25 : decode cX6_plainSayings 25 = .ok (.getfield 131, 3) := by decide +kernel
theorem dX6_plainSayings_28 : decode cX6_plainSayings 28 = .ok (.bipush (-9), 2) := by decide +kernel
theorem dX6_plainSayings_30 : decode cX6_plainSayings 30 = .ok (.if_icmp .eq 9, 3) := by decide +kernel
theorem dX6_plainSayings_33 : decode cX6_plainSayings 33 = .ok (.iload_n 1, 1) := by decide +kernel
theorem dX6_plainSayings_34 : decode cX6_plainSayings 34 = .ok (.iconst 1, 1) := by decide +kernel
theorem dX6_plainSayings_35 : decode cX6_plainSayings 35 = .ok (.iload_n 2, 1) := by decide +kernel
theorem dX6_plainSayings_36 : decode cX6_plainSayings 36 = .ok (.ishl, 1) := by decide +kernel
theorem dX6_plainSayings_37 : decode cX6_plainSayings 37 = .ok (.ior, 1) := by decide +kernel
theorem dX6_plainSayings_38 : decode cX6_plainSayings 38 = .ok (.istore_n 1, 1) := by decide +kernel
theorem dX6_plainSayings_39 : decode cX6_plainSayings 39 = .ok (.iinc 2 1, 3) := by decide +kernel
theorem dX6_plainSayings_42 : decode cX6_plainSayings 42 = .ok (.goto (-38), 3) := by decide +kernel
theorem dX6_plainSayings_45 : decode cX6_plainSayings 45 = .ok (.iload_n 1, 1) := by decide +kernel
theorem dX6_plainSayings_46 : decode cX6_plainSayings 46 = .ok (.ireturn, 1) := by decide +kernel
theorem dX6_everyFact_0 : decode cX6_everyFact 0 = .ok (.lconst 0, 1) := by decide +kernel
theorem dX6_everyFact_1 : decode cX6_everyFact 1 = .ok (.lstore_n 1, 1) := by decide +kernel
theorem dX6_everyFact_2 : decode cX6_everyFact 2 = .ok (.iconst 0, 1) := by decide +kernel
theorem dX6_everyFact_3 : decode cX6_everyFact 3 = .ok (.istore_n 3, 1) := by decide +kernel
theorem dX6_everyFact_4 : decode cX6_everyFact 4 = .ok (.iload_n 3, 1) := by decide +kernel
theorem dX6_everyFact_5 : decode cX6_everyFact 5 = .ok (.iconst 3, 1) := by decide +kernel
theorem dX6_everyFact_6 : decode cX6_everyFact 6 = .ok (.if_icmp .gt 58, 3) := by decide +kernel
theorem dX6_everyFact_9 : decode cX6_everyFact 9 = .ok (.iconst 0, 1) := by decide +kernel
theorem dX6_everyFact_10 : decode cX6_everyFact 10 = .ok (.istore 4, 2) := by decide +kernel
theorem dX6_everyFact_12 : decode cX6_everyFact 12 = .ok (.iload 4, 2) := by decide +kernel
theorem dX6_everyFact_14 : decode cX6_everyFact 14 = .ok (.aload_n 0, 1) := by decide +kernel
theorem dX6_everyFact_15 : decode cX6_everyFact 15 = .ok (.getfield 40, 3) := by decide +kernel
theorem dX6_everyFact_18 : decode cX6_everyFact 18 = .ok (.if_icmp .ge 40, 3) := by decide +kernel
theorem dX6_everyFact_21 : decode cX6_everyFact 21 = .ok (.iconst 0, 1) := by decide +kernel
theorem dX6_everyFact_22 : decode cX6_everyFact 22 = .ok (.istore 5, 2) := by decide +kernel
theorem dX6_everyFact_24 : decode cX6_everyFact 24 = .ok (.iload 5, 2) := by decide +kernel
theorem dX6_everyFact_26 : decode cX6_everyFact 26 = .ok (.aload_n 0, 1) := by decide +kernel
theorem dX6_everyFact_27 : decode cX6_everyFact 27 = .ok (.getfield 40, 3) := by decide +kernel
theorem dX6_everyFact_30 : decode cX6_everyFact 30 = .ok (.if_icmp .ge 22, 3) := by decide +kernel
theorem dX6_everyFact_33 : decode cX6_everyFact 33 = .ok (.lload_n 1, 1) := by decide +kernel
theorem dX6_everyFact_34 : decode cX6_everyFact 34 = .ok (.lconst 1, 1) := by decide +kernel
theorem dX6_everyFact_35 : decode cX6_everyFact 35 = .ok (.iload_n 3, 1) := by decide +kernel
theorem dX6_everyFact_36 : decode cX6_everyFact 36 = .ok (.iload 4, 2) := by decide +kernel
theorem dX6_everyFact_38 : decode cX6_everyFact 38 = .ok (.iload 5, 2) := by decide +kernel
theorem dX6_everyFact_40 : decode cX6_everyFact 40 = .ok (.invokestatic 185, 3) := by decide +kernel
theorem dX6_everyFact_43 : decode cX6_everyFact 43 = .ok (.lshl, 1) := by decide +kernel
theorem dX6_everyFact_44 : decode cX6_everyFact 44 = .ok (.lor, 1) := by decide +kernel
theorem dX6_everyFact_45 : decode cX6_everyFact 45 = .ok (.lstore_n 1, 1) := by decide +kernel
theorem dX6_everyFact_46 : decode cX6_everyFact 46 = .ok (.iinc 5 1, 3) := by decide +kernel
theorem dX6_everyFact_49 : decode cX6_everyFact 49 = .ok (.goto (-25), 3) := by decide +kernel
theorem dX6_everyFact_52 : decode cX6_everyFact 52 = .ok (.iinc 4 1, 3) := by decide +kernel
theorem dX6_everyFact_55 : decode cX6_everyFact 55 = .ok (.goto (-43), 3) := by decide +kernel
theorem dX6_everyFact_58 : decode cX6_everyFact 58 = .ok (.iinc 3 1, 3) := by decide +kernel
theorem dX6_everyFact_61 : decode cX6_everyFact 61 = .ok (.goto (-57), 3) := by decide +kernel
theorem dX6_everyFact_64 : decode cX6_everyFact 64 = .ok (.lload_n 1, 1) := by decide +kernel
theorem dX6_everyFact_65 : decode cX6_everyFact 65 = .ok (.lreturn, 1) := by decide +kernel
theorem dX6_isSet_0 : decode cX6_isSet 0 = .ok (.iload_n 0, 1) := by decide +kernel
theorem dX6_isSet_1 : decode cX6_isSet 1 = .ok (.ifCond .lt 14, 3) := by decide +kernel
theorem dX6_isSet_4 : decode cX6_isSet 4 = .ok (.iload_n 0, 1) := by decide +kernel
theorem dX6_isSet_5 : decode cX6_isSet 5 = .ok (.sipush 1024, 3) := by decide +kernel
theorem dX6_isSet_8 : decode cX6_isSet 8 = .ok (.if_icmp .ge 7, 3) := by decide +kernel
theorem dX6_isSet_11 : decode cX6_isSet 11 = .ok (.iconst 1, 1) := by decide +kernel
theorem dX6_isSet_12 : decode cX6_isSet 12 = .ok (.goto 4, 3) := by decide +kernel
theorem dX6_isSet_15 : decode cX6_isSet 15 = .ok (.iconst 0, 1) := by decide +kernel
theorem dX6_isSet_16 : decode cX6_isSet 16 = .ok (.ireturn, 1) := by decide +kernel
theorem dX6_has_0 : decode cX6_has 0 = .ok (.iload_n 0, 1) := by decide +kernel
theorem dX6_has_1 : decode cX6_has 1 = .ok (.iload_n 1, 1) := by decide +kernel
theorem dX6_has_2 : decode cX6_has 2 = .ok (.ishr, 1) := by decide +kernel
theorem dX6_has_3 : decode cX6_has 3 = .ok (.iconst 1, 1) := by decide +kernel
theorem dX6_has_4 : decode cX6_has 4 = .ok (.iand, 1) := by decide +kernel
theorem dX6_has_5 : decode cX6_has 5 = .ok (.ifCond .eq 7, 3) := by decide +kernel
theorem dX6_has_8 : decode cX6_has 8 = .ok (.iconst 1, 1) := by decide +kernel
theorem dX6_has_9 : decode cX6_has 9 = .ok (.goto 4, 3) := by decide +kernel
theorem dX6_has_12 : decode cX6_has 12 = .ok (.iconst 0, 1) := by decide +kernel
theorem dX6_has_13 : decode cX6_has 13 = .ok (.ireturn, 1) := by decide +kernel
theorem dX6_bit_0 : decode cX6_bit 0 = .ok (.iload_n 0, 1) := by decide +kernel
theorem dX6_bit_1 : decode cX6_bit 1 = .ok (.ifCond .eq 7, 3) := by decide +kernel
theorem dX6_bit_4 : decode cX6_bit 4 = .ok (.iconst 1, 1) := by decide +kernel
theorem dX6_bit_5 : decode cX6_bit 5 = .ok (.goto 4, 3) := by decide +kernel
theorem dX6_bit_8 : decode cX6_bit 8 = .ok (.iconst 0, 1) := by decide +kernel
theorem dX6_bit_9 : decode cX6_bit 9 = .ok (.ireturn, 1) := by decide +kernel
theorem dX6_factNumber_0 : decode cX6_factNumber 0 = .ok (.bipush 16, 2) := by decide +kernel
theorem dX6_factNumber_2 : decode cX6_factNumber 2 = .ok (.iload_n 0, 1) := by decide +kernel
theorem dX6_factNumber_3 : decode cX6_factNumber 3 = .ok (.imul, 1) := by decide +kernel
theorem dX6_factNumber_4 : decode cX6_factNumber 4 = .ok (.iconst 4, 1) := by decide +kernel
theorem dX6_factNumber_5 : decode cX6_factNumber 5 = .ok (.iload_n 1, 1) := by decide +kernel
theorem dX6_factNumber_6 : decode cX6_factNumber 6 = .ok (.imul, 1) := by decide +kernel
theorem dX6_factNumber_7 : decode cX6_factNumber 7 = .ok (.iadd, 1) := by decide +kernel
theorem dX6_factNumber_8 : decode cX6_factNumber 8 = .ok (.iload_n 2, 1) := by decide +kernel
theorem dX6_factNumber_9 : decode cX6_factNumber 9 = .ok (.iadd, 1) := by decide +kernel
theorem dX6_factNumber_10 : decode cX6_factNumber 10 = .ok (.ireturn, 1) := by decide +kernel
theorem dX6_isQuarrel_0 : decode cX6_isQuarrel 0 = .ok (.lload_n 0, 1) := by decide +kernel
theorem dX6_isQuarrel_1 : decode cX6_isQuarrel 1 = .ok (.ldc2_w 236, 3) := by decide +kernel
theorem dX6_isQuarrel_4 : decode cX6_isQuarrel 4 = .ok (.land, 1) := by decide +kernel
theorem dX6_isQuarrel_5 : decode cX6_isQuarrel 5 = .ok (.lstore_n 2, 1) := by decide +kernel
theorem dX6_isQuarrel_6 : decode cX6_isQuarrel 6 = .ok (.lload_n 0, 1) := by decide +kernel
theorem dX6_isQuarrel_7 : decode cX6_isQuarrel 7 = .ok (.bipush 16, 2) := by decide +kernel
theorem dX6_isQuarrel_9 : decode cX6_isQuarrel 9 = .ok (.lushr, 1) := by decide +kernel
theorem dX6_isQuarrel_10 : decode cX6_isQuarrel 10 = .ok (.ldc2_w 236, 3) := by decide +kernel
theorem dX6_isQuarrel_13 : decode cX6_isQuarrel 13 = .ok (.land, 1) := by decide +kernel
theorem dX6_isQuarrel_14 : decode cX6_isQuarrel 14 = .ok (.lstore 4, 2) := by decide +kernel
theorem dX6_isQuarrel_16 : decode cX6_isQuarrel 16 = .ok (.lload_n 0, 1) := by decide +kernel
theorem dX6_isQuarrel_17 : decode cX6_isQuarrel 17 = .ok (.bipush 32, 2) := by decide +kernel
theorem dX6_isQuarrel_19 : decode cX6_isQuarrel 19 = .ok (.lushr, 1) := by decide +kernel
theorem dX6_isQuarrel_20 : decode cX6_isQuarrel 20 = .ok (.ldc2_w 236, 3) := by decide +kernel
theorem dX6_isQuarrel_23 : decode cX6_isQuarrel 23 = .ok (.land, 1) := by decide +kernel
theorem dX6_isQuarrel_24 : decode cX6_isQuarrel 24 = .ok (.lstore 6, 2) := by decide +kernel
theorem dX6_isQuarrel_26 : decode cX6_isQuarrel 26 = .ok (.lload_n 0, 1) := by decide +kernel
theorem dX6_isQuarrel_27 : decode cX6_isQuarrel 27 = .ok (.bipush 48, 2) := by decide +kernel
theorem dX6_isQuarrel_29 : decode cX6_isQuarrel 29 = .ok (.lushr, 1) := by decide +kernel
theorem dX6_isQuarrel_30 : decode cX6_isQuarrel 30 = .ok (.lstore 8, 2) := by decide +kernel
theorem dX6_isQuarrel_32 : decode cX6_isQuarrel 32 = .ok (.lload_n 2, 1) := by decide +kernel
theorem dX6_isQuarrel_33 : decode cX6_isQuarrel 33 = .ok (.lload 8, 2) := by decide +kernel
theorem dX6_isQuarrel_35 : decode cX6_isQuarrel 35 = .ok (.land, 1) := by decide +kernel
theorem dX6_isQuarrel_36 : decode cX6_isQuarrel 36 = .ok (.lconst 0, 1) := by decide +kernel
theorem dX6_isQuarrel_37 : decode cX6_isQuarrel 37 = .ok (.lcmp, 1) := by decide +kernel
theorem dX6_isQuarrel_38 : decode cX6_isQuarrel 38 = .ok (.ifCond .ne 13, 3) := by decide +kernel
theorem dX6_isQuarrel_41 : decode cX6_isQuarrel 41 = .ok (.lload 4, 2) := by decide +kernel
theorem dX6_isQuarrel_43 : decode cX6_isQuarrel 43 = .ok (.lload 6, 2) := by decide +kernel
theorem dX6_isQuarrel_45 : decode cX6_isQuarrel 45 = .ok (.land, 1) := by decide +kernel
theorem dX6_isQuarrel_46 : decode cX6_isQuarrel 46 = .ok (.lconst 0, 1) := by decide +kernel
theorem dX6_isQuarrel_47 : decode cX6_isQuarrel 47 = .ok (.lcmp, 1) := by decide +kernel
theorem dX6_isQuarrel_48 : decode cX6_isQuarrel 48 = .ok (.ifCond .eq 7, 3) := by decide +kernel
theorem dX6_isQuarrel_51 : decode cX6_isQuarrel 51 = .ok (.iconst 1, 1) := by decide +kernel
theorem dX6_isQuarrel_52 : decode cX6_isQuarrel 52 = .ok (.goto 4, 3) := by decide +kernel
theorem dX6_isQuarrel_55 : decode cX6_isQuarrel 55 = .ok (.iconst 0, 1) := by decide +kernel
theorem dX6_isQuarrel_56 : decode cX6_isQuarrel 56 = .ok (.ireturn, 1) := by decide +kernel
theorem dX6_sortsOfKind_0 : decode cX6_sortsOfKind 0 = .ok (.iconst 0, 1) := by decide +kernel
theorem dX6_sortsOfKind_1 : decode cX6_sortsOfKind 1 = .ok (.istore_n 2, 1) := by decide +kernel
theorem dX6_sortsOfKind_2 : decode cX6_sortsOfKind 2 = .ok (.iconst 0, 1) := by decide +kernel
theorem dX6_sortsOfKind_3 : decode cX6_sortsOfKind 3 = .ok (.istore_n 3, 1) := by decide +kernel
theorem dX6_sortsOfKind_4 : decode cX6_sortsOfKind 4 = .ok (.iload_n 3, 1) := by decide +kernel
theorem dX6_sortsOfKind_5 : decode cX6_sortsOfKind 5 = .ok (.bipush 16, 2) := by decide +kernel
theorem dX6_sortsOfKind_7 : decode cX6_sortsOfKind 7 = .ok (.if_icmp .ge 23, 3) := by decide +kernel
theorem dX6_sortsOfKind_10 : decode cX6_sortsOfKind 10 = .ok (.iload_n 3, 1) := by decide +kernel
theorem dX6_sortsOfKind_11 : decode cX6_sortsOfKind 11 = .ok (.iload_n 0, 1) := by decide +kernel
theorem dX6_sortsOfKind_12 : decode cX6_sortsOfKind 12 = .ok (.invokestatic 158, 3) := by decide +kernel
theorem dX6_sortsOfKind_15 : decode cX6_sortsOfKind 15 = .ok (.ifCond .eq 9, 3) := by decide +kernel
theorem dX6_sortsOfKind_18 : decode cX6_sortsOfKind 18 = .ok (.iload_n 2, 1) := by decide +kernel
theorem dX6_sortsOfKind_19 : decode cX6_sortsOfKind 19 = .ok (.iconst 1, 1) := by decide +kernel
theorem dX6_sortsOfKind_20 : decode cX6_sortsOfKind 20 = .ok (.iload_n 3, 1) := by decide +kernel
theorem dX6_sortsOfKind_21 : decode cX6_sortsOfKind 21 = .ok (.ishl, 1) := by decide +kernel
theorem dX6_sortsOfKind_22 : decode cX6_sortsOfKind 22 = .ok (.ior, 1) := by decide +kernel
theorem dX6_sortsOfKind_23 : decode cX6_sortsOfKind 23 = .ok (.istore_n 2, 1) := by decide +kernel
theorem dX6_sortsOfKind_24 : decode cX6_sortsOfKind 24 = .ok (.iinc 3 1, 3) := by decide +kernel
theorem dX6_sortsOfKind_27 : decode cX6_sortsOfKind 27 = .ok (.goto (-23), 3) := by decide +kernel
theorem dX6_sortsOfKind_30 : decode cX6_sortsOfKind 30 = .ok (.iload_n 2, 1) := by decide +kernel
theorem dX6_sortsOfKind_31 : decode cX6_sortsOfKind 31 = .ok (.iload_n 1, 1) := by decide +kernel
theorem dX6_sortsOfKind_32 : decode cX6_sortsOfKind 32 = .ok (.invokestatic 238, 3) := by decide +kernel
theorem dX6_sortsOfKind_35 : decode cX6_sortsOfKind 35 = .ok (.iand, 1) := by decide +kernel
theorem dX6_sortsOfKind_36 : decode cX6_sortsOfKind 36 = .ok (.ireturn, 1) := by decide +kernel
theorem dX6_everySort_0 : decode cX6_everySort 0 = .ok (.iconst 1, 1) := by decide +kernel
theorem dX6_everySort_1 : decode cX6_everySort 1 = .ok (.iconst 1, 1) := by decide +kernel
theorem dX6_everySort_2 : decode cX6_everySort 2 = .ok (.iload_n 0, 1) := by decide +kernel
theorem dX6_everySort_3 : decode cX6_everySort 3 = .ok (.ishl, 1) := by decide +kernel
theorem dX6_everySort_4 : decode cX6_everySort 4 = .ok (.ishl, 1) := by decide +kernel
theorem dX6_everySort_5 : decode cX6_everySort 5 = .ok (.iconst 1, 1) := by decide +kernel
theorem dX6_everySort_6 : decode cX6_everySort 6 = .ok (.isub, 1) := by decide +kernel
theorem dX6_everySort_7 : decode cX6_everySort 7 = .ok (.ireturn, 1) := by decide +kernel
theorem dX7_init_0 : decode cX7_init 0 = .ok (.aload_n 0, 1) := by decide +kernel
theorem dX7_init_1 : decode cX7_init 1 = .ok (.invokespecial 1, 3) := by decide +kernel
theorem dX7_init_4 : decode cX7_init 4 = .ok (.aload_n 0, 1) := by decide +kernel
theorem dX7_init_5 : decode cX7_init 5 = .ok (.iconst 3, 1) := by decide +kernel
theorem dX7_init_6 : decode cX7_init 6 = .ok (.putfield 7, 3) := by decide +kernel
theorem dX7_init_9 : decode cX7_init 9 = .ok (.aload_n 0, 1) := by decide +kernel
theorem dX7_init_10 : decode cX7_init 10 = .ok (.iconst 4, 1) := by decide +kernel
theorem dX7_init_11 : decode cX7_init 11 = .ok (.putfield 13, 3) := by decide +kernel
theorem dX7_init_14 : decode cX7_init 14 = .ok (.aload_n 0, 1) := by decide +kernel
theorem dX7_init_15 : decode cX7_init 15 = .ok (.sipush 255, 3) := by decide +kernel
theorem dX7_init_18 : decode cX7_init 18 = .ok (.putfield 16, 3) := by decide +kernel
theorem dX7_init_21 : decode cX7_init 21 = .ok (.aload_n 0, 1) := by decide +kernel
theorem dX7_init_22 : decode cX7_init 22 = .ok (.bipush 16, 2) := by decide +kernel
theorem dX7_init_24 : decode cX7_init 24 = .ok (.newarray .int, 2) := by decide +kernel
theorem dX7_init_26 : decode cX7_init 26 = .ok (.putfield 19, 3) := by decide +kernel
theorem dX7_init_29 : decode cX7_init 29 = .ok (.aload_n 0, 1) := by decide +kernel
theorem dX7_init_30 : decode cX7_init 30 = .ok (.bipush 80, 2) := by decide +kernel
theorem dX7_init_32 : decode cX7_init 32 = .ok (.newarray .int, 2) := by decide +kernel
theorem dX7_init_34 : decode cX7_init 34 = .ok (.putfield 23, 3) := by decide +kernel
theorem dX7_init_37 : decode cX7_init 37 = .ok (.aload_n 0, 1) := by decide +kernel
theorem dX7_init_38 : decode cX7_init 38 = .ok (.bipush 60, 2) := by decide +kernel
theorem dX7_init_40 : decode cX7_init 40 = .ok (.newarray .int, 2) := by decide +kernel
theorem dX7_init_42 : decode cX7_init 42 = .ok (.putfield 26, 3) := by decide +kernel
theorem dX7_init_45 : decode cX7_init 45 = .ok (.aload_n 0, 1) := by decide +kernel
theorem dX7_init_46 : decode cX7_init 46 = .ok (.bipush 60, 2) := by decide +kernel
theorem dX7_init_48 : decode cX7_init 48 = .ok (.newarray .int, 2) := by decide +kernel
theorem dX7_init_50 : decode cX7_init 50 = .ok (.putfield 29, 3) := by decide +kernel
theorem dX7_init_53 : decode cX7_init 53 = .ok (.aload_n 0, 1) := by decide +kernel
theorem dX7_init_54 : decode cX7_init 54 = .ok (.bipush 60, 2) := by decide +kernel
theorem dX7_init_56 : decode cX7_init 56 = .ok (.newarray .int, 2) := by decide +kernel
theorem dX7_init_58 : decode cX7_init 58 = .ok (.putfield 32, 3) := by decide +kernel
theorem dX7_init_61 : decode cX7_init 61 = .ok (.aload_n 0, 1) := by decide +kernel
theorem dX7_init_62 : decode cX7_init 62 = .ok (.bipush 16, 2) := by decide +kernel
theorem dX7_init_64 : decode cX7_init 64 = .ok (.newarray .int, 2) := by decide +kernel
theorem dX7_init_66 : decode cX7_init 66 = .ok (.putfield 35, 3) := by decide +kernel
theorem dX7_init_69 : decode cX7_init 69 = .ok (.aload_n 0, 1) := by decide +kernel
theorem dX7_init_70 : decode cX7_init 70 = .ok (.sipush 1024, 3) := by decide +kernel
theorem dX7_init_73 : decode cX7_init 73 = .ok (.newarray .int, 2) := by decide +kernel
theorem dX7_init_75 : decode cX7_init 75 = .ok (.putfield 38, 3) := by decide +kernel
theorem dX7_init_78 : decode cX7_init 78 = .ok (.aload_n 0, 1) := by decide +kernel
theorem dX7_init_79 : decode cX7_init 79 = .ok (.sipush 1024, 3) := by decide +kernel
theorem dX7_init_82 : decode cX7_init 82 = .ok (.newarray .int, 2) := by decide +kernel
theorem dX7_init_84 : decode cX7_init 84 = .ok (.putfield 41, 3) := by decide +kernel
theorem dX7_init_87 : decode cX7_init 87 = .ok (.aload_n 0, 1) := by decide +kernel
theorem dX7_init_88 : decode cX7_init 88 = .ok (.sipush 16384, 3) := by decide +kernel
theorem dX7_init_91 : decode cX7_init 91 = .ok (.newarray .int, 2) := by decide +kernel
theorem dX7_init_93 : decode cX7_init 93 = .ok (.putfield 44, 3) := by decide +kernel
theorem dX7_init_96 : decode cX7_init 96 = .ok (.aload_n 0, 1) := by decide +kernel
theorem dX7_init_97 : decode cX7_init 97 = .ok (.sipush 1024, 3) := by decide +kernel
theorem dX7_init_100 : decode cX7_init 100 = .ok (.newarray .long, 2) := by decide +kernel
theorem dX7_init_102 : decode cX7_init 102 = .ok (.putfield 47, 3) := by decide +kernel
theorem dX7_init_105 : decode cX7_init 105 = .ok (.aload_n 0, 1) := by decide +kernel
theorem dX7_init_106 : decode cX7_init 106 = .ok (.bipush 64, 2) := by decide +kernel
theorem dX7_init_108 : decode cX7_init 108 = .ok (.newarray .int, 2) := by decide +kernel
theorem dX7_init_110 : decode cX7_init 110 = .ok (.putfield 51, 3) := by decide +kernel
theorem dX7_init_113 : decode cX7_init 113 = .ok (.aload_n 0, 1) := by decide +kernel
theorem dX7_init_114 : decode cX7_init 114 = .ok (.invokevirtual 54, 3) := by decide +kernel
theorem dX7_init_117 : decode cX7_init 117 = .ok (.return_, 1) := by decide +kernel
theorem dX7_in_0 : decode cX7_in 0 = .ok (.iload_n 0, 1) := by decide +kernel
theorem dX7_in_1 : decode cX7_in 1 = .ok (.iload_n 1, 1) := by decide +kernel
theorem dX7_in_2 : decode cX7_in 2 = .ok (.if_icmp .lt 12, 3) := by decide +kernel
theorem dX7_in_5 : decode cX7_in 5 = .ok (.iload_n 0, 1) := by decide +kernel
theorem dX7_in_6 : decode cX7_in 6 = .ok (.iload_n 2, 1) := by decide +kernel
theorem dX7_in_7 : decode cX7_in 7 = .ok (.if_icmp .gt 7, 3) := by decide +kernel
theorem dX7_in_10 : decode cX7_in 10 = .ok (.iconst 1, 1) := by decide +kernel
theorem dX7_in_11 : decode cX7_in 11 = .ok (.goto 4, 3) := by decide +kernel
theorem dX7_in_14 : decode cX7_in 14 = .ok (.iconst 0, 1) := by decide +kernel
theorem dX7_in_15 : decode cX7_in 15 = .ok (.ireturn, 1) := by decide +kernel
theorem dX7_sorts_0 : decode cX7_sorts 0 = .ok (.iconst 1, 1) := by decide +kernel
theorem dX7_sorts_1 : decode cX7_sorts 1 = .ok (.aload_n 0, 1) := by decide +kernel
theorem dX7_sorts_2 : decode cX7_sorts 2 = .ok (.getfield 7, 3) := by decide +kernel
theorem dX7_sorts_5 : decode cX7_sorts 5 = .ok (.ishl, 1) := by decide +kernel
theorem dX7_sorts_6 : decode cX7_sorts 6 = .ok (.ireturn, 1) := by decide +kernel
theorem dX7_of_0 : decode cX7_of 0 = .ok (.iconst 0, 1) := by decide +kernel
theorem dX7_of_1 : decode cX7_of 1 = .ok (.istore_n 2, 1) := by decide +kernel
theorem dX7_of_2 : decode cX7_of 2 = .ok (.iconst 0, 1) := by decide +kernel
theorem dX7_of_3 : decode cX7_of 3 = .ok (.istore_n 3, 1) := by decide +kernel
theorem dX7_of_4 : decode cX7_of 4 = .ok (.iload_n 3, 1) := by decide +kernel
theorem dX7_of_5 : decode cX7_of 5 = .ok (.aload_n 0, 1) := by decide +kernel
theorem dX7_of_6 : decode cX7_of 6 = .ok (.invokevirtual 60, 3) := by decide +kernel
theorem dX7_of_9 : decode cX7_of 9 = .ok (.if_icmp .ge 19, 3) := by decide +kernel
theorem dX7_of_12 : decode cX7_of 12 = .ok (.iload_n 2, 1) := by decide +kernel
theorem dX7_of_13 : decode cX7_of 13 = .ok (.iload_n 3, 1) := by decide +kernel
theorem dX7_of_14 : decode cX7_of 14 = .ok (.iload_n 1, 1) := by decide +kernel
theorem dX7_of_15 : decode cX7_of 15 = .ok (.ishr, 1) := by decide +kernel
theorem dX7_of_16 : decode cX7_of 16 = .ok (.iconst 1, 1) := by decide +kernel
theorem dX7_of_17 : decode cX7_of 17 = .ok (.iand, 1) := by decide +kernel
theorem dX7_of_18 : decode cX7_of 18 = .ok (.iload_n 3, 1) := by decide +kernel
theorem dX7_of_19 : decode cX7_of 19 = .ok (.ishl, 1) := by decide +kernel
theorem dX7_of_20 : decode cX7_of 20 = .ok (.ior, 1) := by decide +kernel
theorem dX7_of_21 : decode cX7_of 21 = .ok (.istore_n 2, 1) := by decide +kernel
theorem dX7_of_22 : decode cX7_of 22 = .ok (.iinc 3 1, 3) := by decide +kernel
theorem dX7_of_25 : decode cX7_of 25 = .ok (.goto (-21), 3) := by decide +kernel
theorem dX7_of_28 : decode cX7_of 28 = .ok (.iload_n 2, 1) := by decide +kernel
theorem dX7_of_29 : decode cX7_of 29 = .ok (.ireturn, 1) := by decide +kernel
theorem dX7_begins_0 : decode cX7_begins 0 = .ok (.iconst 0, 1) := by decide +kernel
theorem dX7_begins_1 : decode cX7_begins 1 = .ok (.istore_n 1, 1) := by decide +kernel
theorem dX7_begins_2 : decode cX7_begins 2 = .ok (.iload_n 1, 1) := by decide +kernel
theorem dX7_begins_3 : decode cX7_begins 3 = .ok (.bipush 10, 2) := by decide +kernel
theorem dX7_begins_5 : decode cX7_begins 5 = .ok (.if_icmp .ge 87, 3) := by decide +kernel
theorem dX7_begins_8 : decode cX7_begins 8 = .ok (.aload_n 0, 1) := by decide +kernel
theorem dX7_begins_9 : decode cX7_begins 9 = .ok (.getfield 26, 3) := by decide +kernel
theorem dX7_begins_12 : decode cX7_begins 12 = .ok (.bipush 6, 2) := by decide +kernel
theorem dX7_begins_14 : decode cX7_begins 14 = .ok (.iload_n 1, 1) := by decide +kernel
theorem dX7_begins_15 : decode cX7_begins 15 = .ok (.imul, 1) := by decide +kernel
theorem dX7_begins_16 : decode cX7_begins 16 = .ok (.iconst 0, 1) := by decide +kernel
theorem dX7_begins_17 : decode cX7_begins 17 = .ok (.iastore, 1) := by decide +kernel
theorem dX7_begins_18 : decode cX7_begins 18 = .ok (.aload_n 0, 1) := by decide +kernel
theorem dX7_begins_19 : decode cX7_begins 19 = .ok (.getfield 26, 3) := by decide +kernel
theorem dX7_begins_22 : decode cX7_begins 22 = .ok (.bipush 6, 2) := by decide +kernel
theorem dX7_begins_24 : decode cX7_begins 24 = .ok (.iload_n 1, 1) := by decide +kernel
theorem dX7_begins_25 : decode cX7_begins 25 = .ok (.imul, 1) := by decide +kernel
theorem dX7_begins_26 : decode cX7_begins 26 = .ok (.iconst 1, 1) := by decide +kernel
theorem dX7_begins_27 : decode cX7_begins 27 = .ok (.iadd, 1) := by decide +kernel
theorem dX7_begins_28 : decode cX7_begins 28 = .ok (.aload_n 0, 1) := by decide +kernel
theorem dX7_begins_29 : decode cX7_begins 29 = .ok (.iconst 0, 1) := by decide +kernel
theorem dX7_begins_30 : decode cX7_begins 30 = .ok (.invokevirtual 64, 3) := by decide +kernel
theorem dX7_begins_33 : decode cX7_begins 33 = .ok (.iastore, 1) := by decide +kernel
theorem dX7_begins_34 : decode cX7_begins 34 = .ok (.aload_n 0, 1) := by decide +kernel
theorem dX7_begins_35 : decode cX7_begins 35 = .ok (.getfield 26, 3) := by decide +kernel
theorem dX7_begins_38 : decode cX7_begins 38 = .ok (.bipush 6, 2) := by decide +kernel
theorem dX7_begins_40 : decode cX7_begins 40 = .ok (.iload_n 1, 1) := by decide +kernel
theorem dX7_begins_41 : decode cX7_begins 41 = .ok (.imul, 1) := by decide +kernel
theorem dX7_begins_42 : decode cX7_begins 42 = .ok (.iconst 2, 1) := by decide +kernel
theorem dX7_begins_43 : decode cX7_begins 43 = .ok (.iadd, 1) := by decide +kernel
theorem dX7_begins_44 : decode cX7_begins 44 = .ok (.aload_n 0, 1) := by decide +kernel
theorem dX7_begins_45 : decode cX7_begins 45 = .ok (.iconst 0, 1) := by decide +kernel
theorem dX7_begins_46 : decode cX7_begins 46 = .ok (.invokevirtual 64, 3) := by decide +kernel
theorem dX7_begins_49 : decode cX7_begins 49 = .ok (.iastore, 1) := by decide +kernel
theorem dX7_begins_50 : decode cX7_begins 50 = .ok (.aload_n 0, 1) := by decide +kernel
theorem dX7_begins_51 : decode cX7_begins 51 = .ok (.getfield 26, 3) := by decide +kernel
theorem dX7_begins_54 : decode cX7_begins 54 = .ok (.bipush 6, 2) := by decide +kernel
theorem dX7_begins_56 : decode cX7_begins 56 = .ok (.iload_n 1, 1) := by decide +kernel
theorem dX7_begins_57 : decode cX7_begins 57 = .ok (.imul, 1) := by decide +kernel
theorem dX7_begins_58 : decode cX7_begins 58 = .ok (.iconst 3, 1) := by decide +kernel
theorem dX7_begins_59 : decode cX7_begins 59 = .ok (.iadd, 1) := by decide +kernel
theorem dX7_begins_60 : decode cX7_begins 60 = .ok (.iconst 0, 1) := by decide +kernel
theorem dX7_begins_61 : decode cX7_begins 61 = .ok (.iastore, 1) := by decide +kernel
theorem dX7_begins_62 : decode cX7_begins 62 = .ok (.aload_n 0, 1) := by decide +kernel
theorem dX7_begins_63 : decode cX7_begins 63 = .ok (.getfield 26, 3) := by decide +kernel
theorem dX7_begins_66 : decode cX7_begins 66 = .ok (.bipush 6, 2) := by decide +kernel
theorem dX7_begins_68 : decode cX7_begins 68 = .ok (.iload_n 1, 1) := by decide +kernel
theorem dX7_begins_69 : decode cX7_begins 69 = .ok (.imul, 1) := by decide +kernel
theorem dX7_begins_70 : decode cX7_begins 70 = .ok (.iconst 4, 1) := by decide +kernel
theorem dX7_begins_71 : decode cX7_begins 71 = .ok (.iadd, 1) := by decide +kernel
theorem dX7_begins_72 : decode cX7_begins 72 = .ok (.iconst 0, 1) := by decide +kernel
theorem dX7_begins_73 : decode cX7_begins 73 = .ok (.iastore, 1) := by decide +kernel
theorem dX7_begins_74 : decode cX7_begins 74 = .ok (.aload_n 0, 1) := by decide +kernel
theorem dX7_begins_75 : decode cX7_begins 75 = .ok (.getfield 26, 3) := by decide +kernel
theorem dX7_begins_78 : decode cX7_begins 78 = .ok (.bipush 6, 2) := by decide +kernel
theorem dX7_begins_80 : decode cX7_begins 80 = .ok (.iload_n 1, 1) := by decide +kernel
theorem dX7_begins_81 : decode cX7_begins 81 = .ok (.imul, 1) := by decide +kernel
theorem dX7_begins_82 : decode cX7_begins 82 = .ok (.iconst 5, 1) := by decide +kernel
theorem dX7_begins_83 : decode cX7_begins 83 = .ok (.iadd, 1) := by decide +kernel
theorem dX7_begins_84 : decode cX7_begins 84 = .ok (.iconst 0, 1) := by decide +kernel
theorem dX7_begins_85 : decode cX7_begins 85 = .ok (.iastore, 1) := by decide +kernel
theorem dX7_begins_86 : decode cX7_begins 86 = .ok (.iinc 1 1, 3) := by decide +kernel
theorem dX7_begins_89 : decode cX7_begins 89 = .ok (.goto (-87), 3) := by decide +kernel
theorem dX7_begins_92 : decode cX7_begins 92 = .ok (.iconst 0, 1) := by decide +kernel
theorem dX7_begins_93 : decode cX7_begins 93 = .ok (.istore_n 1, 1) := by decide +kernel
theorem dX7_begins_94 : decode cX7_begins 94 = .ok (.iload_n 1, 1) := by decide +kernel
theorem dX7_begins_95 : decode cX7_begins 95 = .ok (.bipush 16, 2) := by decide +kernel
theorem dX7_begins_97 : decode cX7_begins 97 = .ok (.if_icmp .ge 16, 3) := by decide +kernel
theorem dX7_begins_100 : decode cX7_begins 100 = .ok (.aload_n 0, 1) := by decide +kernel
theorem dX7_begins_101 : decode cX7_begins 101 = .ok (.getfield 19, 3) := by decide +kernel
theorem dX7_begins_104 : decode cX7_begins 104 = .ok (.iload_n 1, 1) := by decide +kernel
theorem dX7_begins_105 : decode cX7_begins 105 = .ok (.iconst 0, 1) := by decide +kernel
theorem dX7_begins_106 : decode cX7_begins 106 = .ok (.iastore, 1) := by decide +kernel
theorem dX7_begins_107 : decode cX7_begins 107 = .ok (.iinc 1 1, 3) := by decide +kernel
theorem dX7_begins_110 : decode cX7_begins 110 = .ok (.goto (-16), 3) := by decide +kernel
theorem dX7_begins_113 : decode cX7_begins 113 = .ok (.aload_n 0, 1) := by decide +kernel
theorem dX7_begins_114 : decode cX7_begins 114 = .ok (.iconst 0, 1) := by decide +kernel
theorem dX7_begins_115 : decode cX7_begins 115 = .ok (.putfield 68, 3) := by decide +kernel
theorem dX7_begins_118 : decode cX7_begins 118 = .ok (.return_, 1) := by decide +kernel
theorem dX7_isSaying_0 : decode cX7_isSaying 0 = .ok (.iload_n 0, 1) := by decide +kernel
theorem dX7_isSaying_1 : decode cX7_isSaying 1 = .ok (.iconst 0, 1) := by decide +kernel
theorem dX7_isSaying_2 : decode cX7_isSaying 2 = .ok (.bipush 9, 2) := by decide +kernel
theorem dX7_isSaying_4 : decode cX7_isSaying 4 = .ok (.invokestatic 72, 3) := by decide +kernel
theorem dX7_isSaying_7 : decode cX7_isSaying 7 = .ok (.ireturn, 1) := by decide +kernel
theorem dX7_isSet_0 : decode cX7_isSet 0 = .ok (.iload_n 0, 1) := by decide +kernel
theorem dX7_isSet_1 : decode cX7_isSet 1 = .ok (.iconst 0, 1) := by decide +kernel
theorem dX7_isSet_2 : decode cX7_isSet 2 = .ok (.sipush 1023, 3) := by decide +kernel
theorem dX7_isSet_5 : decode cX7_isSet 5 = .ok (.invokestatic 72, 3) := by decide +kernel
theorem dX7_isSet_8 : decode cX7_isSet 8 = .ok (.ireturn, 1) := by decide +kernel
theorem dX7_kinds_0 : decode cX7_kinds 0 = .ok (.aload_n 0, 1) := by decide +kernel
theorem dX7_kinds_1 : decode cX7_kinds 1 = .ok (.iconst 0, 1) := by decide +kernel
theorem dX7_kinds_2 : decode cX7_kinds 2 = .ok (.putfield 57, 3) := by decide +kernel
theorem dX7_kinds_5 : decode cX7_kinds 5 = .ok (.iload_n 1, 1) := by decide +kernel
theorem dX7_kinds_6 : decode cX7_kinds 6 = .ok (.iconst 1, 1) := by decide +kernel
theorem dX7_kinds_7 : decode cX7_kinds 7 = .ok (.iconst 4, 1) := by decide +kernel
theorem dX7_kinds_8 : decode cX7_kinds 8 = .ok (.invokestatic 72, 3) := by decide +kernel
theorem dX7_kinds_11 : decode cX7_kinds 11 = .ok (.ifCond .ne 5, 3) := by decide +kernel
theorem dX7_kinds_14 : decode cX7_kinds 14 = .ok (.iconst (-1), 1) := by decide +kernel
theorem dX7_kinds_15 : decode cX7_kinds 15 = .ok (.ireturn, 1) := by decide +kernel
theorem dX7_kinds_16 : decode cX7_kinds 16 = .ok (.aload_n 0, 1) := by decide +kernel
theorem dX7_kinds_17 : decode cX7_kinds 17 = .ok (.getfield 7, 3) := by decide +kernel
theorem dX7_kinds_20 : decode cX7_kinds 20 = .ok (.istore_n 2, 1) := by decide +kernel
theorem dX7_kinds_21 : decode cX7_kinds 21 = .ok (.aload_n 0, 1) := by decide +kernel
theorem dX7_kinds_22 : decode cX7_kinds 22 = .ok (.iload_n 1, 1) := by decide +kernel
theorem dX7_kinds_23 : decode cX7_kinds 23 = .ok (.putfield 7, 3) := by decide +kernel
theorem dX7_kinds_26 : decode cX7_kinds 26 = .ok (.aload_n 0, 1) := by decide +kernel
theorem dX7_kinds_27 : decode cX7_kinds 27 = .ok (.invokevirtual 54, 3) := by decide +kernel
theorem dX7_kinds_30 : decode cX7_kinds 30 = .ok (.iload_n 2, 1) := by decide +kernel
theorem dX7_kinds_31 : decode cX7_kinds 31 = .ok (.ireturn, 1) := by decide +kernel
theorem dX7_most_0 : decode cX7_most 0 = .ok (.aload_n 0, 1) := by decide +kernel
theorem dX7_most_1 : decode cX7_most 1 = .ok (.iconst 0, 1) := by decide +kernel
theorem dX7_most_2 : decode cX7_most 2 = .ok (.putfield 57, 3) := by decide +kernel
theorem dX7_most_5 : decode cX7_most 5 = .ok (.iload_n 1, 1) := by decide +kernel
theorem dX7_most_6 : decode cX7_most 6 = .ok (.iconst 1, 1) := by decide +kernel
theorem dX7_most_7 : decode cX7_most 7 = .ok (.bipush 6, 2) := by decide +kernel
theorem dX7_most_9 : decode cX7_most 9 = .ok (.invokestatic 72, 3) := by decide +kernel
theorem dX7_most_12 : decode cX7_most 12 = .ok (.ifCond .ne 5, 3) := by decide +kernel
theorem dX7_most_15 : decode cX7_most 15 = .ok (.iconst (-1), 1) := by decide +kernel
theorem dX7_most_16 : decode cX7_most 16 = .ok (.ireturn, 1) := by decide +kernel
theorem dX7_most_17 : decode cX7_most 17 = .ok (.aload_n 0, 1) := by decide +kernel
theorem dX7_most_18 : decode cX7_most 18 = .ok (.getfield 13, 3) := by decide +kernel
theorem dX7_most_21 : decode cX7_most 21 = .ok (.istore_n 2, 1) := by decide +kernel
theorem dX7_most_22 : decode cX7_most 22 = .ok (.aload_n 0, 1) := by decide +kernel
theorem dX7_most_23 : decode cX7_most 23 = .ok (.iload_n 1, 1) := by decide +kernel
theorem dX7_most_24 : decode cX7_most 24 = .ok (.putfield 13, 3) := by decide +kernel
theorem dX7_most_27 : decode cX7_most 27 = .ok (.aload_n 0, 1) := by decide +kernel
theorem dX7_most_28 : decode cX7_most 28 = .ok (.iconst 0, 1) := by decide +kernel
theorem dX7_most_29 : decode cX7_most 29 = .ok (.putfield 68, 3) := by decide +kernel
theorem dX7_most_32 : decode cX7_most 32 = .ok (.iload_n 2, 1) := by decide +kernel
theorem dX7_most_33 : decode cX7_most 33 = .ok (.ireturn, 1) := by decide +kernel
theorem dX7_worlds_0 : decode cX7_worlds 0 = .ok (.aload_n 0, 1) := by decide +kernel
theorem dX7_worlds_1 : decode cX7_worlds 1 = .ok (.iconst 0, 1) := by decide +kernel
theorem dX7_worlds_2 : decode cX7_worlds 2 = .ok (.putfield 57, 3) := by decide +kernel
theorem dX7_worlds_5 : decode cX7_worlds 5 = .ok (.aload_n 0, 1) := by decide +kernel
theorem dX7_worlds_6 : decode cX7_worlds 6 = .ok (.invokevirtual 76, 3) := by decide +kernel
theorem dX7_worlds_9 : decode cX7_worlds 9 = .ok (.aload_n 0, 1) := by decide +kernel
theorem dX7_worlds_10 : decode cX7_worlds 10 = .ok (.getfield 79, 3) := by decide +kernel
theorem dX7_worlds_13 : decode cX7_worlds 13 = .ok (.ireturn, 1) := by decide +kernel
theorem dX7_all_0 : decode cX7_all 0 = .ok (.iconst 0, 1) := by decide +kernel
theorem dX7_all_1 : decode cX7_all 1 = .ok (.istore_n 2, 1) := by decide +kernel
theorem dX7_all_2 : decode cX7_all 2 = .ok (.iconst 0, 1) := by decide +kernel
theorem dX7_all_3 : decode cX7_all 3 = .ok (.istore_n 3, 1) := by decide +kernel
theorem dX7_all_4 : decode cX7_all 4 = .ok (.iload_n 3, 1) := by decide +kernel
theorem dX7_all_5 : decode cX7_all 5 = .ok (.aload_n 0, 1) := by decide +kernel
theorem dX7_all_6 : decode cX7_all 6 = .ok (.invokevirtual 60, 3) := by decide +kernel
theorem dX7_all_9 : decode cX7_all 9 = .ok (.if_icmp .ge 15, 3) := by decide +kernel
theorem dX7_all_12 : decode cX7_all 12 = .ok (.iload_n 2, 1) := by decide +kernel
theorem dX7_all_13 : decode cX7_all 13 = .ok (.aload_n 1, 1) := by decide +kernel
theorem dX7_all_14 : decode cX7_all 14 = .ok (.iload_n 3, 1) := by decide +kernel
theorem dX7_all_15 : decode cX7_all 15 = .ok (.iaload, 1) := by decide +kernel
theorem dX7_all_16 : decode cX7_all 16 = .ok (.iadd, 1) := by decide +kernel
theorem dX7_all_17 : decode cX7_all 17 = .ok (.istore_n 2, 1) := by decide +kernel
theorem dX7_all_18 : decode cX7_all 18 = .ok (.iinc 3 1, 3) := by decide +kernel
theorem dX7_all_21 : decode cX7_all 21 = .ok (.goto (-17), 3) := by decide +kernel
theorem dX7_all_24 : decode cX7_all 24 = .ok (.iload_n 2, 1) := by decide +kernel
theorem dX7_all_25 : decode cX7_all 25 = .ok (.ireturn, 1) := by decide +kernel
theorem dX7_put_0 : decode cX7_put 0 = .ok (.aload_n 0, 1) := by decide +kernel
theorem dX7_put_1 : decode cX7_put 1 = .ok (.iconst 0, 1) := by decide +kernel
theorem dX7_put_2 : decode cX7_put 2 = .ok (.putfield 57, 3) := by decide +kernel
theorem dX7_put_5 : decode cX7_put 5 = .ok (.iload_n 1, 1) := by decide +kernel
theorem dX7_put_6 : decode cX7_put 6 = .ok (.iconst 0, 1) := by decide +kernel
theorem dX7_put_7 : decode cX7_put 7 = .ok (.aload_n 0, 1) := by decide +kernel
theorem dX7_put_8 : decode cX7_put 8 = .ok (.invokevirtual 60, 3) := by decide +kernel
theorem dX7_put_11 : decode cX7_put 11 = .ok (.iconst 1, 1) := by decide +kernel
theorem dX7_put_12 : decode cX7_put 12 = .ok (.isub, 1) := by decide +kernel
theorem dX7_put_13 : decode cX7_put 13 = .ok (.invokestatic 72, 3) := by decide +kernel
theorem dX7_put_16 : decode cX7_put 16 = .ok (.ifCond .eq 13, 3) := by decide +kernel
theorem dX7_put_19 : decode cX7_put 19 = .ok (.iload_n 2, 1) := by decide +kernel
theorem dX7_put_20 : decode cX7_put 20 = .ok (.iconst 0, 1) := by decide +kernel
theorem dX7_put_21 : decode cX7_put 21 = .ok (.bipush 6, 2) := by decide +kernel
theorem dX7_put_23 : decode cX7_put 23 = .ok (.invokestatic 72, 3) := by decide +kernel
theorem dX7_put_26 : decode cX7_put 26 = .ok (.ifCond .ne 5, 3) := by decide +kernel
theorem dX7_put_29 : decode cX7_put 29 = .ok (.iconst (-1), 1) := by decide +kernel
theorem dX7_put_30 : decode cX7_put 30 = .ok (.ireturn, 1) := by decide +kernel
theorem dX7_put_31 : decode cX7_put 31 = .ok (.aload_n 0, 1) := by decide +kernel
theorem dX7_put_32 : decode cX7_put 32 = .ok (.getfield 19, 3) := by decide +kernel
theorem dX7_put_35 : decode cX7_put 35 = .ok (.iload_n 1, 1) := by decide +kernel
theorem dX7_put_36 : decode cX7_put 36 = .ok (.iaload, 1) := by decide +kernel
theorem dX7_put_37 : decode cX7_put 37 = .ok (.istore_n 3, 1) := by decide +kernel
theorem dX7_put_38 : decode cX7_put 38 = .ok (.aload_n 0, 1) := by decide +kernel
theorem dX7_put_39 : decode cX7_put 39 = .ok (.aload_n 0, 1) := by decide +kernel
theorem dX7_put_40 : decode cX7_put 40 = .ok (.getfield 19, 3) := by decide +kernel
theorem dX7_put_43 : decode cX7_put 43 = .ok (.invokevirtual 82, 3) := by decide +kernel
theorem dX7_put_46 : decode cX7_put 46 = .ok (.iload_n 3, 1) := by decide +kernel
theorem dX7_put_47 : decode cX7_put 47 = .ok (.isub, 1) := by decide +kernel
theorem dX7_put_48 : decode cX7_put 48 = .ok (.iload_n 2, 1) := by decide +kernel
theorem dX7_put_49 : decode cX7_put 49 = .ok (.iadd, 1) := by decide +kernel
theorem dX7_put_50 : decode cX7_put 50 = .ok (.bipush 6, 2) := by decide +kernel
theorem dX7_put_52 : decode cX7_put 52 = .ok (.if_icmp .le 6, 3) := by decide +kernel
theorem dX7_put_55 : decode cX7_put 55 = .ok (.bipush (-3), 2) := by decide +kernel
theorem dX7_put_57 : decode cX7_put 57 = .ok (.ireturn, 1) := by decide +kernel
theorem dX7_put_58 : decode cX7_put 58 = .ok (.aload_n 0, 1) := by decide +kernel
theorem dX7_put_59 : decode cX7_put 59 = .ok (.getfield 19, 3) := by decide +kernel
theorem dX7_put_62 : decode cX7_put 62 = .ok (.iload_n 1, 1) := by decide +kernel
theorem dX7_put_63 : decode cX7_put 63 = .ok (.iload_n 2, 1) := by decide +kernel
theorem dX7_put_64 : decode cX7_put 64 = .ok (.iastore, 1) := by decide +kernel
theorem dX7_put_65 : decode cX7_put 65 = .ok (.iload_n 3, 1) := by decide +kernel
theorem dX7_put_66 : decode cX7_put 66 = .ok (.ireturn, 1) := by decide +kernel
theorem dX7_sizeOf_0 : decode cX7_sizeOf 0 = .ok (.iconst 0, 1) := by decide +kernel
theorem dX7_sizeOf_1 : decode cX7_sizeOf 1 = .ok (.istore_n 3, 1) := by decide +kernel
theorem dX7_sizeOf_2 : decode cX7_sizeOf 2 = .ok (.iconst 0, 1) := by decide +kernel
theorem dX7_sizeOf_3 : decode cX7_sizeOf 3 = .ok (.istore 4, 2) := by decide +kernel
theorem dX7_sizeOf_5 : decode cX7_sizeOf 5 = .ok (.iload 4, 2) := by decide +kernel
theorem dX7_sizeOf_7 : decode cX7_sizeOf 7 = .ok (.aload_n 0, 1) := by decide +kernel
theorem dX7_sizeOf_8 : decode cX7_sizeOf 8 = .ok (.invokevirtual 60, 3) := by decide +kernel
theorem dX7_sizeOf_11 : decode cX7_sizeOf 11 = .ok (.if_icmp .ge 30, 3) := by decide +kernel
theorem dX7_sizeOf_14 : decode cX7_sizeOf 14 = .ok (.iload_n 3, 1) := by decide +kernel
theorem dX7_sizeOf_15 : decode cX7_sizeOf 15 = .ok (.iload_n 1, 1) := by decide +kernel
theorem dX7_sizeOf_16 : decode cX7_sizeOf 16 = .ok (.iload 4, 2) := by decide +kernel
theorem dX7_sizeOf_18 : decode cX7_sizeOf 18 = .ok (.ishr, 1) := by decide +kernel
theorem dX7_sizeOf_19 : decode cX7_sizeOf 19 = .ok (.iconst 1, 1) := by decide +kernel
theorem dX7_sizeOf_20 : decode cX7_sizeOf 20 = .ok (.iand, 1) := by decide +kernel
theorem dX7_sizeOf_21 : decode cX7_sizeOf 21 = .ok (.iconst 1, 1) := by decide +kernel
theorem dX7_sizeOf_22 : decode cX7_sizeOf 22 = .ok (.if_icmp .ne 10, 3) := by decide +kernel
theorem dX7_sizeOf_25 : decode cX7_sizeOf 25 = .ok (.aload_n 2, 1) := by decide +kernel
theorem dX7_sizeOf_26 : decode cX7_sizeOf 26 = .ok (.iload 4, 2) := by decide +kernel
theorem dX7_sizeOf_28 : decode cX7_sizeOf 28 = .ok (.iaload, 1) := by decide +kernel
theorem dX7_sizeOf_29 : decode cX7_sizeOf 29 = .ok (.goto 4, 3) := by decide +kernel
theorem dX7_sizeOf_32 : decode cX7_sizeOf 32 = .ok (.iconst 0, 1) := by decide +kernel
theorem dX7_sizeOf_33 : decode cX7_sizeOf 33 = .ok (.iadd, 1) := by decide +kernel
theorem dX7_sizeOf_34 : decode cX7_sizeOf 34 = .ok (.istore_n 3, 1) := by decide +kernel
theorem dX7_sizeOf_35 : decode cX7_sizeOf 35 = .ok (.iinc 4 1, 3) := by decide +kernel
theorem dX7_sizeOf_38 : decode cX7_sizeOf 38 = .ok (.goto (-33), 3) := by decide +kernel
theorem dX7_sizeOf_41 : decode cX7_sizeOf 41 = .ok (.iload_n 3, 1) := by decide +kernel
theorem dX7_sizeOf_42 : decode cX7_sizeOf 42 = .ok (.ireturn, 1) := by decide +kernel
theorem dX7_isSo_0 : decode cX7_isSo 0 = .ok (.aload_n 0, 1) := by decide +kernel
theorem dX7_isSo_1 : decode cX7_isSo 1 = .ok (.getfield 26, 3) := by decide +kernel
theorem dX7_isSo_4 : decode cX7_isSo 4 = .ok (.bipush 6, 2) := by decide +kernel
theorem dX7_isSo_6 : decode cX7_isSo 6 = .ok (.iload_n 1, 1) := by decide +kernel
theorem dX7_isSo_7 : decode cX7_isSo 7 = .ok (.imul, 1) := by decide +kernel
theorem dX7_isSo_8 : decode cX7_isSo 8 = .ok (.iconst 1, 1) := by decide +kernel
theorem dX7_isSo_9 : decode cX7_isSo 9 = .ok (.iadd, 1) := by decide +kernel
theorem dX7_isSo_10 : decode cX7_isSo 10 = .ok (.iaload, 1) := by decide +kernel
theorem dX7_isSo_11 : decode cX7_isSo 11 = .ok (.istore_n 3, 1) := by decide +kernel
theorem dX7_isSo_12 : decode cX7_isSo 12 = .ok (.aload_n 0, 1) := by decide +kernel
theorem dX7_isSo_13 : decode cX7_isSo 13 = .ok (.getfield 26, 3) := by decide +kernel
theorem dX7_isSo_16 : decode cX7_isSo 16 = .ok (.bipush 6, 2) := by decide +kernel
theorem dX7_isSo_18 : decode cX7_isSo 18 = .ok (.iload_n 1, 1) := by decide +kernel
theorem dX7_isSo_19 : decode cX7_isSo 19 = .ok (.imul, 1) := by decide +kernel
theorem dX7_isSo_20 : decode cX7_isSo 20 = .ok (.iconst 2, 1) := by decide +kernel
theorem dX7_isSo_21 : decode cX7_isSo 21 = .ok (.iadd, 1) := by decide +kernel
theorem dX7_isSo_22 : decode cX7_isSo 22 = .ok (.iaload, 1) := by decide +kernel
theorem dX7_isSo_23 : decode cX7_isSo 23 = .ok (.istore 4, 2) := by decide +kernel
theorem dX7_isSo_25 : decode cX7_isSo 25 = .ok (.aload_n 0, 1) := by decide +kernel
theorem dX7_isSo_26 : decode cX7_isSo 26 = .ok (.iload_n 3, 1) := by decide +kernel
theorem dX7_isSo_27 : decode cX7_isSo 27 = .ok (.iload 4, 2) := by decide +kernel
theorem dX7_isSo_29 : decode cX7_isSo 29 = .ok (.iand, 1) := by decide +kernel
theorem dX7_isSo_30 : decode cX7_isSo 30 = .ok (.aload_n 2, 1) := by decide +kernel
theorem dX7_isSo_31 : decode cX7_isSo 31 = .ok (.invokevirtual 86, 3) := by decide +kernel
theorem dX7_isSo_34 : decode cX7_isSo 34 = .ok (.istore 5, 2) := by decide +kernel
theorem dX7_isSo_36 : decode cX7_isSo 36 = .ok (.aload_n 0, 1) := by decide +kernel
theorem dX7_isSo_37 : decode cX7_isSo 37 = .ok (.iload_n 3, 1) := by decide +kernel
theorem dX7_isSo_38 : decode cX7_isSo 38 = .ok (.aload_n 2, 1) := by decide +kernel
theorem dX7_isSo_39 : decode cX7_isSo 39 = .ok (.invokevirtual 86, 3) := by decide +kernel
theorem dX7_isSo_42 : decode cX7_isSo 42 = .ok (.istore 6, 2) := by decide +kernel
theorem dX7_isSo_44 : decode cX7_isSo 44 = .ok (.aload_n 0, 1) := by decide +kernel
theorem dX7_isSo_45 : decode cX7_isSo 45 = .ok (.getfield 26, 3) := by decide +kernel
theorem dX7_isSo_48 : decode cX7_isSo 48 = .ok (.bipush 6, 2) := by decide +kernel
theorem dX7_isSo_50 : decode cX7_isSo 50 = .ok (.iload_n 1, 1) := by decide +kernel
theorem dX7_isSo_51 : decode cX7_isSo 51 = .ok (.imul, 1) := by decide +kernel
theorem dX7_isSo_52 : decode cX7_isSo 52 = .ok (.iconst 3, 1) := by decide +kernel
theorem dX7_isSo_53 : decode cX7_isSo 53 = .ok (.iadd, 1) := by decide +kernel
theorem dX7_isSo_54 : decode cX7_isSo 54 = .ok (.iaload, 1) := by decide +kernel
theorem dX7_isSo_55 : decode cX7_isSo 55 = .ok (.istore 7, 2) := by decide +kernel
theorem dX7_isSo_57 : decode cX7_isSo 57 = .ok (.aload_n 0, 1) := by decide +kernel
theorem dX7_isSo_58 : decode cX7_isSo 58 = .ok (.getfield 26, 3) := by decide +kernel
theorem dX7_isSo_61 : decode cX7_isSo 61 = .ok (.bipush 6, 2) := by decide +kernel
theorem dX7_isSo_63 : decode cX7_isSo 63 = .ok (.iload_n 1, 1) := by decide +kernel
theorem dX7_isSo_64 : decode cX7_isSo 64 = .ok (.imul, 1) := by decide +kernel
theorem dX7_isSo_65 : decode cX7_isSo 65 = .ok (.iaload, 1) := by decide +kernel
theorem dX7_isSo_66 : decode cX7_isSo 66 = .ok (.tableswitch 164 0 6 #[42, 59, 74, 89, 108, 125, 142], 42) := by decide +kernel
theorem dX7_isSo_108 : decode cX7_isSo 108 = .ok (.iload 5, 2) := by decide +kernel
theorem dX7_isSo_110 : decode cX7_isSo 110 = .ok (.iload 6, 2) := by decide +kernel
theorem dX7_isSo_112 : decode cX7_isSo 112 = .ok (.if_icmp .ne 7, 3) := by decide +kernel
theorem dX7_isSo_115 : decode cX7_isSo 115 = .ok (.iconst 1, 1) := by decide +kernel
theorem dX7_isSo_116 : decode cX7_isSo 116 = .ok (.goto 4, 3) := by decide +kernel
theorem dX7_isSo_119 : decode cX7_isSo 119 = .ok (.iconst 0, 1) := by decide +kernel
theorem dX7_isSo_120 : decode cX7_isSo 120 = .ok (.istore 8, 2) := by decide +kernel
theorem dX7_isSo_122 : decode cX7_isSo 122 = .ok (.goto 127, 3) := by decide +kernel
theorem dX7_isSo_125 : decode cX7_isSo 125 = .ok (.iload 5, 2) := by decide +kernel
theorem dX7_isSo_127 : decode cX7_isSo 127 = .ok (.ifCond .le 7, 3) := by decide +kernel
theorem dX7_isSo_130 : decode cX7_isSo 130 = .ok (.iconst 1, 1) := by decide +kernel
theorem dX7_isSo_131 : decode cX7_isSo 131 = .ok (.goto 4, 3) := by decide +kernel
theorem dX7_isSo_134 : decode cX7_isSo 134 = .ok (.iconst 0, 1) := by decide +kernel
theorem dX7_isSo_135 : decode cX7_isSo 135 = .ok (.istore 8, 2) := by decide +kernel
theorem dX7_isSo_137 : decode cX7_isSo 137 = .ok (.goto 112, 3) := by decide +kernel
theorem dX7_isSo_140 : decode cX7_isSo 140 = .ok (.iload 5, 2) := by decide +kernel
theorem dX7_isSo_142 : decode cX7_isSo 142 = .ok (.ifCond .ne 7, 3) := by decide +kernel
theorem dX7_isSo_145 : decode cX7_isSo 145 = .ok (.iconst 1, 1) := by decide +kernel
theorem dX7_isSo_146 : decode cX7_isSo 146 = .ok (.goto 4, 3) := by decide +kernel
theorem dX7_isSo_149 : decode cX7_isSo 149 = .ok (.iconst 0, 1) := by decide +kernel
theorem dX7_isSo_150 : decode cX7_isSo 150 = .ok (.istore 8, 2) := by decide +kernel
theorem dX7_isSo_152 : decode cX7_isSo 152 = .ok (.goto 97, 3) := by decide +kernel
theorem dX7_isSo_155 : decode cX7_isSo 155 = .ok (.iconst 2, 1) := by decide +kernel
theorem dX7_isSo_156 : decode cX7_isSo 156 = .ok (.iload 5, 2) := by decide +kernel
theorem dX7_isSo_158 : decode cX7_isSo 158 = .ok (.imul, 1) := by decide +kernel
theorem dX7_isSo_159 : decode cX7_isSo 159 = .ok (.iload 6, 2) := by decide +kernel
theorem dX7_isSo_161 : decode cX7_isSo 161 = .ok (.if_icmp .le 7, 3) := by decide +kernel
theorem dX7_isSo_164 : decode cX7_isSo 164 = .ok (.iconst 1, 1) := by decide +kernel
theorem dX7_isSo_165 : decode cX7_isSo 165 = .ok (.goto 4, 3) := by decide +kernel
theorem dX7_isSo_168 : decode cX7_isSo 168 = .ok (.iconst 0, 1) := by decide +kernel
theorem dX7_isSo_169 : decode cX7_isSo 169 = .ok (.istore 8, 2) := by decide +kernel
theorem dX7_isSo_171 : decode cX7_isSo 171 = .ok (.goto 78, 3) := by decide +kernel
theorem dX7_isSo_174 : decode cX7_isSo 174 = .ok (.iload 5, 2) := by decide +kernel
theorem dX7_isSo_176 : decode cX7_isSo 176 = .ok (.iload 7, 2) := by decide +kernel
theorem dX7_isSo_178 : decode cX7_isSo 178 = .ok (.if_icmp .lt 7, 3) := by decide +kernel
theorem dX7_isSo_181 : decode cX7_isSo 181 = .ok (.iconst 1, 1) := by decide +kernel
theorem dX7_isSo_182 : decode cX7_isSo 182 = .ok (.goto 4, 3) := by decide +kernel
theorem dX7_isSo_185 : decode cX7_isSo 185 = .ok (.iconst 0, 1) := by decide +kernel
theorem dX7_isSo_186 : decode cX7_isSo 186 = .ok (.istore 8, 2) := by decide +kernel
theorem dX7_isSo_188 : decode cX7_isSo 188 = .ok (.goto 61, 3) := by decide +kernel
theorem dX7_isSo_191 : decode cX7_isSo 191 = .ok (.iload 5, 2) := by decide +kernel
theorem dX7_isSo_193 : decode cX7_isSo 193 = .ok (.iload 7, 2) := by decide +kernel
theorem dX7_isSo_195 : decode cX7_isSo 195 = .ok (.if_icmp .ne 7, 3) := by decide +kernel
theorem dX7_isSo_198 : decode cX7_isSo 198 = .ok (.iconst 1, 1) := by decide +kernel
theorem dX7_isSo_199 : decode cX7_isSo 199 = .ok (.goto 4, 3) := by decide +kernel
theorem dX7_isSo_202 : decode cX7_isSo 202 = .ok (.iconst 0, 1) := by decide +kernel
theorem dX7_isSo_203 : decode cX7_isSo 203 = .ok (.istore 8, 2) := by decide +kernel
theorem dX7_isSo_205 : decode cX7_isSo 205 = .ok (.goto 44, 3) := by decide +kernel
theorem dX7_isSo_208 : decode cX7_isSo 208 = .ok (.iload 6, 2) := by decide +kernel
theorem dX7_isSo_210 : decode cX7_isSo 210 = .ok (.aload_n 0, 1) := by decide +kernel
theorem dX7_isSo_211 : decode cX7_isSo 211 = .ok (.iload 4, 2) := by decide +kernel
theorem dX7_isSo_213 : decode cX7_isSo 213 = .ok (.aload_n 2, 1) := by decide +kernel
theorem dX7_isSo_214 : decode cX7_isSo 214 = .ok (.invokevirtual 86, 3) := by decide +kernel
theorem dX7_isSo_217 : decode cX7_isSo 217 = .ok (.if_icmp .le 7, 3) := by decide +kernel
theorem dX7_isSo_220 : decode cX7_isSo 220 = .ok (.iconst 1, 1) := by decide +kernel
theorem dX7_isSo_221 : decode cX7_isSo 221 = .ok (.goto 4, 3) := by decide +kernel
theorem dX7_isSo_224 : decode cX7_isSo 224 = .ok (.iconst 0, 1) := by decide +kernel
theorem dX7_isSo_225 : decode cX7_isSo 225 = .ok (.istore 8, 2) := by decide +kernel
theorem dX7_isSo_227 : decode cX7_isSo 227 = .ok (.goto 22, 3) := by decide +kernel
theorem dX7_isSo_230 : decode cX7_isSo 230 = .ok (.iload 6, 2) := by decide +kernel
theorem dX7_isSo_232 : decode cX7_isSo 232 = .ok (.aload_n 0, 1) := by decide +kernel
theorem dX7_isSo_233 : decode cX7_isSo 233 = .ok (.iload 4, 2) := by decide +kernel
theorem dX7_isSo_235 : decode cX7_isSo 235 = .ok (.aload_n 2, 1) := by decide +kernel
theorem dX7_isSo_236 : decode cX7_isSo 236 = .ok (.invokevirtual 86, 3) := by decide +kernel
theorem dX7_isSo_239 : decode cX7_isSo 239 = .ok (.if_icmp .ne 7, 3) := by decide +kernel
theorem dX7_isSo_242 : decode cX7_isSo 242 = .ok (.iconst 1, 1) := by decide +kernel
theorem dX7_isSo_243 : decode cX7_isSo 243 = .ok (.goto 4, 3) := by decide +kernel
theorem dX7_isSo_246 : decode cX7_isSo 246 = .ok (.iconst 0, 1) := by decide +kernel
theorem dX7_isSo_247 : decode cX7_isSo 247 = .ok (.istore 8, 2) := by decide +kernel
theorem dX7_isSo_249 : decode cX7_isSo 249 = .ok (.iload 8, 2) := by decide +kernel
theorem dX7_isSo_251 : decode cX7_isSo 251 = .ok (.aload_n 0, 1) := by decide +kernel
theorem dX7_isSo_252 : decode cX7_isSo 252 = .ok (.getfield 26, 3) := by decide +kernel
theorem dX7_isSo_255 : decode cX7_isSo 255 = .ok (.bipush 6, 2) := by decide +kernel
theorem dX7_isSo_257 : decode cX7_isSo 257 = .ok (.iload_n 1, 1) := by decide +kernel
theorem dX7_isSo_258 : decode cX7_isSo 258 = .ok (.imul, 1) := by decide +kernel
theorem dX7_isSo_259 : decode cX7_isSo 259 = .ok (.iconst 4, 1) := by decide +kernel
theorem dX7_isSo_260 : decode cX7_isSo 260 = .ok (.iadd, 1) := by decide +kernel
theorem dX7_isSo_261 : decode cX7_isSo 261 = .ok (.iaload, 1) := by decide +kernel
theorem dX7_isSo_262 : decode cX7_isSo 262 = .ok (.iconst 1, 1) := by decide +kernel
theorem dX7_isSo_263 : decode cX7_isSo 263 = .ok (.if_icmp .ne 7, 3) := by decide +kernel
theorem dX7_isSo_266 : decode cX7_isSo 266 = .ok (.iconst 1, 1) := by decide +kernel
theorem dX7_isSo_267 : decode cX7_isSo 267 = .ok (.goto 4, 3) := by decide +kernel
theorem dX7_isSo_270 : decode cX7_isSo 270 = .ok (.iconst 0, 1) := by decide +kernel
theorem dX7_isSo_271 : decode cX7_isSo 271 = .ok (.if_icmp .eq 7, 3) := by decide +kernel
theorem dX7_isSo_274 : decode cX7_isSo 274 = .ok (.iconst 1, 1) := by decide +kernel
theorem dX7_isSo_275 : decode cX7_isSo 275 = .ok (.goto 4, 3) := by decide +kernel
theorem dX7_isSo_278 : decode cX7_isSo 278 = .ok (.iconst 0, 1) := by decide +kernel
theorem dX7_isSo_279 : decode cX7_isSo 279 = .ok (.ireturn, 1) := by decide +kernel
theorem dX7_holds_0 : decode cX7_holds 0 = .ok (.aload_n 0, 1) := by decide +kernel
theorem dX7_holds_1 : decode cX7_holds 1 = .ok (.iconst 0, 1) := by decide +kernel
theorem dX7_holds_2 : decode cX7_holds 2 = .ok (.putfield 57, 3) := by decide +kernel
theorem dX7_holds_5 : decode cX7_holds 5 = .ok (.iload_n 1, 1) := by decide +kernel
theorem dX7_holds_6 : decode cX7_holds 6 = .ok (.invokestatic 90, 3) := by decide +kernel
theorem dX7_holds_9 : decode cX7_holds 9 = .ok (.ifCond .ne 7, 3) := by decide +kernel
theorem dX7_holds_12 : decode cX7_holds 12 = .ok (.iconst (-1), 1) := by decide +kernel
theorem dX7_holds_13 : decode cX7_holds 13 = .ok (.goto 20, 3) := by decide +kernel
theorem dX7_holds_16 : decode cX7_holds 16 = .ok (.aload_n 0, 1) := by decide +kernel
theorem dX7_holds_17 : decode cX7_holds 17 = .ok (.iload_n 1, 1) := by decide +kernel
theorem dX7_holds_18 : decode cX7_holds 18 = .ok (.aload_n 0, 1) := by decide +kernel
theorem dX7_holds_19 : decode cX7_holds 19 = .ok (.getfield 19, 3) := by decide +kernel
theorem dX7_holds_22 : decode cX7_holds 22 = .ok (.invokevirtual 94, 3) := by decide +kernel
theorem dX7_holds_25 : decode cX7_holds 25 = .ok (.ifCond .eq 7, 3) := by decide +kernel
theorem dX7_holds_28 : decode cX7_holds 28 = .ok (.iconst 1, 1) := by decide +kernel
theorem dX7_holds_29 : decode cX7_holds 29 = .ok (.goto 4, 3) := by decide +kernel
theorem dX7_holds_32 : decode cX7_holds 32 = .ok (.iconst 0, 1) := by decide +kernel
theorem dX7_holds_33 : decode cX7_holds 33 = .ok (.ireturn, 1) := by decide +kernel
theorem dX7_size_0 : decode cX7_size 0 = .ok (.aload_n 0, 1) := by decide +kernel
theorem dX7_size_1 : decode cX7_size 1 = .ok (.iconst 0, 1) := by decide +kernel
theorem dX7_size_2 : decode cX7_size 2 = .ok (.putfield 57, 3) := by decide +kernel
theorem dX7_size_5 : decode cX7_size 5 = .ok (.iload_n 1, 1) := by decide +kernel
theorem dX7_size_6 : decode cX7_size 6 = .ok (.invokestatic 90, 3) := by decide +kernel
theorem dX7_size_9 : decode cX7_size 9 = .ok (.ifCond .eq 12, 3) := by decide +kernel
theorem dX7_size_12 : decode cX7_size 12 = .ok (.iload_n 2, 1) := by decide +kernel
theorem dX7_size_13 : decode cX7_size 13 = .ok (.iconst 0, 1) := by decide +kernel
theorem dX7_size_14 : decode cX7_size 14 = .ok (.iconst 2, 1) := by decide +kernel
theorem dX7_size_15 : decode cX7_size 15 = .ok (.invokestatic 72, 3) := by decide +kernel
theorem dX7_size_18 : decode cX7_size 18 = .ok (.ifCond .ne 5, 3) := by decide +kernel
theorem dX7_size_21 : decode cX7_size 21 = .ok (.iconst (-1), 1) := by decide +kernel
theorem dX7_size_22 : decode cX7_size 22 = .ok (.ireturn, 1) := by decide +kernel
theorem dX7_size_23 : decode cX7_size 23 = .ok (.aload_n 0, 1) := by decide +kernel
theorem dX7_size_24 : decode cX7_size 24 = .ok (.getfield 26, 3) := by decide +kernel
theorem dX7_size_27 : decode cX7_size 27 = .ok (.bipush 6, 2) := by decide +kernel
theorem dX7_size_29 : decode cX7_size 29 = .ok (.iload_n 1, 1) := by decide +kernel
theorem dX7_size_30 : decode cX7_size 30 = .ok (.imul, 1) := by decide +kernel
theorem dX7_size_31 : decode cX7_size 31 = .ok (.iconst 1, 1) := by decide +kernel
theorem dX7_size_32 : decode cX7_size 32 = .ok (.iadd, 1) := by decide +kernel
theorem dX7_size_33 : decode cX7_size 33 = .ok (.iaload, 1) := by decide +kernel
theorem dX7_size_34 : decode cX7_size 34 = .ok (.istore_n 3, 1) := by decide +kernel
theorem dX7_size_35 : decode cX7_size 35 = .ok (.aload_n 0, 1) := by decide +kernel
theorem dX7_size_36 : decode cX7_size 36 = .ok (.getfield 26, 3) := by decide +kernel
theorem dX7_size_39 : decode cX7_size 39 = .ok (.bipush 6, 2) := by decide +kernel
theorem dX7_size_41 : decode cX7_size 41 = .ok (.iload_n 1, 1) := by decide +kernel
theorem dX7_size_42 : decode cX7_size 42 = .ok (.imul, 1) := by decide +kernel
theorem dX7_size_43 : decode cX7_size 43 = .ok (.iconst 2, 1) := by decide +kernel
theorem dX7_size_44 : decode cX7_size 44 = .ok (.iadd, 1) := by decide +kernel
theorem dX7_size_45 : decode cX7_size 45 = .ok (.iaload, 1) := by decide +kernel
theorem dX7_size_46 : decode cX7_size 46 = .ok (.istore 4, 2) := by decide +kernel
theorem dX7_size_48 : decode cX7_size 48 = .ok (.aload_n 0, 1) := by decide +kernel
theorem dX7_size_49 : decode cX7_size 49 = .ok (.iload_n 2, 1) := by decide +kernel
theorem dX7_size_50 : decode cX7_size 50 = .ok (.ifCond .ne 7, 3) := by decide +kernel
theorem dX7_size_53 : decode cX7_size 53 = .ok (.iload_n 3, 1) := by decide +kernel
theorem dX7_size_54 : decode cX7_size 54 = .ok (.goto 17, 3) := by decide +kernel
theorem dX7_size_57 : decode cX7_size 57 = .ok (.iload_n 2, 1) := by decide +kernel
theorem dX7_size_58 : decode cX7_size 58 = .ok (.iconst 1, 1) := by decide +kernel
theorem dX7_size_59 : decode cX7_size 59 = .ok (.if_icmp .ne 8, 3) := by decide +kernel
theorem dX7_size_62 : decode cX7_size 62 = .ok (.iload 4, 2) := by decide +kernel
theorem dX7_size_64 : decode cX7_size 64 = .ok (.goto 7, 3) := by decide +kernel
theorem dX7_size_67 : decode cX7_size 67 = .ok (.iload_n 3, 1) := by decide +kernel
theorem dX7_size_68 : decode cX7_size 68 = .ok (.iload 4, 2) := by decide +kernel
theorem dX7_size_70 : decode cX7_size 70 = .ok (.iand, 1) := by decide +kernel
theorem dX7_size_71 : decode cX7_size 71 = .ok (.aload_n 0, 1) := by decide +kernel
theorem dX7_size_72 : decode cX7_size 72 = .ok (.getfield 19, 3) := by decide +kernel
theorem dX7_size_75 : decode cX7_size 75 = .ok (.invokevirtual 86, 3) := by decide +kernel
theorem dX7_size_78 : decode cX7_size 78 = .ok (.ireturn, 1) := by decide +kernel
theorem dX7_type_0 : decode cX7_type 0 = .ok (.aload_n 0, 1) := by decide +kernel
theorem dX7_type_1 : decode cX7_type 1 = .ok (.iconst 0, 1) := by decide +kernel
theorem dX7_type_2 : decode cX7_type 2 = .ok (.putfield 57, 3) := by decide +kernel
theorem dX7_type_5 : decode cX7_type 5 = .ok (.iload_n 3, 1) := by decide +kernel
theorem dX7_type_6 : decode cX7_type 6 = .ok (.iconst 1, 1) := by decide +kernel
theorem dX7_type_7 : decode cX7_type 7 = .ok (.bipush 8, 2) := by decide +kernel
theorem dX7_type_9 : decode cX7_type 9 = .ok (.invokestatic 72, 3) := by decide +kernel
theorem dX7_type_12 : decode cX7_type 12 = .ok (.ifCond .ne 5, 3) := by decide +kernel
theorem dX7_type_15 : decode cX7_type 15 = .ok (.iconst (-1), 1) := by decide +kernel
theorem dX7_type_16 : decode cX7_type 16 = .ok (.ireturn, 1) := by decide +kernel
theorem dX7_type_17 : decode cX7_type 17 = .ok (.aload_n 0, 1) := by decide +kernel
theorem dX7_type_18 : decode cX7_type 18 = .ok (.getfield 98, 3) := by decide +kernel
theorem dX7_type_21 : decode cX7_type 21 = .ok (.iload_n 3, 1) := by decide +kernel
theorem dX7_type_22 : decode cX7_type 22 = .ok (.iadd, 1) := by decide +kernel
theorem dX7_type_23 : decode cX7_type 23 = .ok (.bipush 80, 2) := by decide +kernel
theorem dX7_type_25 : decode cX7_type 25 = .ok (.if_icmp .le 6, 3) := by decide +kernel
end
section
theorem dX7_type_28 : decode cX7_type 28 = .ok (.bipush (-3), 2) := by decide +kernel
theorem dX7_type_30 : decode cX7_type 30 = .ok (.ireturn, 1) := by decide +kernel
theorem dX7_type_31 : decode cX7_type 31 = .ok (.iload_n 3, 1) := by decide +kernel
theorem dX7_type_32 : decode cX7_type 32 = .ok (.iconst 1, 1) := by decide +kernel
theorem dX7_type_33 : decode cX7_type 33 = .ok (.isub, 1) := by decide +kernel
theorem dX7_type_34 : decode cX7_type 34 = .ok (.istore 4, 2) := by decide +kernel
theorem dX7_type_36 : decode cX7_type 36 = .ok (.iload 4, 2) := by decide +kernel
theorem dX7_type_38 : decode cX7_type 38 = .ok (.ifCond .lt 40, 3) := by decide +kernel
theorem dX7_type_41 : decode cX7_type 41 = .ok (.aload_n 0, 1) := by decide +kernel
theorem dX7_type_42 : decode cX7_type 42 = .ok (.getfield 23, 3) := by decide +kernel
theorem dX7_type_45 : decode cX7_type 45 = .ok (.aload_n 0, 1) := by decide +kernel
theorem dX7_type_46 : decode cX7_type 46 = .ok (.getfield 98, 3) := by decide +kernel
theorem dX7_type_49 : decode cX7_type 49 = .ok (.lload_n 1, 1) := by decide +kernel
theorem dX7_type_50 : decode cX7_type 50 = .ok (.bipush 8, 2) := by decide +kernel
theorem dX7_type_52 : decode cX7_type 52 = .ok (.iload 4, 2) := by decide +kernel
theorem dX7_type_54 : decode cX7_type 54 = .ok (.imul, 1) := by decide +kernel
theorem dX7_type_55 : decode cX7_type 55 = .ok (.lshr, 1) := by decide +kernel
theorem dX7_type_56 : decode cX7_type 56 = .ok (.ldc2_w 101, 3) := by decide +kernel
theorem dX7_type_59 : decode cX7_type 59 = .ok (.land, 1) := by decide +kernel
theorem dX7_type_60 : decode cX7_type 60 = .ok (.l2i, 1) := by decide +kernel
theorem dX7_type_61 : decode cX7_type 61 = .ok (.iastore, 1) := by decide +kernel
theorem dX7_type_62 : decode cX7_type 62 = .ok (.aload_n 0, 1) := by decide +kernel
theorem dX7_type_63 : decode cX7_type 63 = .ok (.dup, 1) := by decide +kernel
theorem dX7_type_64 : decode cX7_type 64 = .ok (.getfield 98, 3) := by decide +kernel
theorem dX7_type_67 : decode cX7_type 67 = .ok (.iconst 1, 1) := by decide +kernel
theorem dX7_type_68 : decode cX7_type 68 = .ok (.iadd, 1) := by decide +kernel
theorem dX7_type_69 : decode cX7_type 69 = .ok (.putfield 98, 3) := by decide +kernel
theorem dX7_type_72 : decode cX7_type 72 = .ok (.iinc 4 (-1), 3) := by decide +kernel
theorem dX7_type_75 : decode cX7_type 75 = .ok (.goto (-39), 3) := by decide +kernel
theorem dX7_type_78 : decode cX7_type 78 = .ok (.aload_n 0, 1) := by decide +kernel
theorem dX7_type_79 : decode cX7_type 79 = .ok (.getfield 98, 3) := by decide +kernel
theorem dX7_type_82 : decode cX7_type 82 = .ok (.ireturn, 1) := by decide +kernel
theorem dX7_clear_0 : decode cX7_clear 0 = .ok (.aload_n 0, 1) := by decide +kernel
theorem dX7_clear_1 : decode cX7_clear 1 = .ok (.iconst 0, 1) := by decide +kernel
theorem dX7_clear_2 : decode cX7_clear 2 = .ok (.putfield 57, 3) := by decide +kernel
theorem dX7_clear_5 : decode cX7_clear 5 = .ok (.aload_n 0, 1) := by decide +kernel
theorem dX7_clear_6 : decode cX7_clear 6 = .ok (.getfield 98, 3) := by decide +kernel
theorem dX7_clear_9 : decode cX7_clear 9 = .ok (.istore_n 1, 1) := by decide +kernel
theorem dX7_clear_10 : decode cX7_clear 10 = .ok (.aload_n 0, 1) := by decide +kernel
theorem dX7_clear_11 : decode cX7_clear 11 = .ok (.iconst 0, 1) := by decide +kernel
theorem dX7_clear_12 : decode cX7_clear 12 = .ok (.putfield 98, 3) := by decide +kernel
theorem dX7_clear_15 : decode cX7_clear 15 = .ok (.iload_n 1, 1) := by decide +kernel
theorem dX7_clear_16 : decode cX7_clear 16 = .ok (.ireturn, 1) := by decide +kernel
theorem dX7_byteAt_0 : decode cX7_byteAt 0 = .ok (.iload_n 1, 1) := by decide +kernel
theorem dX7_byteAt_1 : decode cX7_byteAt 1 = .ok (.aload_n 0, 1) := by decide +kernel
theorem dX7_byteAt_2 : decode cX7_byteAt 2 = .ok (.getfield 98, 3) := by decide +kernel
theorem dX7_byteAt_5 : decode cX7_byteAt 5 = .ok (.if_icmp .ge 12, 3) := by decide +kernel
theorem dX7_byteAt_8 : decode cX7_byteAt 8 = .ok (.aload_n 0, 1) := by decide +kernel
theorem dX7_byteAt_9 : decode cX7_byteAt 9 = .ok (.getfield 23, 3) := by decide +kernel
theorem dX7_byteAt_12 : decode cX7_byteAt 12 = .ok (.iload_n 1, 1) := by decide +kernel
theorem dX7_byteAt_13 : decode cX7_byteAt 13 = .ok (.iaload, 1) := by decide +kernel
theorem dX7_byteAt_14 : decode cX7_byteAt 14 = .ok (.goto 4, 3) := by decide +kernel
theorem dX7_byteAt_17 : decode cX7_byteAt 17 = .ok (.iconst (-1), 1) := by decide +kernel
theorem dX7_byteAt_18 : decode cX7_byteAt 18 = .ok (.ireturn, 1) := by decide +kernel
theorem dX7_add_0 : decode cX7_add 0 = .ok (.iload_n 2, 1) := by decide +kernel
theorem dX7_add_1 : decode cX7_add 1 = .ok (.ifCond .ne 7, 3) := by decide +kernel
theorem dX7_add_4 : decode cX7_add 4 = .ok (.lload_n 0, 1) := by decide +kernel
theorem dX7_add_5 : decode cX7_add 5 = .ok (.goto 11, 3) := by decide +kernel
theorem dX7_add_8 : decode cX7_add 8 = .ok (.ldc2_w 103, 3) := by decide +kernel
theorem dX7_add_11 : decode cX7_add 11 = .ok (.lload_n 0, 1) := by decide +kernel
theorem dX7_add_12 : decode cX7_add 12 = .ok (.lmul, 1) := by decide +kernel
theorem dX7_add_13 : decode cX7_add 13 = .ok (.iload_n 2, 1) := by decide +kernel
theorem dX7_add_14 : decode cX7_add 14 = .ok (.i2l, 1) := by decide +kernel
theorem dX7_add_15 : decode cX7_add 15 = .ok (.ladd, 1) := by decide +kernel
theorem dX7_add_16 : decode cX7_add 16 = .ok (.lreturn, 1) := by decide +kernel
theorem dX7_word_0 : decode cX7_word 0 = .ok (.lconst 0, 1) := by decide +kernel
theorem dX7_word_1 : decode cX7_word 1 = .ok (.iload_n 0, 1) := by decide +kernel
theorem dX7_word_2 : decode cX7_word 2 = .ok (.invokestatic 105, 3) := by decide +kernel
theorem dX7_word_5 : decode cX7_word 5 = .ok (.iload_n 1, 1) := by decide +kernel
theorem dX7_word_6 : decode cX7_word 6 = .ok (.invokestatic 105, 3) := by decide +kernel
theorem dX7_word_9 : decode cX7_word 9 = .ok (.iload_n 2, 1) := by decide +kernel
theorem dX7_word_10 : decode cX7_word 10 = .ok (.invokestatic 105, 3) := by decide +kernel
theorem dX7_word_13 : decode cX7_word 13 = .ok (.iload_n 3, 1) := by decide +kernel
theorem dX7_word_14 : decode cX7_word 14 = .ok (.invokestatic 105, 3) := by decide +kernel
theorem dX7_word_17 : decode cX7_word 17 = .ok (.iload 4, 2) := by decide +kernel
theorem dX7_word_19 : decode cX7_word 19 = .ok (.invokestatic 105, 3) := by decide +kernel
theorem dX7_word_22 : decode cX7_word 22 = .ok (.lreturn, 1) := by decide +kernel
theorem dX7_wordOf_0 : decode cX7_wordOf 0 = .ok (.lload_n 0, 1) := by decide +kernel
theorem dX7_wordOf_1 : decode cX7_wordOf 1 = .ok (.bipush 97, 2) := by decide +kernel
theorem dX7_wordOf_3 : decode cX7_wordOf 3 = .ok (.bipush 108, 2) := by decide +kernel
theorem dX7_wordOf_5 : decode cX7_wordOf 5 = .ok (.bipush 108, 2) := by decide +kernel
theorem dX7_wordOf_7 : decode cX7_wordOf 7 = .ok (.iconst 0, 1) := by decide +kernel
theorem dX7_wordOf_8 : decode cX7_wordOf 8 = .ok (.iconst 0, 1) := by decide +kernel
theorem dX7_wordOf_9 : decode cX7_wordOf 9 = .ok (.invokestatic 109, 3) := by decide +kernel
theorem dX7_wordOf_12 : decode cX7_wordOf 12 = .ok (.lcmp, 1) := by decide +kernel
theorem dX7_wordOf_13 : decode cX7_wordOf 13 = .ok (.ifCond .ne 7, 3) := by decide +kernel
theorem dX7_wordOf_16 : decode cX7_wordOf 16 = .ok (.iconst 0, 1) := by decide +kernel
theorem dX7_wordOf_17 : decode cX7_wordOf 17 = .ok (.goto 174, 3) := by decide +kernel
theorem dX7_wordOf_20 : decode cX7_wordOf 20 = .ok (.lload_n 0, 1) := by decide +kernel
theorem dX7_wordOf_21 : decode cX7_wordOf 21 = .ok (.bipush 115, 2) := by decide +kernel
theorem dX7_wordOf_23 : decode cX7_wordOf 23 = .ok (.bipush 111, 2) := by decide +kernel
theorem dX7_wordOf_25 : decode cX7_wordOf 25 = .ok (.bipush 109, 2) := by decide +kernel
theorem dX7_wordOf_27 : decode cX7_wordOf 27 = .ok (.bipush 101, 2) := by decide +kernel
theorem dX7_wordOf_29 : decode cX7_wordOf 29 = .ok (.iconst 0, 1) := by decide +kernel
theorem dX7_wordOf_30 : decode cX7_wordOf 30 = .ok (.invokestatic 109, 3) := by decide +kernel
theorem dX7_wordOf_33 : decode cX7_wordOf 33 = .ok (.lcmp, 1) := by decide +kernel
theorem dX7_wordOf_34 : decode cX7_wordOf 34 = .ok (.ifCond .ne 7, 3) := by decide +kernel
theorem dX7_wordOf_37 : decode cX7_wordOf 37 = .ok (.iconst 1, 1) := by decide +kernel
theorem dX7_wordOf_38 : decode cX7_wordOf 38 = .ok (.goto 153, 3) := by decide +kernel
theorem dX7_wordOf_41 : decode cX7_wordOf 41 = .ok (.lload_n 0, 1) := by decide +kernel
theorem dX7_wordOf_42 : decode cX7_wordOf 42 = .ok (.bipush 110, 2) := by decide +kernel
theorem dX7_wordOf_44 : decode cX7_wordOf 44 = .ok (.bipush 111, 2) := by decide +kernel
theorem dX7_wordOf_46 : decode cX7_wordOf 46 = .ok (.iconst 0, 1) := by decide +kernel
theorem dX7_wordOf_47 : decode cX7_wordOf 47 = .ok (.iconst 0, 1) := by decide +kernel
theorem dX7_wordOf_48 : decode cX7_wordOf 48 = .ok (.iconst 0, 1) := by decide +kernel
theorem dX7_wordOf_49 : decode cX7_wordOf 49 = .ok (.invokestatic 109, 3) := by decide +kernel
theorem dX7_wordOf_52 : decode cX7_wordOf 52 = .ok (.lcmp, 1) := by decide +kernel
theorem dX7_wordOf_53 : decode cX7_wordOf 53 = .ok (.ifCond .ne 7, 3) := by decide +kernel
theorem dX7_wordOf_56 : decode cX7_wordOf 56 = .ok (.iconst 2, 1) := by decide +kernel
theorem dX7_wordOf_57 : decode cX7_wordOf 57 = .ok (.goto 134, 3) := by decide +kernel
theorem dX7_wordOf_60 : decode cX7_wordOf 60 = .ok (.lload_n 0, 1) := by decide +kernel
theorem dX7_wordOf_61 : decode cX7_wordOf 61 = .ok (.bipush 109, 2) := by decide +kernel
theorem dX7_wordOf_63 : decode cX7_wordOf 63 = .ok (.bipush 111, 2) := by decide +kernel
theorem dX7_wordOf_65 : decode cX7_wordOf 65 = .ok (.bipush 115, 2) := by decide +kernel
theorem dX7_wordOf_67 : decode cX7_wordOf 67 = .ok (.bipush 116, 2) := by decide +kernel
theorem dX7_wordOf_69 : decode cX7_wordOf 69 = .ok (.iconst 0, 1) := by decide +kernel
theorem dX7_wordOf_70 : decode cX7_wordOf 70 = .ok (.invokestatic 109, 3) := by decide +kernel
theorem dX7_wordOf_73 : decode cX7_wordOf 73 = .ok (.lcmp, 1) := by decide +kernel
theorem dX7_wordOf_74 : decode cX7_wordOf 74 = .ok (.ifCond .ne 7, 3) := by decide +kernel
theorem dX7_wordOf_77 : decode cX7_wordOf 77 = .ok (.iconst 3, 1) := by decide +kernel
theorem dX7_wordOf_78 : decode cX7_wordOf 78 = .ok (.goto 113, 3) := by decide +kernel
theorem dX7_wordOf_81 : decode cX7_wordOf 81 = .ok (.lload_n 0, 1) := by decide +kernel
theorem dX7_wordOf_82 : decode cX7_wordOf 82 = .ok (.bipush 108, 2) := by decide +kernel
theorem dX7_wordOf_84 : decode cX7_wordOf 84 = .ok (.bipush 101, 2) := by decide +kernel
theorem dX7_wordOf_86 : decode cX7_wordOf 86 = .ok (.bipush 97, 2) := by decide +kernel
theorem dX7_wordOf_88 : decode cX7_wordOf 88 = .ok (.bipush 115, 2) := by decide +kernel
theorem dX7_wordOf_90 : decode cX7_wordOf 90 = .ok (.bipush 116, 2) := by decide +kernel
theorem dX7_wordOf_92 : decode cX7_wordOf 92 = .ok (.invokestatic 109, 3) := by decide +kernel
theorem dX7_wordOf_95 : decode cX7_wordOf 95 = .ok (.lcmp, 1) := by decide +kernel
theorem dX7_wordOf_96 : decode cX7_wordOf 96 = .ok (.ifCond .ne 7, 3) := by decide +kernel
theorem dX7_wordOf_99 : decode cX7_wordOf 99 = .ok (.iconst 4, 1) := by decide +kernel
theorem dX7_wordOf_100 : decode cX7_wordOf 100 = .ok (.goto 91, 3) := by decide +kernel
theorem dX7_wordOf_103 : decode cX7_wordOf 103 = .ok (.lload_n 0, 1) := by decide +kernel
theorem dX7_wordOf_104 : decode cX7_wordOf 104 = .ok (.bipush 106, 2) := by decide +kernel
theorem dX7_wordOf_106 : decode cX7_wordOf 106 = .ok (.bipush 117, 2) := by decide +kernel
theorem dX7_wordOf_108 : decode cX7_wordOf 108 = .ok (.bipush 115, 2) := by decide +kernel
theorem dX7_wordOf_110 : decode cX7_wordOf 110 = .ok (.bipush 116, 2) := by decide +kernel
theorem dX7_wordOf_112 : decode cX7_wordOf 112 = .ok (.iconst 0, 1) := by decide +kernel
theorem dX7_wordOf_113 : decode cX7_wordOf 113 = .ok (.invokestatic 109, 3) := by decide +kernel
theorem dX7_wordOf_116 : decode cX7_wordOf 116 = .ok (.lcmp, 1) := by decide +kernel
theorem dX7_wordOf_117 : decode cX7_wordOf 117 = .ok (.ifCond .ne 7, 3) := by decide +kernel
theorem dX7_wordOf_120 : decode cX7_wordOf 120 = .ok (.iconst 5, 1) := by decide +kernel
theorem dX7_wordOf_121 : decode cX7_wordOf 121 = .ok (.goto 70, 3) := by decide +kernel
theorem dX7_wordOf_124 : decode cX7_wordOf 124 = .ok (.lload_n 0, 1) := by decide +kernel
theorem dX7_wordOf_125 : decode cX7_wordOf 125 = .ok (.bipush 109, 2) := by decide +kernel
theorem dX7_wordOf_127 : decode cX7_wordOf 127 = .ok (.bipush 111, 2) := by decide +kernel
theorem dX7_wordOf_129 : decode cX7_wordOf 129 = .ok (.bipush 114, 2) := by decide +kernel
theorem dX7_wordOf_131 : decode cX7_wordOf 131 = .ok (.bipush 101, 2) := by decide +kernel
theorem dX7_wordOf_133 : decode cX7_wordOf 133 = .ok (.iconst 0, 1) := by decide +kernel
theorem dX7_wordOf_134 : decode cX7_wordOf 134 = .ok (.invokestatic 109, 3) := by decide +kernel
theorem dX7_wordOf_137 : decode cX7_wordOf 137 = .ok (.lcmp, 1) := by decide +kernel
theorem dX7_wordOf_138 : decode cX7_wordOf 138 = .ok (.ifCond .ne 8, 3) := by decide +kernel
theorem dX7_wordOf_141 : decode cX7_wordOf 141 = .ok (.bipush 6, 2) := by decide +kernel
theorem dX7_wordOf_143 : decode cX7_wordOf 143 = .ok (.goto 48, 3) := by decide +kernel
theorem dX7_wordOf_146 : decode cX7_wordOf 146 = .ok (.lload_n 0, 1) := by decide +kernel
theorem dX7_wordOf_147 : decode cX7_wordOf 147 = .ok (.bipush 101, 2) := by decide +kernel
theorem dX7_wordOf_149 : decode cX7_wordOf 149 = .ok (.bipush 118, 2) := by decide +kernel
theorem dX7_wordOf_151 : decode cX7_wordOf 151 = .ok (.bipush 101, 2) := by decide +kernel
theorem dX7_wordOf_153 : decode cX7_wordOf 153 = .ok (.bipush 110, 2) := by decide +kernel
theorem dX7_wordOf_155 : decode cX7_wordOf 155 = .ok (.iconst 0, 1) := by decide +kernel
theorem dX7_wordOf_156 : decode cX7_wordOf 156 = .ok (.invokestatic 109, 3) := by decide +kernel
theorem dX7_wordOf_159 : decode cX7_wordOf 159 = .ok (.lcmp, 1) := by decide +kernel
theorem dX7_wordOf_160 : decode cX7_wordOf 160 = .ok (.ifCond .ne 8, 3) := by decide +kernel
theorem dX7_wordOf_163 : decode cX7_wordOf 163 = .ok (.bipush 7, 2) := by decide +kernel
theorem dX7_wordOf_165 : decode cX7_wordOf 165 = .ok (.goto 26, 3) := by decide +kernel
theorem dX7_wordOf_168 : decode cX7_wordOf 168 = .ok (.lload_n 0, 1) := by decide +kernel
theorem dX7_wordOf_169 : decode cX7_wordOf 169 = .ok (.bipush 110, 2) := by decide +kernel
theorem dX7_wordOf_171 : decode cX7_wordOf 171 = .ok (.bipush 111, 2) := by decide +kernel
theorem dX7_wordOf_173 : decode cX7_wordOf 173 = .ok (.bipush 116, 2) := by decide +kernel
theorem dX7_wordOf_175 : decode cX7_wordOf 175 = .ok (.iconst 0, 1) := by decide +kernel
theorem dX7_wordOf_176 : decode cX7_wordOf 176 = .ok (.iconst 0, 1) := by decide +kernel
theorem dX7_wordOf_177 : decode cX7_wordOf 177 = .ok (.invokestatic 109, 3) := by decide +kernel
theorem dX7_wordOf_180 : decode cX7_wordOf 180 = .ok (.lcmp, 1) := by decide +kernel
theorem dX7_wordOf_181 : decode cX7_wordOf 181 = .ok (.ifCond .ne 8, 3) := by decide +kernel
theorem dX7_wordOf_184 : decode cX7_wordOf 184 = .ok (.bipush 8, 2) := by decide +kernel
theorem dX7_wordOf_186 : decode cX7_wordOf 186 = .ok (.goto 5, 3) := by decide +kernel
theorem dX7_wordOf_189 : decode cX7_wordOf 189 = .ok (.bipush (-9), 2) := by decide +kernel
theorem dX7_wordOf_191 : decode cX7_wordOf 191 = .ok (.ireturn, 1) := by decide +kernel
theorem dX7_advances_0 : decode cX7_advances 0 = .ok (.aload_n 0, 1) := by decide +kernel
theorem dX7_advances_1 : decode cX7_advances 1 = .ok (.aload_n 0, 1) := by decide +kernel
theorem dX7_advances_2 : decode cX7_advances 2 = .ok (.getfield 113, 3) := by decide +kernel
theorem dX7_advances_5 : decode cX7_advances 5 = .ok (.invokevirtual 116, 3) := by decide +kernel
theorem dX7_advances_8 : decode cX7_advances 8 = .ok (.bipush 32, 2) := by decide +kernel
theorem dX7_advances_10 : decode cX7_advances 10 = .ok (.if_icmp .ne 16, 3) := by decide +kernel
theorem dX7_advances_13 : decode cX7_advances 13 = .ok (.aload_n 0, 1) := by decide +kernel
theorem dX7_advances_14 : decode cX7_advances 14 = .ok (.dup, 1) := by decide +kernel
theorem dX7_advances_15 : decode cX7_advances 15 = .ok (.getfield 113, 3) := by decide +kernel
theorem dX7_advances_18 : decode cX7_advances 18 = .ok (.iconst 1, 1) := by decide +kernel
theorem dX7_advances_19 : decode cX7_advances 19 = .ok (.iadd, 1) := by decide +kernel
theorem dX7_advances_20 : decode cX7_advances 20 = .ok (.putfield 113, 3) := by decide +kernel
theorem dX7_advances_23 : decode cX7_advances 23 = .ok (.goto (-23), 3) := by decide +kernel
theorem dX7_advances_26 : decode cX7_advances 26 = .ok (.aload_n 0, 1) := by decide +kernel
theorem dX7_advances_27 : decode cX7_advances 27 = .ok (.aload_n 0, 1) := by decide +kernel
theorem dX7_advances_28 : decode cX7_advances 28 = .ok (.getfield 113, 3) := by decide +kernel
theorem dX7_advances_31 : decode cX7_advances 31 = .ok (.putfield 119, 3) := by decide +kernel
theorem dX7_advances_34 : decode cX7_advances 34 = .ok (.aload_n 0, 1) := by decide +kernel
theorem dX7_advances_35 : decode cX7_advances 35 = .ok (.aload_n 0, 1) := by decide +kernel
theorem dX7_advances_36 : decode cX7_advances 36 = .ok (.getfield 113, 3) := by decide +kernel
theorem dX7_advances_39 : decode cX7_advances 39 = .ok (.invokevirtual 116, 3) := by decide +kernel
theorem dX7_advances_42 : decode cX7_advances 42 = .ok (.istore_n 1, 1) := by decide +kernel
theorem dX7_advances_43 : decode cX7_advances 43 = .ok (.iload_n 1, 1) := by decide +kernel
theorem dX7_advances_44 : decode cX7_advances 44 = .ok (.ifCond .ge 11, 3) := by decide +kernel
theorem dX7_advances_47 : decode cX7_advances 47 = .ok (.aload_n 0, 1) := by decide +kernel
theorem dX7_advances_48 : decode cX7_advances 48 = .ok (.iconst 0, 1) := by decide +kernel
theorem dX7_advances_49 : decode cX7_advances 49 = .ok (.putfield 122, 3) := by decide +kernel
theorem dX7_advances_52 : decode cX7_advances 52 = .ok (.goto 312, 3) := by decide +kernel
theorem dX7_advances_55 : decode cX7_advances 55 = .ok (.iload_n 1, 1) := by decide +kernel
theorem dX7_advances_56 : decode cX7_advances 56 = .ok (.bipush 97, 2) := by decide +kernel
theorem dX7_advances_58 : decode cX7_advances 58 = .ok (.bipush 122, 2) := by decide +kernel
theorem dX7_advances_60 : decode cX7_advances 60 = .ok (.invokestatic 72, 3) := by decide +kernel
theorem dX7_advances_63 : decode cX7_advances 63 = .ok (.ifCond .eq 106, 3) := by decide +kernel
theorem dX7_advances_66 : decode cX7_advances 66 = .ok (.lconst 0, 1) := by decide +kernel
theorem dX7_advances_67 : decode cX7_advances 67 = .ok (.lstore_n 2, 1) := by decide +kernel
theorem dX7_advances_68 : decode cX7_advances 68 = .ok (.iconst 0, 1) := by decide +kernel
theorem dX7_advances_69 : decode cX7_advances 69 = .ok (.istore 4, 2) := by decide +kernel
theorem dX7_advances_71 : decode cX7_advances 71 = .ok (.aload_n 0, 1) := by decide +kernel
theorem dX7_advances_72 : decode cX7_advances 72 = .ok (.aload_n 0, 1) := by decide +kernel
theorem dX7_advances_73 : decode cX7_advances 73 = .ok (.getfield 113, 3) := by decide +kernel
theorem dX7_advances_76 : decode cX7_advances 76 = .ok (.invokevirtual 116, 3) := by decide +kernel
theorem dX7_advances_79 : decode cX7_advances 79 = .ok (.bipush 97, 2) := by decide +kernel
theorem dX7_advances_81 : decode cX7_advances 81 = .ok (.bipush 122, 2) := by decide +kernel
theorem dX7_advances_83 : decode cX7_advances 83 = .ok (.invokestatic 72, 3) := by decide +kernel
theorem dX7_advances_86 : decode cX7_advances 86 = .ok (.ifCond .eq 42, 3) := by decide +kernel
theorem dX7_advances_89 : decode cX7_advances 89 = .ok (.iload 4, 2) := by decide +kernel
theorem dX7_advances_91 : decode cX7_advances 91 = .ok (.iconst 5, 1) := by decide +kernel
theorem dX7_advances_92 : decode cX7_advances 92 = .ok (.if_icmp .ge 18, 3) := by decide +kernel
theorem dX7_advances_95 : decode cX7_advances 95 = .ok (.lload_n 2, 1) := by decide +kernel
theorem dX7_advances_96 : decode cX7_advances 96 = .ok (.aload_n 0, 1) := by decide +kernel
theorem dX7_advances_97 : decode cX7_advances 97 = .ok (.aload_n 0, 1) := by decide +kernel
theorem dX7_advances_98 : decode cX7_advances 98 = .ok (.getfield 113, 3) := by decide +kernel
theorem dX7_advances_101 : decode cX7_advances 101 = .ok (.invokevirtual 116, 3) := by decide +kernel
theorem dX7_advances_104 : decode cX7_advances 104 = .ok (.invokestatic 105, 3) := by decide +kernel
theorem dX7_advances_107 : decode cX7_advances 107 = .ok (.goto 4, 3) := by decide +kernel
theorem dX7_advances_110 : decode cX7_advances 110 = .ok (.lload_n 2, 1) := by decide +kernel
theorem dX7_advances_111 : decode cX7_advances 111 = .ok (.lstore_n 2, 1) := by decide +kernel
theorem dX7_advances_112 : decode cX7_advances 112 = .ok (.iinc 4 1, 3) := by decide +kernel
theorem dX7_advances_115 : decode cX7_advances 115 = .ok (.aload_n 0, 1) := by decide +kernel
theorem dX7_advances_116 : decode cX7_advances 116 = .ok (.dup, 1) := by decide +kernel
theorem dX7_advances_117 : decode cX7_advances 117 = .ok (.getfield 113, 3) := by decide +kernel
theorem dX7_advances_120 : decode cX7_advances 120 = .ok (.iconst 1, 1) := by decide +kernel
theorem dX7_advances_121 : decode cX7_advances 121 = .ok (.iadd, 1) := by decide +kernel
theorem dX7_advances_122 : decode cX7_advances 122 = .ok (.putfield 113, 3) := by decide +kernel
theorem dX7_advances_125 : decode cX7_advances 125 = .ok (.goto (-54), 3) := by decide +kernel
theorem dX7_advances_128 : decode cX7_advances 128 = .ok (.aload_n 0, 1) := by decide +kernel
theorem dX7_advances_129 : decode cX7_advances 129 = .ok (.iload 4, 2) := by decide +kernel
theorem dX7_advances_131 : decode cX7_advances 131 = .ok (.bipush 6, 2) := by decide +kernel
theorem dX7_advances_133 : decode cX7_advances 133 = .ok (.if_icmp .ge 10, 3) := by decide +kernel
theorem dX7_advances_136 : decode cX7_advances 136 = .ok (.lload_n 2, 1) := by decide +kernel
theorem dX7_advances_137 : decode cX7_advances 137 = .ok (.invokestatic 125, 3) := by decide +kernel
theorem dX7_advances_140 : decode cX7_advances 140 = .ok (.goto 5, 3) := by decide +kernel
theorem dX7_advances_143 : decode cX7_advances 143 = .ok (.bipush (-9), 2) := by decide +kernel
theorem dX7_advances_145 : decode cX7_advances 145 = .ok (.putfield 129, 3) := by decide +kernel
theorem dX7_advances_148 : decode cX7_advances 148 = .ok (.aload_n 0, 1) := by decide +kernel
theorem dX7_advances_149 : decode cX7_advances 149 = .ok (.aload_n 0, 1) := by decide +kernel
theorem dX7_advances_150 : decode cX7_advances 150 = .ok (.getfield 129, 3) := by decide +kernel
theorem dX7_advances_153 : decode cX7_advances 153 = .ok (.bipush (-9), 2) := by decide +kernel
theorem dX7_advances_155 : decode cX7_advances 155 = .ok (.if_icmp .ne 7, 3) := by decide +kernel
theorem dX7_advances_158 : decode cX7_advances 158 = .ok (.iconst 4, 1) := by decide +kernel
theorem dX7_advances_159 : decode cX7_advances 159 = .ok (.goto 4, 3) := by decide +kernel
theorem dX7_advances_162 : decode cX7_advances 162 = .ok (.iconst 1, 1) := by decide +kernel
theorem dX7_advances_163 : decode cX7_advances 163 = .ok (.putfield 122, 3) := by decide +kernel
theorem dX7_advances_166 : decode cX7_advances 166 = .ok (.goto 198, 3) := by decide +kernel
theorem dX7_advances_169 : decode cX7_advances 169 = .ok (.iload_n 1, 1) := by decide +kernel
theorem dX7_advances_170 : decode cX7_advances 170 = .ok (.bipush 48, 2) := by decide +kernel
theorem dX7_advances_172 : decode cX7_advances 172 = .ok (.bipush 57, 2) := by decide +kernel
theorem dX7_advances_174 : decode cX7_advances 174 = .ok (.invokestatic 72, 3) := by decide +kernel
theorem dX7_advances_177 : decode cX7_advances 177 = .ok (.ifCond .eq 106, 3) := by decide +kernel
theorem dX7_advances_180 : decode cX7_advances 180 = .ok (.aload_n 0, 1) := by decide +kernel
theorem dX7_advances_181 : decode cX7_advances 181 = .ok (.iconst 0, 1) := by decide +kernel
theorem dX7_advances_182 : decode cX7_advances 182 = .ok (.putfield 129, 3) := by decide +kernel
theorem dX7_advances_185 : decode cX7_advances 185 = .ok (.iconst 0, 1) := by decide +kernel
theorem dX7_advances_186 : decode cX7_advances 186 = .ok (.istore_n 2, 1) := by decide +kernel
theorem dX7_advances_187 : decode cX7_advances 187 = .ok (.aload_n 0, 1) := by decide +kernel
theorem dX7_advances_188 : decode cX7_advances 188 = .ok (.aload_n 0, 1) := by decide +kernel
theorem dX7_advances_189 : decode cX7_advances 189 = .ok (.getfield 113, 3) := by decide +kernel
theorem dX7_advances_192 : decode cX7_advances 192 = .ok (.invokevirtual 116, 3) := by decide +kernel
theorem dX7_advances_195 : decode cX7_advances 195 = .ok (.bipush 48, 2) := by decide +kernel
theorem dX7_advances_197 : decode cX7_advances 197 = .ok (.bipush 57, 2) := by decide +kernel
theorem dX7_advances_199 : decode cX7_advances 199 = .ok (.invokestatic 72, 3) := by decide +kernel
theorem dX7_advances_202 : decode cX7_advances 202 = .ok (.ifCond .eq 58, 3) := by decide +kernel
theorem dX7_advances_205 : decode cX7_advances 205 = .ok (.aload_n 0, 1) := by decide +kernel
theorem dX7_advances_206 : decode cX7_advances 206 = .ok (.aload_n 0, 1) := by decide +kernel
theorem dX7_advances_207 : decode cX7_advances 207 = .ok (.getfield 129, 3) := by decide +kernel
theorem dX7_advances_210 : decode cX7_advances 210 = .ok (.bipush 99, 2) := by decide +kernel
theorem dX7_advances_212 : decode cX7_advances 212 = .ok (.if_icmp .le 10, 3) := by decide +kernel
theorem dX7_advances_215 : decode cX7_advances 215 = .ok (.aload_n 0, 1) := by decide +kernel
theorem dX7_advances_216 : decode cX7_advances 216 = .ok (.getfield 129, 3) := by decide +kernel
theorem dX7_advances_219 : decode cX7_advances 219 = .ok (.goto 22, 3) := by decide +kernel
theorem dX7_advances_222 : decode cX7_advances 222 = .ok (.bipush 10, 2) := by decide +kernel
theorem dX7_advances_224 : decode cX7_advances 224 = .ok (.aload_n 0, 1) := by decide +kernel
theorem dX7_advances_225 : decode cX7_advances 225 = .ok (.getfield 129, 3) := by decide +kernel
theorem dX7_advances_228 : decode cX7_advances 228 = .ok (.imul, 1) := by decide +kernel
theorem dX7_advances_229 : decode cX7_advances 229 = .ok (.aload_n 0, 1) := by decide +kernel
theorem dX7_advances_230 : decode cX7_advances 230 = .ok (.aload_n 0, 1) := by decide +kernel
theorem dX7_advances_231 : decode cX7_advances 231 = .ok (.getfield 113, 3) := by decide +kernel
theorem dX7_advances_234 : decode cX7_advances 234 = .ok (.invokevirtual 116, 3) := by decide +kernel
theorem dX7_advances_237 : decode cX7_advances 237 = .ok (.iadd, 1) := by decide +kernel
theorem dX7_advances_238 : decode cX7_advances 238 = .ok (.bipush 48, 2) := by decide +kernel
theorem dX7_advances_240 : decode cX7_advances 240 = .ok (.isub, 1) := by decide +kernel
theorem dX7_advances_241 : decode cX7_advances 241 = .ok (.putfield 129, 3) := by decide +kernel
theorem dX7_advances_244 : decode cX7_advances 244 = .ok (.iinc 2 1, 3) := by decide +kernel
theorem dX7_advances_247 : decode cX7_advances 247 = .ok (.aload_n 0, 1) := by decide +kernel
theorem dX7_advances_248 : decode cX7_advances 248 = .ok (.dup, 1) := by decide +kernel
theorem dX7_advances_249 : decode cX7_advances 249 = .ok (.getfield 113, 3) := by decide +kernel
theorem dX7_advances_252 : decode cX7_advances 252 = .ok (.iconst 1, 1) := by decide +kernel
theorem dX7_advances_253 : decode cX7_advances 253 = .ok (.iadd, 1) := by decide +kernel
theorem dX7_advances_254 : decode cX7_advances 254 = .ok (.putfield 113, 3) := by decide +kernel
theorem dX7_advances_257 : decode cX7_advances 257 = .ok (.goto (-70), 3) := by decide +kernel
theorem dX7_advances_260 : decode cX7_advances 260 = .ok (.aload_n 0, 1) := by decide +kernel
theorem dX7_advances_261 : decode cX7_advances 261 = .ok (.iload_n 1, 1) := by decide +kernel
theorem dX7_advances_262 : decode cX7_advances 262 = .ok (.bipush 48, 2) := by decide +kernel
theorem dX7_advances_264 : decode cX7_advances 264 = .ok (.if_icmp .ne 12, 3) := by decide +kernel
theorem dX7_advances_267 : decode cX7_advances 267 = .ok (.iload_n 2, 1) := by decide +kernel
theorem dX7_advances_268 : decode cX7_advances 268 = .ok (.iconst 1, 1) := by decide +kernel
theorem dX7_advances_269 : decode cX7_advances 269 = .ok (.if_icmp .le 7, 3) := by decide +kernel
theorem dX7_advances_272 : decode cX7_advances 272 = .ok (.iconst 4, 1) := by decide +kernel
theorem dX7_advances_273 : decode cX7_advances 273 = .ok (.goto 4, 3) := by decide +kernel
theorem dX7_advances_276 : decode cX7_advances 276 = .ok (.iconst 2, 1) := by decide +kernel
theorem dX7_advances_277 : decode cX7_advances 277 = .ok (.putfield 122, 3) := by decide +kernel
theorem dX7_advances_280 : decode cX7_advances 280 = .ok (.goto 84, 3) := by decide +kernel
theorem dX7_advances_283 : decode cX7_advances 283 = .ok (.aload_n 0, 1) := by decide +kernel
theorem dX7_advances_284 : decode cX7_advances 284 = .ok (.iload_n 1, 1) := by decide +kernel
theorem dX7_advances_285 : decode cX7_advances 285 = .ok (.putfield 129, 3) := by decide +kernel
theorem dX7_advances_288 : decode cX7_advances 288 = .ok (.aload_n 0, 1) := by decide +kernel
theorem dX7_advances_289 : decode cX7_advances 289 = .ok (.dup, 1) := by decide +kernel
theorem dX7_advances_290 : decode cX7_advances 290 = .ok (.getfield 113, 3) := by decide +kernel
theorem dX7_advances_293 : decode cX7_advances 293 = .ok (.iconst 1, 1) := by decide +kernel
theorem dX7_advances_294 : decode cX7_advances 294 = .ok (.iadd, 1) := by decide +kernel
theorem dX7_advances_295 : decode cX7_advances 295 = .ok (.putfield 113, 3) := by decide +kernel
theorem dX7_advances_298 : decode cX7_advances 298 = .ok (.iload_n 1, 1) := by decide +kernel
theorem dX7_advances_299 : decode cX7_advances 299 = .ok (.bipush 65, 2) := by decide +kernel
theorem dX7_advances_301 : decode cX7_advances 301 = .ok (.bipush 68, 2) := by decide +kernel
theorem dX7_advances_303 : decode cX7_advances 303 = .ok (.invokestatic 72, 3) := by decide +kernel
theorem dX7_advances_306 : decode cX7_advances 306 = .ok (.ifCond .ne 39, 3) := by decide +kernel
theorem dX7_advances_309 : decode cX7_advances 309 = .ok (.iload_n 1, 1) := by decide +kernel
theorem dX7_advances_310 : decode cX7_advances 310 = .ok (.bipush 58, 2) := by decide +kernel
theorem dX7_advances_312 : decode cX7_advances 312 = .ok (.if_icmp .eq 33, 3) := by decide +kernel
theorem dX7_advances_315 : decode cX7_advances 315 = .ok (.iload_n 1, 1) := by decide +kernel
theorem dX7_advances_316 : decode cX7_advances 316 = .ok (.bipush 124, 2) := by decide +kernel
theorem dX7_advances_318 : decode cX7_advances 318 = .ok (.if_icmp .eq 27, 3) := by decide +kernel
theorem dX7_advances_321 : decode cX7_advances 321 = .ok (.iload_n 1, 1) := by decide +kernel
theorem dX7_advances_322 : decode cX7_advances 322 = .ok (.bipush 38, 2) := by decide +kernel
theorem dX7_advances_324 : decode cX7_advances 324 = .ok (.if_icmp .eq 21, 3) := by decide +kernel
theorem dX7_advances_327 : decode cX7_advances 327 = .ok (.iload_n 1, 1) := by decide +kernel
theorem dX7_advances_328 : decode cX7_advances 328 = .ok (.bipush 33, 2) := by decide +kernel
theorem dX7_advances_330 : decode cX7_advances 330 = .ok (.if_icmp .eq 15, 3) := by decide +kernel
theorem dX7_advances_333 : decode cX7_advances 333 = .ok (.iload_n 1, 1) := by decide +kernel
theorem dX7_advances_334 : decode cX7_advances 334 = .ok (.bipush 40, 2) := by decide +kernel
theorem dX7_advances_336 : decode cX7_advances 336 = .ok (.if_icmp .eq 9, 3) := by decide +kernel
theorem dX7_advances_339 : decode cX7_advances 339 = .ok (.iload_n 1, 1) := by decide +kernel
theorem dX7_advances_340 : decode cX7_advances 340 = .ok (.bipush 41, 2) := by decide +kernel
theorem dX7_advances_342 : decode cX7_advances 342 = .ok (.if_icmp .ne 7, 3) := by decide +kernel
theorem dX7_advances_345 : decode cX7_advances 345 = .ok (.iconst 1, 1) := by decide +kernel
theorem dX7_advances_346 : decode cX7_advances 346 = .ok (.goto 4, 3) := by decide +kernel
theorem dX7_advances_349 : decode cX7_advances 349 = .ok (.iconst 0, 1) := by decide +kernel
theorem dX7_advances_350 : decode cX7_advances 350 = .ok (.istore_n 2, 1) := by decide +kernel
theorem dX7_advances_351 : decode cX7_advances 351 = .ok (.aload_n 0, 1) := by decide +kernel
theorem dX7_advances_352 : decode cX7_advances 352 = .ok (.iload_n 2, 1) := by decide +kernel
theorem dX7_advances_353 : decode cX7_advances 353 = .ok (.ifCond .eq 7, 3) := by decide +kernel
theorem dX7_advances_356 : decode cX7_advances 356 = .ok (.iconst 3, 1) := by decide +kernel
theorem dX7_advances_357 : decode cX7_advances 357 = .ok (.goto 4, 3) := by decide +kernel
theorem dX7_advances_360 : decode cX7_advances 360 = .ok (.iconst 4, 1) := by decide +kernel
theorem dX7_advances_361 : decode cX7_advances 361 = .ok (.putfield 122, 3) := by decide +kernel
theorem dX7_advances_364 : decode cX7_advances 364 = .ok (.return_, 1) := by decide +kernel
theorem dX7_isWell_0 : decode cX7_isWell 0 = .ok (.aload_n 0, 1) := by decide +kernel
theorem dX7_isWell_1 : decode cX7_isWell 1 = .ok (.getfield 132, 3) := by decide +kernel
theorem dX7_isWell_4 : decode cX7_isWell 4 = .ok (.ifCond .ge 7, 3) := by decide +kernel
theorem dX7_isWell_7 : decode cX7_isWell 7 = .ok (.iconst 1, 1) := by decide +kernel
theorem dX7_isWell_8 : decode cX7_isWell 8 = .ok (.goto 4, 3) := by decide +kernel
theorem dX7_isWell_11 : decode cX7_isWell 11 = .ok (.iconst 0, 1) := by decide +kernel
theorem dX7_isWell_12 : decode cX7_isWell 12 = .ok (.ireturn, 1) := by decide +kernel
theorem dX7_fails_0 : decode cX7_fails 0 = .ok (.aload_n 0, 1) := by decide +kernel
theorem dX7_fails_1 : decode cX7_fails 1 = .ok (.aload_n 0, 1) := by decide +kernel
theorem dX7_fails_2 : decode cX7_fails 2 = .ok (.getfield 132, 3) := by decide +kernel
theorem dX7_fails_5 : decode cX7_fails 5 = .ok (.ifCond .ge 10, 3) := by decide +kernel
theorem dX7_fails_8 : decode cX7_fails 8 = .ok (.aload_n 0, 1) := by decide +kernel
theorem dX7_fails_9 : decode cX7_fails 9 = .ok (.getfield 119, 3) := by decide +kernel
theorem dX7_fails_12 : decode cX7_fails 12 = .ok (.goto 7, 3) := by decide +kernel
theorem dX7_fails_15 : decode cX7_fails 15 = .ok (.aload_n 0, 1) := by decide +kernel
theorem dX7_fails_16 : decode cX7_fails 16 = .ok (.getfield 132, 3) := by decide +kernel
theorem dX7_fails_19 : decode cX7_fails 19 = .ok (.putfield 132, 3) := by decide +kernel
theorem dX7_fails_22 : decode cX7_fails 22 = .ok (.return_, 1) := by decide +kernel
theorem dX7_isSign_0 : decode cX7_isSign 0 = .ok (.aload_n 0, 1) := by decide +kernel
theorem dX7_isSign_1 : decode cX7_isSign 1 = .ok (.invokevirtual 135, 3) := by decide +kernel
theorem dX7_isSign_4 : decode cX7_isSign 4 = .ok (.ifCond .eq 23, 3) := by decide +kernel
theorem dX7_isSign_7 : decode cX7_isSign 7 = .ok (.aload_n 0, 1) := by decide +kernel
theorem dX7_isSign_8 : decode cX7_isSign 8 = .ok (.getfield 122, 3) := by decide +kernel
theorem dX7_isSign_11 : decode cX7_isSign 11 = .ok (.iconst 3, 1) := by decide +kernel
theorem dX7_isSign_12 : decode cX7_isSign 12 = .ok (.if_icmp .ne 15, 3) := by decide +kernel
theorem dX7_isSign_15 : decode cX7_isSign 15 = .ok (.aload_n 0, 1) := by decide +kernel
theorem dX7_isSign_16 : decode cX7_isSign 16 = .ok (.getfield 129, 3) := by decide +kernel
theorem dX7_isSign_19 : decode cX7_isSign 19 = .ok (.iload_n 1, 1) := by decide +kernel
theorem dX7_isSign_20 : decode cX7_isSign 20 = .ok (.if_icmp .ne 7, 3) := by decide +kernel
theorem dX7_isSign_23 : decode cX7_isSign 23 = .ok (.iconst 1, 1) := by decide +kernel
theorem dX7_isSign_24 : decode cX7_isSign 24 = .ok (.goto 4, 3) := by decide +kernel
theorem dX7_isSign_27 : decode cX7_isSign 27 = .ok (.iconst 0, 1) := by decide +kernel
theorem dX7_isSign_28 : decode cX7_isSign 28 = .ok (.ireturn, 1) := by decide +kernel
theorem dX7_isKindSign_0 : decode cX7_isKindSign 0 = .ok (.aload_n 0, 1) := by decide +kernel
theorem dX7_isKindSign_1 : decode cX7_isKindSign 1 = .ok (.invokevirtual 135, 3) := by decide +kernel
theorem dX7_isKindSign_4 : decode cX7_isKindSign 4 = .ok (.ifCond .eq 36, 3) := by decide +kernel
theorem dX7_isKindSign_7 : decode cX7_isKindSign 7 = .ok (.aload_n 0, 1) := by decide +kernel
theorem dX7_isKindSign_8 : decode cX7_isKindSign 8 = .ok (.getfield 122, 3) := by decide +kernel
theorem dX7_isKindSign_11 : decode cX7_isKindSign 11 = .ok (.iconst 3, 1) := by decide +kernel
theorem dX7_isKindSign_12 : decode cX7_isKindSign 12 = .ok (.if_icmp .ne 28, 3) := by decide +kernel
theorem dX7_isKindSign_15 : decode cX7_isKindSign 15 = .ok (.aload_n 0, 1) := by decide +kernel
theorem dX7_isKindSign_16 : decode cX7_isKindSign 16 = .ok (.getfield 129, 3) := by decide +kernel
theorem dX7_isKindSign_19 : decode cX7_isKindSign 19 = .ok (.bipush 65, 2) := by decide +kernel
theorem dX7_isKindSign_21 : decode cX7_isKindSign 21 = .ok (.bipush 65, 2) := by decide +kernel
theorem dX7_isKindSign_23 : decode cX7_isKindSign 23 = .ok (.aload_n 0, 1) := by decide +kernel
theorem dX7_isKindSign_24 : decode cX7_isKindSign 24 = .ok (.getfield 7, 3) := by decide +kernel
theorem dX7_isKindSign_27 : decode cX7_isKindSign 27 = .ok (.iadd, 1) := by decide +kernel
theorem dX7_isKindSign_28 : decode cX7_isKindSign 28 = .ok (.iconst 1, 1) := by decide +kernel
theorem dX7_isKindSign_29 : decode cX7_isKindSign 29 = .ok (.isub, 1) := by decide +kernel
theorem dX7_isKindSign_30 : decode cX7_isKindSign 30 = .ok (.invokestatic 72, 3) := by decide +kernel
theorem dX7_isKindSign_33 : decode cX7_isKindSign 33 = .ok (.ifCond .eq 7, 3) := by decide +kernel
theorem dX7_isKindSign_36 : decode cX7_isKindSign 36 = .ok (.iconst 1, 1) := by decide +kernel
theorem dX7_isKindSign_37 : decode cX7_isKindSign 37 = .ok (.goto 4, 3) := by decide +kernel
theorem dX7_isKindSign_40 : decode cX7_isKindSign 40 = .ok (.iconst 0, 1) := by decide +kernel
theorem dX7_isKindSign_41 : decode cX7_isKindSign 41 = .ok (.ireturn, 1) := by decide +kernel
theorem dX7_every_0 : decode cX7_every 0 = .ok (.iconst 1, 1) := by decide +kernel
theorem dX7_every_1 : decode cX7_every 1 = .ok (.aload_n 0, 1) := by decide +kernel
theorem dX7_every_2 : decode cX7_every 2 = .ok (.invokevirtual 60, 3) := by decide +kernel
theorem dX7_every_5 : decode cX7_every 5 = .ok (.ishl, 1) := by decide +kernel
theorem dX7_every_6 : decode cX7_every 6 = .ok (.iconst 1, 1) := by decide +kernel
theorem dX7_every_7 : decode cX7_every 7 = .ok (.isub, 1) := by decide +kernel
theorem dX7_every_8 : decode cX7_every 8 = .ok (.ireturn, 1) := by decide +kernel
theorem dX7_side_0 : decode cX7_side 0 = .ok (.iconst 0, 1) := by decide +kernel
theorem dX7_side_1 : decode cX7_side 1 = .ok (.istore_n 1, 1) := by decide +kernel
theorem dX7_side_2 : decode cX7_side 2 = .ok (.iconst 0, 1) := by decide +kernel
theorem dX7_side_3 : decode cX7_side 3 = .ok (.istore_n 2, 1) := by decide +kernel
theorem dX7_side_4 : decode cX7_side 4 = .ok (.iconst 0, 1) := by decide +kernel
theorem dX7_side_5 : decode cX7_side 5 = .ok (.istore_n 3, 1) := by decide +kernel
theorem dX7_side_6 : decode cX7_side 6 = .ok (.iconst 1, 1) := by decide +kernel
theorem dX7_side_7 : decode cX7_side 7 = .ok (.istore 4, 2) := by decide +kernel
theorem dX7_side_9 : decode cX7_side 9 = .ok (.iconst 1, 1) := by decide +kernel
theorem dX7_side_10 : decode cX7_side 10 = .ok (.istore 5, 2) := by decide +kernel
theorem dX7_side_12 : decode cX7_side 12 = .ok (.iconst 0, 1) := by decide +kernel
theorem dX7_side_13 : decode cX7_side 13 = .ok (.istore 6, 2) := by decide +kernel
theorem dX7_side_15 : decode cX7_side 15 = .ok (.aload_n 0, 1) := by decide +kernel
theorem dX7_side_16 : decode cX7_side 16 = .ok (.bipush (-9), 2) := by decide +kernel
theorem dX7_side_18 : decode cX7_side 18 = .ok (.putfield 139, 3) := by decide +kernel
theorem dX7_side_21 : decode cX7_side 21 = .ok (.iload 5, 2) := by decide +kernel
theorem dX7_side_23 : decode cX7_side 23 = .ok (.ifCond .eq 450, 3) := by decide +kernel
theorem dX7_side_26 : decode cX7_side 26 = .ok (.aload_n 0, 1) := by decide +kernel
theorem dX7_side_27 : decode cX7_side 27 = .ok (.invokevirtual 135, 3) := by decide +kernel
theorem dX7_side_30 : decode cX7_side 30 = .ok (.ifCond .eq 443, 3) := by decide +kernel
theorem dX7_side_33 : decode cX7_side 33 = .ok (.iload 4, 2) := by decide +kernel
theorem dX7_side_35 : decode cX7_side 35 = .ok (.ifCond .eq 172, 3) := by decide +kernel
theorem dX7_side_38 : decode cX7_side 38 = .ok (.aload_n 0, 1) := by decide +kernel
theorem dX7_side_39 : decode cX7_side 39 = .ok (.bipush 33, 2) := by decide +kernel
theorem dX7_side_41 : decode cX7_side 41 = .ok (.invokevirtual 142, 3) := by decide +kernel
theorem dX7_side_44 : decode cX7_side 44 = .ok (.ifCond .ne 12, 3) := by decide +kernel
theorem dX7_side_47 : decode cX7_side 47 = .ok (.aload_n 0, 1) := by decide +kernel
theorem dX7_side_48 : decode cX7_side 48 = .ok (.bipush 40, 2) := by decide +kernel
theorem dX7_side_50 : decode cX7_side 50 = .ok (.invokevirtual 142, 3) := by decide +kernel
theorem dX7_side_53 : decode cX7_side 53 = .ok (.ifCond .eq 7, 3) := by decide +kernel
theorem dX7_side_56 : decode cX7_side 56 = .ok (.iconst 1, 1) := by decide +kernel
theorem dX7_side_57 : decode cX7_side 57 = .ok (.goto 4, 3) := by decide +kernel
theorem dX7_side_60 : decode cX7_side 60 = .ok (.iconst 0, 1) := by decide +kernel
theorem dX7_side_61 : decode cX7_side 61 = .ok (.istore 7, 2) := by decide +kernel
theorem dX7_side_63 : decode cX7_side 63 = .ok (.iload 7, 2) := by decide +kernel
theorem dX7_side_65 : decode cX7_side 65 = .ok (.ifCond .ne 10, 3) := by decide +kernel
theorem dX7_side_68 : decode cX7_side 68 = .ok (.aload_n 0, 1) := by decide +kernel
theorem dX7_side_69 : decode cX7_side 69 = .ok (.invokevirtual 145, 3) := by decide +kernel
theorem dX7_side_72 : decode cX7_side 72 = .ok (.ifCond .eq 23, 3) := by decide +kernel
theorem dX7_side_75 : decode cX7_side 75 = .ok (.aload_n 0, 1) := by decide +kernel
theorem dX7_side_76 : decode cX7_side 76 = .ok (.getfield 148, 3) := by decide +kernel
theorem dX7_side_79 : decode cX7_side 79 = .ok (.bipush 24, 2) := by decide +kernel
theorem dX7_side_81 : decode cX7_side 81 = .ok (.if_icmp .eq 14, 3) := by decide +kernel
theorem dX7_side_84 : decode cX7_side 84 = .ok (.iload 7, 2) := by decide +kernel
theorem dX7_side_86 : decode cX7_side 86 = .ok (.ifCond .eq 16, 3) := by decide +kernel
theorem dX7_side_89 : decode cX7_side 89 = .ok (.iload_n 3, 1) := by decide +kernel
theorem dX7_side_90 : decode cX7_side 90 = .ok (.bipush 8, 2) := by decide +kernel
theorem dX7_side_92 : decode cX7_side 92 = .ok (.if_icmp .ne 10, 3) := by decide +kernel
theorem dX7_side_95 : decode cX7_side 95 = .ok (.aload_n 0, 1) := by decide +kernel
theorem dX7_side_96 : decode cX7_side 96 = .ok (.invokevirtual 151, 3) := by decide +kernel
theorem dX7_side_99 : decode cX7_side 99 = .ok (.goto 105, 3) := by decide +kernel
theorem dX7_side_102 : decode cX7_side 102 = .ok (.iload 7, 2) := by decide +kernel
theorem dX7_side_104 : decode cX7_side 104 = .ok (.ifCond .eq 39, 3) := by decide +kernel
theorem dX7_side_107 : decode cX7_side 107 = .ok (.aload_n 0, 1) := by decide +kernel
theorem dX7_side_108 : decode cX7_side 108 = .ok (.getfield 32, 3) := by decide +kernel
theorem dX7_side_111 : decode cX7_side 111 = .ok (.iload_n 2, 1) := by decide +kernel
theorem dX7_side_112 : decode cX7_side 112 = .ok (.aload_n 0, 1) := by decide +kernel
theorem dX7_side_113 : decode cX7_side 113 = .ok (.getfield 129, 3) := by decide +kernel
theorem dX7_side_116 : decode cX7_side 116 = .ok (.iastore, 1) := by decide +kernel
theorem dX7_side_117 : decode cX7_side 117 = .ok (.iinc 2 1, 3) := by decide +kernel
theorem dX7_side_120 : decode cX7_side 120 = .ok (.iinc 3 1, 3) := by decide +kernel
theorem dX7_side_123 : decode cX7_side 123 = .ok (.aload_n 0, 1) := by decide +kernel
theorem dX7_side_124 : decode cX7_side 124 = .ok (.dup, 1) := by decide +kernel
theorem dX7_side_125 : decode cX7_side 125 = .ok (.getfield 148, 3) := by decide +kernel
theorem dX7_side_128 : decode cX7_side 128 = .ok (.iconst 1, 1) := by decide +kernel
theorem dX7_side_129 : decode cX7_side 129 = .ok (.iadd, 1) := by decide +kernel
theorem dX7_side_130 : decode cX7_side 130 = .ok (.putfield 148, 3) := by decide +kernel
theorem dX7_side_133 : decode cX7_side 133 = .ok (.iinc 6 1, 3) := by decide +kernel
theorem dX7_side_136 : decode cX7_side 136 = .ok (.aload_n 0, 1) := by decide +kernel
theorem dX7_side_137 : decode cX7_side 137 = .ok (.invokevirtual 154, 3) := by decide +kernel
theorem dX7_side_140 : decode cX7_side 140 = .ok (.goto 64, 3) := by decide +kernel
theorem dX7_side_143 : decode cX7_side 143 = .ok (.aload_n 0, 1) := by decide +kernel
theorem dX7_side_144 : decode cX7_side 144 = .ok (.iload 6, 2) := by decide +kernel
theorem dX7_side_146 : decode cX7_side 146 = .ok (.ifCond .ne 13, 3) := by decide +kernel
theorem dX7_side_149 : decode cX7_side 149 = .ok (.aload_n 0, 1) := by decide +kernel
theorem dX7_side_150 : decode cX7_side 150 = .ok (.getfield 129, 3) := by decide +kernel
theorem dX7_side_153 : decode cX7_side 153 = .ok (.bipush 65, 2) := by decide +kernel
theorem dX7_side_155 : decode cX7_side 155 = .ok (.isub, 1) := by decide +kernel
theorem dX7_side_156 : decode cX7_side 156 = .ok (.goto 5, 3) := by decide +kernel
theorem dX7_side_159 : decode cX7_side 159 = .ok (.bipush (-9), 2) := by decide +kernel
theorem dX7_side_161 : decode cX7_side 161 = .ok (.putfield 139, 3) := by decide +kernel
theorem dX7_side_164 : decode cX7_side 164 = .ok (.aload_n 0, 1) := by decide +kernel
theorem dX7_side_165 : decode cX7_side 165 = .ok (.getfield 29, 3) := by decide +kernel
theorem dX7_side_168 : decode cX7_side 168 = .ok (.iload_n 1, 1) := by decide +kernel
theorem dX7_side_169 : decode cX7_side 169 = .ok (.aload_n 0, 1) := by decide +kernel
theorem dX7_side_170 : decode cX7_side 170 = .ok (.aload_n 0, 1) := by decide +kernel
theorem dX7_side_171 : decode cX7_side 171 = .ok (.getfield 129, 3) := by decide +kernel
theorem dX7_side_174 : decode cX7_side 174 = .ok (.bipush 65, 2) := by decide +kernel
theorem dX7_side_176 : decode cX7_side 176 = .ok (.isub, 1) := by decide +kernel
theorem dX7_side_177 : decode cX7_side 177 = .ok (.invokevirtual 64, 3) := by decide +kernel
theorem dX7_side_180 : decode cX7_side 180 = .ok (.iastore, 1) := by decide +kernel
theorem dX7_side_181 : decode cX7_side 181 = .ok (.iinc 1 1, 3) := by decide +kernel
theorem dX7_side_184 : decode cX7_side 184 = .ok (.aload_n 0, 1) := by decide +kernel
theorem dX7_side_185 : decode cX7_side 185 = .ok (.dup, 1) := by decide +kernel
theorem dX7_side_186 : decode cX7_side 186 = .ok (.getfield 148, 3) := by decide +kernel
theorem dX7_side_189 : decode cX7_side 189 = .ok (.iconst 1, 1) := by decide +kernel
theorem dX7_side_190 : decode cX7_side 190 = .ok (.iadd, 1) := by decide +kernel
theorem dX7_side_191 : decode cX7_side 191 = .ok (.putfield 148, 3) := by decide +kernel
theorem dX7_side_194 : decode cX7_side 194 = .ok (.iinc 6 1, 3) := by decide +kernel
theorem dX7_side_197 : decode cX7_side 197 = .ok (.iconst 0, 1) := by decide +kernel
theorem dX7_side_198 : decode cX7_side 198 = .ok (.istore 4, 2) := by decide +kernel
theorem dX7_side_200 : decode cX7_side 200 = .ok (.aload_n 0, 1) := by decide +kernel
theorem dX7_side_201 : decode cX7_side 201 = .ok (.invokevirtual 154, 3) := by decide +kernel
theorem dX7_side_204 : decode cX7_side 204 = .ok (.goto 215, 3) := by decide +kernel
theorem dX7_side_207 : decode cX7_side 207 = .ok (.aload_n 0, 1) := by decide +kernel
theorem dX7_side_208 : decode cX7_side 208 = .ok (.bipush 38, 2) := by decide +kernel
theorem dX7_side_210 : decode cX7_side 210 = .ok (.invokevirtual 142, 3) := by decide +kernel
theorem dX7_side_213 : decode cX7_side 213 = .ok (.ifCond .ne 12, 3) := by decide +kernel
theorem dX7_side_216 : decode cX7_side 216 = .ok (.aload_n 0, 1) := by decide +kernel
theorem dX7_side_217 : decode cX7_side 217 = .ok (.bipush 124, 2) := by decide +kernel
theorem dX7_side_219 : decode cX7_side 219 = .ok (.invokevirtual 142, 3) := by decide +kernel
theorem dX7_side_222 : decode cX7_side 222 = .ok (.ifCond .eq 111, 3) := by decide +kernel
theorem dX7_side_225 : decode cX7_side 225 = .ok (.iload_n 2, 1) := by decide +kernel
theorem dX7_side_226 : decode cX7_side 226 = .ok (.ifCond .le 78, 3) := by decide +kernel
theorem dX7_side_229 : decode cX7_side 229 = .ok (.aload_n 0, 1) := by decide +kernel
theorem dX7_side_230 : decode cX7_side 230 = .ok (.getfield 32, 3) := by decide +kernel
theorem dX7_side_233 : decode cX7_side 233 = .ok (.iload_n 2, 1) := by decide +kernel
theorem dX7_side_234 : decode cX7_side 234 = .ok (.iconst 1, 1) := by decide +kernel
theorem dX7_side_235 : decode cX7_side 235 = .ok (.isub, 1) := by decide +kernel
theorem dX7_side_236 : decode cX7_side 236 = .ok (.iaload, 1) := by decide +kernel
theorem dX7_side_237 : decode cX7_side 237 = .ok (.bipush 38, 2) := by decide +kernel
theorem dX7_side_239 : decode cX7_side 239 = .ok (.if_icmp .eq 25, 3) := by decide +kernel
theorem dX7_side_242 : decode cX7_side 242 = .ok (.aload_n 0, 1) := by decide +kernel
theorem dX7_side_243 : decode cX7_side 243 = .ok (.getfield 129, 3) := by decide +kernel
theorem dX7_side_246 : decode cX7_side 246 = .ok (.bipush 124, 2) := by decide +kernel
theorem dX7_side_248 : decode cX7_side 248 = .ok (.if_icmp .ne 56, 3) := by decide +kernel
theorem dX7_side_251 : decode cX7_side 251 = .ok (.aload_n 0, 1) := by decide +kernel
theorem dX7_side_252 : decode cX7_side 252 = .ok (.getfield 32, 3) := by decide +kernel
theorem dX7_side_255 : decode cX7_side 255 = .ok (.iload_n 2, 1) := by decide +kernel
theorem dX7_side_256 : decode cX7_side 256 = .ok (.iconst 1, 1) := by decide +kernel
theorem dX7_side_257 : decode cX7_side 257 = .ok (.isub, 1) := by decide +kernel
theorem dX7_side_258 : decode cX7_side 258 = .ok (.iaload, 1) := by decide +kernel
theorem dX7_side_259 : decode cX7_side 259 = .ok (.bipush 124, 2) := by decide +kernel
theorem dX7_side_261 : decode cX7_side 261 = .ok (.if_icmp .ne 43, 3) := by decide +kernel
theorem dX7_side_264 : decode cX7_side 264 = .ok (.iinc 2 (-1), 3) := by decide +kernel
theorem dX7_side_267 : decode cX7_side 267 = .ok (.iinc 1 (-1), 3) := by decide +kernel
theorem dX7_side_270 : decode cX7_side 270 = .ok (.aload_n 0, 1) := by decide +kernel
theorem dX7_side_271 : decode cX7_side 271 = .ok (.getfield 29, 3) := by decide +kernel
theorem dX7_side_274 : decode cX7_side 274 = .ok (.iload_n 1, 1) := by decide +kernel
theorem dX7_side_275 : decode cX7_side 275 = .ok (.iconst 1, 1) := by decide +kernel
theorem dX7_side_276 : decode cX7_side 276 = .ok (.isub, 1) := by decide +kernel
theorem dX7_side_277 : decode cX7_side 277 = .ok (.aload_n 0, 1) := by decide +kernel
theorem dX7_side_278 : decode cX7_side 278 = .ok (.getfield 32, 3) := by decide +kernel
theorem dX7_side_281 : decode cX7_side 281 = .ok (.iload_n 2, 1) := by decide +kernel
theorem dX7_side_282 : decode cX7_side 282 = .ok (.iaload, 1) := by decide +kernel
theorem dX7_side_283 : decode cX7_side 283 = .ok (.aload_n 0, 1) := by decide +kernel
theorem dX7_side_284 : decode cX7_side 284 = .ok (.getfield 29, 3) := by decide +kernel
theorem dX7_side_287 : decode cX7_side 287 = .ok (.iload_n 1, 1) := by decide +kernel
theorem dX7_side_288 : decode cX7_side 288 = .ok (.iconst 1, 1) := by decide +kernel
theorem dX7_side_289 : decode cX7_side 289 = .ok (.isub, 1) := by decide +kernel
theorem dX7_side_290 : decode cX7_side 290 = .ok (.iaload, 1) := by decide +kernel
theorem dX7_side_291 : decode cX7_side 291 = .ok (.aload_n 0, 1) := by decide +kernel
theorem dX7_side_292 : decode cX7_side 292 = .ok (.getfield 29, 3) := by decide +kernel
theorem dX7_side_295 : decode cX7_side 295 = .ok (.iload_n 1, 1) := by decide +kernel
theorem dX7_side_296 : decode cX7_side 296 = .ok (.iaload, 1) := by decide +kernel
theorem dX7_side_297 : decode cX7_side 297 = .ok (.invokestatic 157, 3) := by decide +kernel
theorem dX7_side_300 : decode cX7_side 300 = .ok (.iastore, 1) := by decide +kernel
theorem dX7_side_301 : decode cX7_side 301 = .ok (.goto (-76), 3) := by decide +kernel
theorem dX7_side_304 : decode cX7_side 304 = .ok (.aload_n 0, 1) := by decide +kernel
theorem dX7_side_305 : decode cX7_side 305 = .ok (.getfield 32, 3) := by decide +kernel
theorem dX7_side_308 : decode cX7_side 308 = .ok (.iload_n 2, 1) := by decide +kernel
theorem dX7_side_309 : decode cX7_side 309 = .ok (.aload_n 0, 1) := by decide +kernel
theorem dX7_side_310 : decode cX7_side 310 = .ok (.getfield 129, 3) := by decide +kernel
theorem dX7_side_313 : decode cX7_side 313 = .ok (.iastore, 1) := by decide +kernel
theorem dX7_side_314 : decode cX7_side 314 = .ok (.iinc 2 1, 3) := by decide +kernel
theorem dX7_side_317 : decode cX7_side 317 = .ok (.aload_n 0, 1) := by decide +kernel
theorem dX7_side_318 : decode cX7_side 318 = .ok (.bipush (-9), 2) := by decide +kernel
theorem dX7_side_320 : decode cX7_side 320 = .ok (.putfield 139, 3) := by decide +kernel
theorem dX7_side_323 : decode cX7_side 323 = .ok (.iconst 1, 1) := by decide +kernel
theorem dX7_side_324 : decode cX7_side 324 = .ok (.istore 4, 2) := by decide +kernel
theorem dX7_side_326 : decode cX7_side 326 = .ok (.aload_n 0, 1) := by decide +kernel
theorem dX7_side_327 : decode cX7_side 327 = .ok (.invokevirtual 154, 3) := by decide +kernel
theorem dX7_side_330 : decode cX7_side 330 = .ok (.goto 89, 3) := by decide +kernel
theorem dX7_side_333 : decode cX7_side 333 = .ok (.aload_n 0, 1) := by decide +kernel
theorem dX7_side_334 : decode cX7_side 334 = .ok (.bipush 41, 2) := by decide +kernel
theorem dX7_side_336 : decode cX7_side 336 = .ok (.invokevirtual 142, 3) := by decide +kernel
theorem dX7_side_339 : decode cX7_side 339 = .ok (.ifCond .eq 77, 3) := by decide +kernel
theorem dX7_side_342 : decode cX7_side 342 = .ok (.aload_n 0, 1) := by decide +kernel
theorem dX7_side_343 : decode cX7_side 343 = .ok (.iload_n 2, 1) := by decide +kernel
theorem dX7_side_344 : decode cX7_side 344 = .ok (.invokevirtual 161, 3) := by decide +kernel
theorem dX7_side_347 : decode cX7_side 347 = .ok (.ifCond .eq 69, 3) := by decide +kernel
theorem dX7_side_350 : decode cX7_side 350 = .ok (.aload_n 0, 1) := by decide +kernel
theorem dX7_side_351 : decode cX7_side 351 = .ok (.getfield 32, 3) := by decide +kernel
theorem dX7_side_354 : decode cX7_side 354 = .ok (.iload_n 2, 1) := by decide +kernel
theorem dX7_side_355 : decode cX7_side 355 = .ok (.iconst 1, 1) := by decide +kernel
theorem dX7_side_356 : decode cX7_side 356 = .ok (.isub, 1) := by decide +kernel
theorem dX7_side_357 : decode cX7_side 357 = .ok (.iaload, 1) := by decide +kernel
theorem dX7_side_358 : decode cX7_side 358 = .ok (.bipush 40, 2) := by decide +kernel
theorem dX7_side_360 : decode cX7_side 360 = .ok (.if_icmp .eq 43, 3) := by decide +kernel
theorem dX7_side_363 : decode cX7_side 363 = .ok (.iinc 2 (-1), 3) := by decide +kernel
theorem dX7_side_366 : decode cX7_side 366 = .ok (.iinc 1 (-1), 3) := by decide +kernel
theorem dX7_side_369 : decode cX7_side 369 = .ok (.aload_n 0, 1) := by decide +kernel
theorem dX7_side_370 : decode cX7_side 370 = .ok (.getfield 29, 3) := by decide +kernel
theorem dX7_side_373 : decode cX7_side 373 = .ok (.iload_n 1, 1) := by decide +kernel
theorem dX7_side_374 : decode cX7_side 374 = .ok (.iconst 1, 1) := by decide +kernel
theorem dX7_side_375 : decode cX7_side 375 = .ok (.isub, 1) := by decide +kernel
theorem dX7_side_376 : decode cX7_side 376 = .ok (.aload_n 0, 1) := by decide +kernel
theorem dX7_side_377 : decode cX7_side 377 = .ok (.getfield 32, 3) := by decide +kernel
theorem dX7_side_380 : decode cX7_side 380 = .ok (.iload_n 2, 1) := by decide +kernel
theorem dX7_side_381 : decode cX7_side 381 = .ok (.iaload, 1) := by decide +kernel
theorem dX7_side_382 : decode cX7_side 382 = .ok (.aload_n 0, 1) := by decide +kernel
theorem dX7_side_383 : decode cX7_side 383 = .ok (.getfield 29, 3) := by decide +kernel
theorem dX7_side_386 : decode cX7_side 386 = .ok (.iload_n 1, 1) := by decide +kernel
theorem dX7_side_387 : decode cX7_side 387 = .ok (.iconst 1, 1) := by decide +kernel
theorem dX7_side_388 : decode cX7_side 388 = .ok (.isub, 1) := by decide +kernel
theorem dX7_side_389 : decode cX7_side 389 = .ok (.iaload, 1) := by decide +kernel
theorem dX7_side_390 : decode cX7_side 390 = .ok (.aload_n 0, 1) := by decide +kernel
theorem dX7_side_391 : decode cX7_side 391 = .ok (.getfield 29, 3) := by decide +kernel
theorem dX7_side_394 : decode cX7_side 394 = .ok (.iload_n 1, 1) := by decide +kernel
theorem dX7_side_395 : decode cX7_side 395 = .ok (.iaload, 1) := by decide +kernel
theorem dX7_side_396 : decode cX7_side 396 = .ok (.invokestatic 157, 3) := by decide +kernel
theorem dX7_side_399 : decode cX7_side 399 = .ok (.iastore, 1) := by decide +kernel
theorem dX7_side_400 : decode cX7_side 400 = .ok (.goto (-50), 3) := by decide +kernel
theorem dX7_side_403 : decode cX7_side 403 = .ok (.iinc 2 (-1), 3) := by decide +kernel
theorem dX7_side_406 : decode cX7_side 406 = .ok (.iinc 3 (-1), 3) := by decide +kernel
theorem dX7_side_409 : decode cX7_side 409 = .ok (.aload_n 0, 1) := by decide +kernel
theorem dX7_side_410 : decode cX7_side 410 = .ok (.invokevirtual 154, 3) := by decide +kernel
theorem dX7_side_413 : decode cX7_side 413 = .ok (.goto 6, 3) := by decide +kernel
theorem dX7_side_416 : decode cX7_side 416 = .ok (.iconst 0, 1) := by decide +kernel
theorem dX7_side_417 : decode cX7_side 417 = .ok (.istore 5, 2) := by decide +kernel
theorem dX7_side_419 : decode cX7_side 419 = .ok (.iload 4, 2) := by decide +kernel
theorem dX7_side_421 : decode cX7_side 421 = .ok (.ifCond .ne (-400), 3) := by decide +kernel
theorem dX7_side_424 : decode cX7_side 424 = .ok (.iload_n 2, 1) := by decide +kernel
theorem dX7_side_425 : decode cX7_side 425 = .ok (.ifCond .le (-404), 3) := by decide +kernel
theorem dX7_side_428 : decode cX7_side 428 = .ok (.aload_n 0, 1) := by decide +kernel
theorem dX7_side_429 : decode cX7_side 429 = .ok (.getfield 32, 3) := by decide +kernel
theorem dX7_side_432 : decode cX7_side 432 = .ok (.iload_n 2, 1) := by decide +kernel
theorem dX7_side_433 : decode cX7_side 433 = .ok (.iconst 1, 1) := by decide +kernel
theorem dX7_side_434 : decode cX7_side 434 = .ok (.isub, 1) := by decide +kernel
theorem dX7_side_435 : decode cX7_side 435 = .ok (.iaload, 1) := by decide +kernel
theorem dX7_side_436 : decode cX7_side 436 = .ok (.bipush 33, 2) := by decide +kernel
theorem dX7_side_438 : decode cX7_side 438 = .ok (.if_icmp .ne (-417), 3) := by decide +kernel
theorem dX7_side_441 : decode cX7_side 441 = .ok (.iinc 2 (-1), 3) := by decide +kernel
theorem dX7_side_444 : decode cX7_side 444 = .ok (.iinc 3 (-1), 3) := by decide +kernel
theorem dX7_side_447 : decode cX7_side 447 = .ok (.aload_n 0, 1) := by decide +kernel
theorem dX7_side_448 : decode cX7_side 448 = .ok (.getfield 29, 3) := by decide +kernel
theorem dX7_side_451 : decode cX7_side 451 = .ok (.iload_n 1, 1) := by decide +kernel
theorem dX7_side_452 : decode cX7_side 452 = .ok (.iconst 1, 1) := by decide +kernel
theorem dX7_side_453 : decode cX7_side 453 = .ok (.isub, 1) := by decide +kernel
theorem dX7_side_454 : decode cX7_side 454 = .ok (.aload_n 0, 1) := by decide +kernel
theorem dX7_side_455 : decode cX7_side 455 = .ok (.invokevirtual 164, 3) := by decide +kernel
theorem dX7_side_458 : decode cX7_side 458 = .ok (.aload_n 0, 1) := by decide +kernel
theorem dX7_side_459 : decode cX7_side 459 = .ok (.getfield 29, 3) := by decide +kernel
theorem dX7_side_462 : decode cX7_side 462 = .ok (.iload_n 1, 1) := by decide +kernel
theorem dX7_side_463 : decode cX7_side 463 = .ok (.iconst 1, 1) := by decide +kernel
theorem dX7_side_464 : decode cX7_side 464 = .ok (.isub, 1) := by decide +kernel
theorem dX7_side_465 : decode cX7_side 465 = .ok (.iaload, 1) := by decide +kernel
theorem dX7_side_466 : decode cX7_side 466 = .ok (.iconst (-1), 1) := by decide +kernel
theorem dX7_side_467 : decode cX7_side 467 = .ok (.ixor, 1) := by decide +kernel
theorem dX7_side_468 : decode cX7_side 468 = .ok (.iand, 1) := by decide +kernel
theorem dX7_side_469 : decode cX7_side 469 = .ok (.iastore, 1) := by decide +kernel
theorem dX7_side_470 : decode cX7_side 470 = .ok (.goto (-51), 3) := by decide +kernel
theorem dX7_side_473 : decode cX7_side 473 = .ok (.aload_n 0, 1) := by decide +kernel
theorem dX7_side_474 : decode cX7_side 474 = .ok (.invokevirtual 135, 3) := by decide +kernel
theorem dX7_side_477 : decode cX7_side 477 = .ok (.ifCond .eq 15, 3) := by decide +kernel
theorem dX7_side_480 : decode cX7_side 480 = .ok (.aload_n 0, 1) := by decide +kernel
theorem dX7_side_481 : decode cX7_side 481 = .ok (.iload_n 2, 1) := by decide +kernel
theorem dX7_side_482 : decode cX7_side 482 = .ok (.invokevirtual 161, 3) := by decide +kernel
theorem dX7_side_485 : decode cX7_side 485 = .ok (.ifCond .eq 7, 3) := by decide +kernel
theorem dX7_side_488 : decode cX7_side 488 = .ok (.aload_n 0, 1) := by decide +kernel
theorem dX7_side_489 : decode cX7_side 489 = .ok (.invokevirtual 151, 3) := by decide +kernel
theorem dX7_side_492 : decode cX7_side 492 = .ok (.aload_n 0, 1) := by decide +kernel
theorem dX7_side_493 : decode cX7_side 493 = .ok (.invokevirtual 135, 3) := by decide +kernel
theorem dX7_side_496 : decode cX7_side 496 = .ok (.ifCond .eq 47, 3) := by decide +kernel
theorem dX7_side_499 : decode cX7_side 499 = .ok (.iload_n 2, 1) := by decide +kernel
theorem dX7_side_500 : decode cX7_side 500 = .ok (.ifCond .le 43, 3) := by decide +kernel
theorem dX7_side_503 : decode cX7_side 503 = .ok (.iinc 2 (-1), 3) := by decide +kernel
theorem dX7_side_506 : decode cX7_side 506 = .ok (.iinc 1 (-1), 3) := by decide +kernel
theorem dX7_side_509 : decode cX7_side 509 = .ok (.aload_n 0, 1) := by decide +kernel
theorem dX7_side_510 : decode cX7_side 510 = .ok (.getfield 29, 3) := by decide +kernel
theorem dX7_side_513 : decode cX7_side 513 = .ok (.iload_n 1, 1) := by decide +kernel
theorem dX7_side_514 : decode cX7_side 514 = .ok (.iconst 1, 1) := by decide +kernel
theorem dX7_side_515 : decode cX7_side 515 = .ok (.isub, 1) := by decide +kernel
theorem dX7_side_516 : decode cX7_side 516 = .ok (.aload_n 0, 1) := by decide +kernel
theorem dX7_side_517 : decode cX7_side 517 = .ok (.getfield 32, 3) := by decide +kernel
theorem dX7_side_520 : decode cX7_side 520 = .ok (.iload_n 2, 1) := by decide +kernel
theorem dX7_side_521 : decode cX7_side 521 = .ok (.iaload, 1) := by decide +kernel
theorem dX7_side_522 : decode cX7_side 522 = .ok (.aload_n 0, 1) := by decide +kernel
theorem dX7_side_523 : decode cX7_side 523 = .ok (.getfield 29, 3) := by decide +kernel
theorem dX7_side_526 : decode cX7_side 526 = .ok (.iload_n 1, 1) := by decide +kernel
theorem dX7_side_527 : decode cX7_side 527 = .ok (.iconst 1, 1) := by decide +kernel
theorem dX7_side_528 : decode cX7_side 528 = .ok (.isub, 1) := by decide +kernel
theorem dX7_side_529 : decode cX7_side 529 = .ok (.iaload, 1) := by decide +kernel
theorem dX7_side_530 : decode cX7_side 530 = .ok (.aload_n 0, 1) := by decide +kernel
theorem dX7_side_531 : decode cX7_side 531 = .ok (.getfield 29, 3) := by decide +kernel
theorem dX7_side_534 : decode cX7_side 534 = .ok (.iload_n 1, 1) := by decide +kernel
theorem dX7_side_535 : decode cX7_side 535 = .ok (.iaload, 1) := by decide +kernel
theorem dX7_side_536 : decode cX7_side 536 = .ok (.invokestatic 157, 3) := by decide +kernel
theorem dX7_side_539 : decode cX7_side 539 = .ok (.iastore, 1) := by decide +kernel
theorem dX7_side_540 : decode cX7_side 540 = .ok (.goto (-48), 3) := by decide +kernel
theorem dX7_side_543 : decode cX7_side 543 = .ok (.aload_n 0, 1) := by decide +kernel
theorem dX7_side_544 : decode cX7_side 544 = .ok (.getfield 29, 3) := by decide +kernel
theorem dX7_side_547 : decode cX7_side 547 = .ok (.iconst 0, 1) := by decide +kernel
theorem dX7_side_548 : decode cX7_side 548 = .ok (.iaload, 1) := by decide +kernel
theorem dX7_side_549 : decode cX7_side 549 = .ok (.ireturn, 1) := by decide +kernel
theorem dX7_hasOpen_0 : decode cX7_hasOpen 0 = .ok (.iconst 0, 1) := by decide +kernel
theorem dX7_hasOpen_1 : decode cX7_hasOpen 1 = .ok (.istore_n 2, 1) := by decide +kernel
theorem dX7_hasOpen_2 : decode cX7_hasOpen 2 = .ok (.iconst 0, 1) := by decide +kernel
theorem dX7_hasOpen_3 : decode cX7_hasOpen 3 = .ok (.istore_n 3, 1) := by decide +kernel
theorem dX7_hasOpen_4 : decode cX7_hasOpen 4 = .ok (.iload_n 3, 1) := by decide +kernel
theorem dX7_hasOpen_5 : decode cX7_hasOpen 5 = .ok (.iload_n 1, 1) := by decide +kernel
theorem dX7_hasOpen_6 : decode cX7_hasOpen 6 = .ok (.if_icmp .ge 28, 3) := by decide +kernel
theorem dX7_hasOpen_9 : decode cX7_hasOpen 9 = .ok (.iload_n 2, 1) := by decide +kernel
theorem dX7_hasOpen_10 : decode cX7_hasOpen 10 = .ok (.aload_n 0, 1) := by decide +kernel
theorem dX7_hasOpen_11 : decode cX7_hasOpen 11 = .ok (.getfield 32, 3) := by decide +kernel
theorem dX7_hasOpen_14 : decode cX7_hasOpen 14 = .ok (.iload_n 3, 1) := by decide +kernel
theorem dX7_hasOpen_15 : decode cX7_hasOpen 15 = .ok (.iaload, 1) := by decide +kernel
theorem dX7_hasOpen_16 : decode cX7_hasOpen 16 = .ok (.bipush 40, 2) := by decide +kernel
theorem dX7_hasOpen_18 : decode cX7_hasOpen 18 = .ok (.if_icmp .ne 7, 3) := by decide +kernel
theorem dX7_hasOpen_21 : decode cX7_hasOpen 21 = .ok (.iconst 1, 1) := by decide +kernel
theorem dX7_hasOpen_22 : decode cX7_hasOpen 22 = .ok (.goto 4, 3) := by decide +kernel
theorem dX7_hasOpen_25 : decode cX7_hasOpen 25 = .ok (.iconst 0, 1) := by decide +kernel
theorem dX7_hasOpen_26 : decode cX7_hasOpen 26 = .ok (.ior, 1) := by decide +kernel
theorem dX7_hasOpen_27 : decode cX7_hasOpen 27 = .ok (.istore_n 2, 1) := by decide +kernel
theorem dX7_hasOpen_28 : decode cX7_hasOpen 28 = .ok (.iinc 3 1, 3) := by decide +kernel
theorem dX7_hasOpen_31 : decode cX7_hasOpen 31 = .ok (.goto (-27), 3) := by decide +kernel
theorem dX7_hasOpen_34 : decode cX7_hasOpen 34 = .ok (.iload_n 2, 1) := by decide +kernel
theorem dX7_hasOpen_35 : decode cX7_hasOpen 35 = .ok (.ireturn, 1) := by decide +kernel
theorem dX7_joins_0 : decode cX7_joins 0 = .ok (.iload_n 0, 1) := by decide +kernel
theorem dX7_joins_1 : decode cX7_joins 1 = .ok (.bipush 38, 2) := by decide +kernel
theorem dX7_joins_3 : decode cX7_joins 3 = .ok (.if_icmp .ne 9, 3) := by decide +kernel
theorem dX7_joins_6 : decode cX7_joins 6 = .ok (.iload_n 1, 1) := by decide +kernel
theorem dX7_joins_7 : decode cX7_joins 7 = .ok (.iload_n 2, 1) := by decide +kernel
theorem dX7_joins_8 : decode cX7_joins 8 = .ok (.iand, 1) := by decide +kernel
theorem dX7_joins_9 : decode cX7_joins 9 = .ok (.goto 6, 3) := by decide +kernel
theorem dX7_joins_12 : decode cX7_joins 12 = .ok (.iload_n 1, 1) := by decide +kernel
theorem dX7_joins_13 : decode cX7_joins 13 = .ok (.iload_n 2, 1) := by decide +kernel
theorem dX7_joins_14 : decode cX7_joins 14 = .ok (.ior, 1) := by decide +kernel
theorem dX7_joins_15 : decode cX7_joins 15 = .ok (.ireturn, 1) := by decide +kernel
theorem dX7_read_0 : decode cX7_read 0 = .ok (.aload_n 0, 1) := by decide +kernel
theorem dX7_read_1 : decode cX7_read 1 = .ok (.iconst 0, 1) := by decide +kernel
theorem dX7_read_2 : decode cX7_read 2 = .ok (.putfield 57, 3) := by decide +kernel
theorem dX7_read_5 : decode cX7_read 5 = .ok (.iload_n 1, 1) := by decide +kernel
theorem dX7_read_6 : decode cX7_read 6 = .ok (.invokestatic 90, 3) := by decide +kernel
theorem dX7_read_9 : decode cX7_read 9 = .ok (.ifCond .ne 5, 3) := by decide +kernel
theorem dX7_read_12 : decode cX7_read 12 = .ok (.iconst (-1), 1) := by decide +kernel
theorem dX7_read_13 : decode cX7_read 13 = .ok (.ireturn, 1) := by decide +kernel
theorem dX7_read_14 : decode cX7_read 14 = .ok (.aload_n 0, 1) := by decide +kernel
theorem dX7_read_15 : decode cX7_read 15 = .ok (.iconst (-1), 1) := by decide +kernel
theorem dX7_read_16 : decode cX7_read 16 = .ok (.putfield 132, 3) := by decide +kernel
theorem dX7_read_19 : decode cX7_read 19 = .ok (.aload_n 0, 1) := by decide +kernel
theorem dX7_read_20 : decode cX7_read 20 = .ok (.iconst 0, 1) := by decide +kernel
theorem dX7_read_21 : decode cX7_read 21 = .ok (.putfield 113, 3) := by decide +kernel
theorem dX7_read_24 : decode cX7_read 24 = .ok (.aload_n 0, 1) := by decide +kernel
theorem dX7_read_25 : decode cX7_read 25 = .ok (.iconst 0, 1) := by decide +kernel
theorem dX7_read_26 : decode cX7_read 26 = .ok (.putfield 148, 3) := by decide +kernel
theorem dX7_read_29 : decode cX7_read 29 = .ok (.aload_n 0, 1) := by decide +kernel
theorem dX7_read_30 : decode cX7_read 30 = .ok (.invokevirtual 154, 3) := by decide +kernel
theorem dX7_read_33 : decode cX7_read 33 = .ok (.aload_n 0, 1) := by decide +kernel
theorem dX7_read_34 : decode cX7_read 34 = .ok (.getfield 122, 3) := by decide +kernel
theorem dX7_read_37 : decode cX7_read 37 = .ok (.iconst 1, 1) := by decide +kernel
theorem dX7_read_38 : decode cX7_read 38 = .ok (.if_icmp .ne 16, 3) := by decide +kernel
theorem dX7_read_41 : decode cX7_read 41 = .ok (.aload_n 0, 1) := by decide +kernel
theorem dX7_read_42 : decode cX7_read 42 = .ok (.getfield 129, 3) := by decide +kernel
theorem dX7_read_45 : decode cX7_read 45 = .ok (.bipush 8, 2) := by decide +kernel
theorem dX7_read_47 : decode cX7_read 47 = .ok (.if_icmp .ne 7, 3) := by decide +kernel
theorem dX7_read_50 : decode cX7_read 50 = .ok (.iconst 1, 1) := by decide +kernel
theorem dX7_read_51 : decode cX7_read 51 = .ok (.goto 4, 3) := by decide +kernel
theorem dX7_read_54 : decode cX7_read 54 = .ok (.iconst 0, 1) := by decide +kernel
theorem dX7_read_55 : decode cX7_read 55 = .ok (.istore_n 2, 1) := by decide +kernel
theorem dX7_read_56 : decode cX7_read 56 = .ok (.iload_n 2, 1) := by decide +kernel
theorem dX7_read_57 : decode cX7_read 57 = .ok (.ifCond .eq 7, 3) := by decide +kernel
theorem dX7_read_60 : decode cX7_read 60 = .ok (.aload_n 0, 1) := by decide +kernel
theorem dX7_read_61 : decode cX7_read 61 = .ok (.invokevirtual 154, 3) := by decide +kernel
theorem dX7_read_64 : decode cX7_read 64 = .ok (.aload_n 0, 1) := by decide +kernel
theorem dX7_read_65 : decode cX7_read 65 = .ok (.getfield 122, 3) := by decide +kernel
theorem dX7_read_68 : decode cX7_read 68 = .ok (.iconst 1, 1) := by decide +kernel
theorem dX7_read_69 : decode cX7_read 69 = .ok (.if_icmp .ne 10, 3) := by decide +kernel
theorem dX7_read_72 : decode cX7_read 72 = .ok (.aload_n 0, 1) := by decide +kernel
theorem dX7_read_73 : decode cX7_read 73 = .ok (.getfield 129, 3) := by decide +kernel
theorem dX7_read_76 : decode cX7_read 76 = .ok (.goto 5, 3) := by decide +kernel
theorem dX7_read_79 : decode cX7_read 79 = .ok (.bipush 8, 2) := by decide +kernel
theorem dX7_read_81 : decode cX7_read 81 = .ok (.istore_n 3, 1) := by decide +kernel
theorem dX7_read_82 : decode cX7_read 82 = .ok (.iconst 0, 1) := by decide +kernel
theorem dX7_read_83 : decode cX7_read 83 = .ok (.istore 4, 2) := by decide +kernel
theorem dX7_read_85 : decode cX7_read 85 = .ok (.iload_n 3, 1) := by decide +kernel
theorem dX7_read_86 : decode cX7_read 86 = .ok (.bipush 8, 2) := by decide +kernel
theorem dX7_read_88 : decode cX7_read 88 = .ok (.if_icmp .ne 10, 3) := by decide +kernel
theorem dX7_read_91 : decode cX7_read 91 = .ok (.aload_n 0, 1) := by decide +kernel
theorem dX7_read_92 : decode cX7_read 92 = .ok (.invokevirtual 151, 3) := by decide +kernel
theorem dX7_read_95 : decode cX7_read 95 = .ok (.goto 7, 3) := by decide +kernel
theorem dX7_read_98 : decode cX7_read 98 = .ok (.aload_n 0, 1) := by decide +kernel
theorem dX7_read_99 : decode cX7_read 99 = .ok (.invokevirtual 154, 3) := by decide +kernel
theorem dX7_read_102 : decode cX7_read 102 = .ok (.aload_n 0, 1) := by decide +kernel
theorem dX7_read_103 : decode cX7_read 103 = .ok (.invokevirtual 135, 3) := by decide +kernel
theorem dX7_read_106 : decode cX7_read 106 = .ok (.ifCond .eq 47, 3) := by decide +kernel
theorem dX7_read_109 : decode cX7_read 109 = .ok (.iload_n 3, 1) := by decide +kernel
theorem dX7_read_110 : decode cX7_read 110 = .ok (.iconst 4, 1) := by decide +kernel
theorem dX7_read_111 : decode cX7_read 111 = .ok (.if_icmp .eq 8, 3) := by decide +kernel
theorem dX7_read_114 : decode cX7_read 114 = .ok (.iload_n 3, 1) := by decide +kernel
theorem dX7_read_115 : decode cX7_read 115 = .ok (.iconst 5, 1) := by decide +kernel
theorem dX7_read_116 : decode cX7_read 116 = .ok (.if_icmp .ne 37, 3) := by decide +kernel
theorem dX7_read_119 : decode cX7_read 119 = .ok (.aload_n 0, 1) := by decide +kernel
theorem dX7_read_120 : decode cX7_read 120 = .ok (.getfield 122, 3) := by decide +kernel
theorem dX7_read_123 : decode cX7_read 123 = .ok (.iconst 2, 1) := by decide +kernel
theorem dX7_read_124 : decode cX7_read 124 = .ok (.if_icmp .ne 25, 3) := by decide +kernel
theorem dX7_read_127 : decode cX7_read 127 = .ok (.aload_n 0, 1) := by decide +kernel
theorem dX7_read_128 : decode cX7_read 128 = .ok (.getfield 129, 3) := by decide +kernel
theorem dX7_read_131 : decode cX7_read 131 = .ok (.bipush 7, 2) := by decide +kernel
theorem dX7_read_133 : decode cX7_read 133 = .ok (.if_icmp .ge 16, 3) := by decide +kernel
theorem dX7_read_136 : decode cX7_read 136 = .ok (.aload_n 0, 1) := by decide +kernel
theorem dX7_read_137 : decode cX7_read 137 = .ok (.getfield 129, 3) := by decide +kernel
theorem dX7_read_140 : decode cX7_read 140 = .ok (.istore 4, 2) := by decide +kernel
theorem dX7_read_142 : decode cX7_read 142 = .ok (.aload_n 0, 1) := by decide +kernel
theorem dX7_read_143 : decode cX7_read 143 = .ok (.invokevirtual 154, 3) := by decide +kernel
theorem dX7_read_146 : decode cX7_read 146 = .ok (.goto 7, 3) := by decide +kernel
theorem dX7_read_149 : decode cX7_read 149 = .ok (.aload_n 0, 1) := by decide +kernel
theorem dX7_read_150 : decode cX7_read 150 = .ok (.invokevirtual 151, 3) := by decide +kernel
theorem dX7_read_153 : decode cX7_read 153 = .ok (.aload_n 0, 1) := by decide +kernel
theorem dX7_read_154 : decode cX7_read 154 = .ok (.invokevirtual 167, 3) := by decide +kernel
theorem dX7_read_157 : decode cX7_read 157 = .ok (.istore 5, 2) := by decide +kernel
theorem dX7_read_159 : decode cX7_read 159 = .ok (.aload_n 0, 1) := by decide +kernel
theorem dX7_read_160 : decode cX7_read 160 = .ok (.getfield 139, 3) := by decide +kernel
theorem dX7_read_163 : decode cX7_read 163 = .ok (.istore 6, 2) := by decide +kernel
theorem dX7_read_165 : decode cX7_read 165 = .ok (.aload_n 0, 1) := by decide +kernel
theorem dX7_read_166 : decode cX7_read 166 = .ok (.bipush 58, 2) := by decide +kernel
theorem dX7_read_168 : decode cX7_read 168 = .ok (.invokevirtual 142, 3) := by decide +kernel
theorem dX7_read_171 : decode cX7_read 171 = .ok (.ifCond .eq 10, 3) := by decide +kernel
theorem dX7_read_174 : decode cX7_read 174 = .ok (.aload_n 0, 1) := by decide +kernel
theorem dX7_read_175 : decode cX7_read 175 = .ok (.invokevirtual 154, 3) := by decide +kernel
theorem dX7_read_178 : decode cX7_read 178 = .ok (.goto 7, 3) := by decide +kernel
theorem dX7_read_181 : decode cX7_read 181 = .ok (.aload_n 0, 1) := by decide +kernel
theorem dX7_read_182 : decode cX7_read 182 = .ok (.invokevirtual 151, 3) := by decide +kernel
theorem dX7_read_185 : decode cX7_read 185 = .ok (.aload_n 0, 1) := by decide +kernel
theorem dX7_read_186 : decode cX7_read 186 = .ok (.invokevirtual 135, 3) := by decide +kernel
theorem dX7_read_189 : decode cX7_read 189 = .ok (.ifCond .eq 10, 3) := by decide +kernel
theorem dX7_read_192 : decode cX7_read 192 = .ok (.aload_n 0, 1) := by decide +kernel
theorem dX7_read_193 : decode cX7_read 193 = .ok (.invokevirtual 167, 3) := by decide +kernel
theorem dX7_read_196 : decode cX7_read 196 = .ok (.goto 4, 3) := by decide +kernel
theorem dX7_read_199 : decode cX7_read 199 = .ok (.iconst 0, 1) := by decide +kernel
theorem dX7_read_200 : decode cX7_read 200 = .ok (.istore 7, 2) := by decide +kernel
theorem dX7_read_202 : decode cX7_read 202 = .ok (.aload_n 0, 1) := by decide +kernel
theorem dX7_read_203 : decode cX7_read 203 = .ok (.getfield 139, 3) := by decide +kernel
theorem dX7_read_206 : decode cX7_read 206 = .ok (.istore 8, 2) := by decide +kernel
theorem dX7_read_208 : decode cX7_read 208 = .ok (.aload_n 0, 1) := by decide +kernel
theorem dX7_read_209 : decode cX7_read 209 = .ok (.getfield 122, 3) := by decide +kernel
theorem dX7_read_212 : decode cX7_read 212 = .ok (.ifCond .eq 7, 3) := by decide +kernel
theorem dX7_read_215 : decode cX7_read 215 = .ok (.aload_n 0, 1) := by decide +kernel
theorem dX7_read_216 : decode cX7_read 216 = .ok (.invokevirtual 151, 3) := by decide +kernel
theorem dX7_read_219 : decode cX7_read 219 = .ok (.aload_n 0, 1) := by decide +kernel
theorem dX7_read_220 : decode cX7_read 220 = .ok (.invokevirtual 135, 3) := by decide +kernel
theorem dX7_read_223 : decode cX7_read 223 = .ok (.ifCond .ne 11, 3) := by decide +kernel
theorem dX7_read_226 : decode cX7_read 226 = .ok (.bipush (-10), 2) := by decide +kernel
theorem dX7_read_228 : decode cX7_read 228 = .ok (.aload_n 0, 1) := by decide +kernel
theorem dX7_read_229 : decode cX7_read 229 = .ok (.getfield 132, 3) := by decide +kernel
theorem dX7_read_232 : decode cX7_read 232 = .ok (.isub, 1) := by decide +kernel
theorem dX7_read_233 : decode cX7_read 233 = .ok (.ireturn, 1) := by decide +kernel
theorem dX7_read_234 : decode cX7_read 234 = .ok (.aload_n 0, 1) := by decide +kernel
theorem dX7_read_235 : decode cX7_read 235 = .ok (.iconst 0, 1) := by decide +kernel
theorem dX7_read_236 : decode cX7_read 236 = .ok (.putfield 98, 3) := by decide +kernel
theorem dX7_read_239 : decode cX7_read 239 = .ok (.bipush 6, 2) := by decide +kernel
theorem dX7_read_241 : decode cX7_read 241 = .ok (.iload_n 1, 1) := by decide +kernel
theorem dX7_read_242 : decode cX7_read 242 = .ok (.imul, 1) := by decide +kernel
theorem dX7_read_243 : decode cX7_read 243 = .ok (.istore 9, 2) := by decide +kernel
theorem dX7_read_245 : decode cX7_read 245 = .ok (.aload_n 0, 1) := by decide +kernel
theorem dX7_read_246 : decode cX7_read 246 = .ok (.getfield 26, 3) := by decide +kernel
theorem dX7_read_249 : decode cX7_read 249 = .ok (.iload 9, 2) := by decide +kernel
theorem dX7_read_251 : decode cX7_read 251 = .ok (.iload_n 3, 1) := by decide +kernel
theorem dX7_read_252 : decode cX7_read 252 = .ok (.iastore, 1) := by decide +kernel
theorem dX7_read_253 : decode cX7_read 253 = .ok (.aload_n 0, 1) := by decide +kernel
theorem dX7_read_254 : decode cX7_read 254 = .ok (.getfield 26, 3) := by decide +kernel
theorem dX7_read_257 : decode cX7_read 257 = .ok (.iload 9, 2) := by decide +kernel
theorem dX7_read_259 : decode cX7_read 259 = .ok (.iconst 1, 1) := by decide +kernel
theorem dX7_read_260 : decode cX7_read 260 = .ok (.iadd, 1) := by decide +kernel
theorem dX7_read_261 : decode cX7_read 261 = .ok (.iload 5, 2) := by decide +kernel
theorem dX7_read_263 : decode cX7_read 263 = .ok (.iastore, 1) := by decide +kernel
theorem dX7_read_264 : decode cX7_read 264 = .ok (.aload_n 0, 1) := by decide +kernel
theorem dX7_read_265 : decode cX7_read 265 = .ok (.getfield 26, 3) := by decide +kernel
theorem dX7_read_268 : decode cX7_read 268 = .ok (.iload 9, 2) := by decide +kernel
theorem dX7_read_270 : decode cX7_read 270 = .ok (.iconst 2, 1) := by decide +kernel
theorem dX7_read_271 : decode cX7_read 271 = .ok (.iadd, 1) := by decide +kernel
theorem dX7_read_272 : decode cX7_read 272 = .ok (.iload 7, 2) := by decide +kernel
theorem dX7_read_274 : decode cX7_read 274 = .ok (.iastore, 1) := by decide +kernel
theorem dX7_read_275 : decode cX7_read 275 = .ok (.aload_n 0, 1) := by decide +kernel
theorem dX7_read_276 : decode cX7_read 276 = .ok (.getfield 26, 3) := by decide +kernel
theorem dX7_read_279 : decode cX7_read 279 = .ok (.iload 9, 2) := by decide +kernel
theorem dX7_read_281 : decode cX7_read 281 = .ok (.iconst 3, 1) := by decide +kernel
theorem dX7_read_282 : decode cX7_read 282 = .ok (.iadd, 1) := by decide +kernel
theorem dX7_read_283 : decode cX7_read 283 = .ok (.iload 4, 2) := by decide +kernel
theorem dX7_read_285 : decode cX7_read 285 = .ok (.iastore, 1) := by decide +kernel
theorem dX7_read_286 : decode cX7_read 286 = .ok (.aload_n 0, 1) := by decide +kernel
theorem dX7_read_287 : decode cX7_read 287 = .ok (.getfield 26, 3) := by decide +kernel
theorem dX7_read_290 : decode cX7_read 290 = .ok (.iload 9, 2) := by decide +kernel
theorem dX7_read_292 : decode cX7_read 292 = .ok (.iconst 4, 1) := by decide +kernel
theorem dX7_read_293 : decode cX7_read 293 = .ok (.iadd, 1) := by decide +kernel
theorem dX7_read_294 : decode cX7_read 294 = .ok (.iload_n 2, 1) := by decide +kernel
theorem dX7_read_295 : decode cX7_read 295 = .ok (.ifCond .eq 7, 3) := by decide +kernel
theorem dX7_read_298 : decode cX7_read 298 = .ok (.iconst 1, 1) := by decide +kernel
theorem dX7_read_299 : decode cX7_read 299 = .ok (.goto 4, 3) := by decide +kernel
theorem dX7_read_302 : decode cX7_read 302 = .ok (.iconst 0, 1) := by decide +kernel
theorem dX7_read_303 : decode cX7_read 303 = .ok (.iastore, 1) := by decide +kernel
theorem dX7_read_304 : decode cX7_read 304 = .ok (.iload_n 3, 1) := by decide +kernel
theorem dX7_read_305 : decode cX7_read 305 = .ok (.ifCond .ne 15, 3) := by decide +kernel
theorem dX7_read_308 : decode cX7_read 308 = .ok (.iload_n 2, 1) := by decide +kernel
theorem dX7_read_309 : decode cX7_read 309 = .ok (.ifCond .eq 7, 3) := by decide +kernel
theorem dX7_read_312 : decode cX7_read 312 = .ok (.iconst 3, 1) := by decide +kernel
theorem dX7_read_313 : decode cX7_read 313 = .ok (.goto 33, 3) := by decide +kernel
theorem dX7_read_316 : decode cX7_read 316 = .ok (.iconst 0, 1) := by decide +kernel
theorem dX7_read_317 : decode cX7_read 317 = .ok (.goto 29, 3) := by decide +kernel
theorem dX7_read_320 : decode cX7_read 320 = .ok (.iload_n 3, 1) := by decide +kernel
theorem dX7_read_321 : decode cX7_read 321 = .ok (.iconst 1, 1) := by decide +kernel
theorem dX7_read_322 : decode cX7_read 322 = .ok (.if_icmp .ne 15, 3) := by decide +kernel
theorem dX7_read_325 : decode cX7_read 325 = .ok (.iload_n 2, 1) := by decide +kernel
theorem dX7_read_326 : decode cX7_read 326 = .ok (.ifCond .eq 7, 3) := by decide +kernel
theorem dX7_read_329 : decode cX7_read 329 = .ok (.iconst 2, 1) := by decide +kernel
theorem dX7_read_330 : decode cX7_read 330 = .ok (.goto 16, 3) := by decide +kernel
theorem dX7_read_333 : decode cX7_read 333 = .ok (.iconst 1, 1) := by decide +kernel
theorem dX7_read_334 : decode cX7_read 334 = .ok (.goto 12, 3) := by decide +kernel
theorem dX7_read_337 : decode cX7_read 337 = .ok (.iload_n 2, 1) := by decide +kernel
theorem dX7_read_338 : decode cX7_read 338 = .ok (.ifCond .eq 7, 3) := by decide +kernel
theorem dX7_read_341 : decode cX7_read 341 = .ok (.iconst 1, 1) := by decide +kernel
theorem dX7_read_342 : decode cX7_read 342 = .ok (.goto 4, 3) := by decide +kernel
theorem dX7_read_345 : decode cX7_read 345 = .ok (.iconst 2, 1) := by decide +kernel
theorem dX7_read_346 : decode cX7_read 346 = .ok (.istore 10, 2) := by decide +kernel
theorem dX7_read_348 : decode cX7_read 348 = .ok (.aload_n 0, 1) := by decide +kernel
theorem dX7_read_349 : decode cX7_read 349 = .ok (.getfield 26, 3) := by decide +kernel
theorem dX7_read_352 : decode cX7_read 352 = .ok (.iload 9, 2) := by decide +kernel
theorem dX7_read_354 : decode cX7_read 354 = .ok (.iconst 5, 1) := by decide +kernel
theorem dX7_read_355 : decode cX7_read 355 = .ok (.iadd, 1) := by decide +kernel
theorem dX7_read_356 : decode cX7_read 356 = .ok (.iload_n 3, 1) := by decide +kernel
theorem dX7_read_357 : decode cX7_read 357 = .ok (.iconst 3, 1) := by decide +kernel
theorem dX7_read_358 : decode cX7_read 358 = .ok (.if_icmp .ge 33, 3) := by decide +kernel
theorem dX7_read_361 : decode cX7_read 361 = .ok (.iload 6, 2) := by decide +kernel
theorem dX7_read_363 : decode cX7_read 363 = .ok (.bipush (-9), 2) := by decide +kernel
theorem dX7_read_365 : decode cX7_read 365 = .ok (.if_icmp .eq 26, 3) := by decide +kernel
theorem dX7_read_368 : decode cX7_read 368 = .ok (.iload 8, 2) := by decide +kernel
theorem dX7_read_370 : decode cX7_read 370 = .ok (.bipush (-9), 2) := by decide +kernel
theorem dX7_read_372 : decode cX7_read 372 = .ok (.if_icmp .eq 19, 3) := by decide +kernel
theorem dX7_read_375 : decode cX7_read 375 = .ok (.bipush 16, 2) := by decide +kernel
theorem dX7_read_377 : decode cX7_read 377 = .ok (.iload 10, 2) := by decide +kernel
theorem dX7_read_379 : decode cX7_read 379 = .ok (.imul, 1) := by decide +kernel
theorem dX7_read_380 : decode cX7_read 380 = .ok (.iconst 4, 1) := by decide +kernel
theorem dX7_read_381 : decode cX7_read 381 = .ok (.iload 6, 2) := by decide +kernel
theorem dX7_read_383 : decode cX7_read 383 = .ok (.imul, 1) := by decide +kernel
theorem dX7_read_384 : decode cX7_read 384 = .ok (.iadd, 1) := by decide +kernel
theorem dX7_read_385 : decode cX7_read 385 = .ok (.iload 8, 2) := by decide +kernel
theorem dX7_read_387 : decode cX7_read 387 = .ok (.iadd, 1) := by decide +kernel
theorem dX7_read_388 : decode cX7_read 388 = .ok (.goto 5, 3) := by decide +kernel
theorem dX7_read_391 : decode cX7_read 391 = .ok (.bipush (-9), 2) := by decide +kernel
theorem dX7_read_393 : decode cX7_read 393 = .ok (.iastore, 1) := by decide +kernel
theorem dX7_read_394 : decode cX7_read 394 = .ok (.aload_n 0, 1) := by decide +kernel
theorem dX7_read_395 : decode cX7_read 395 = .ok (.iconst 0, 1) := by decide +kernel
theorem dX7_read_396 : decode cX7_read 396 = .ok (.putfield 68, 3) := by decide +kernel
theorem dX7_read_399 : decode cX7_read 399 = .ok (.iconst 1, 1) := by decide +kernel
theorem dX7_read_400 : decode cX7_read 400 = .ok (.ireturn, 1) := by decide +kernel
theorem dX7_about_0 : decode cX7_about 0 = .ok (.aload_n 0, 1) := by decide +kernel
theorem dX7_about_1 : decode cX7_about 1 = .ok (.iconst 0, 1) := by decide +kernel
theorem dX7_about_2 : decode cX7_about 2 = .ok (.putfield 57, 3) := by decide +kernel
theorem dX7_about_5 : decode cX7_about 5 = .ok (.iload_n 1, 1) := by decide +kernel
theorem dX7_about_6 : decode cX7_about 6 = .ok (.invokestatic 90, 3) := by decide +kernel
theorem dX7_about_9 : decode cX7_about 9 = .ok (.ifCond .eq 26, 3) := by decide +kernel
theorem dX7_about_12 : decode cX7_about 12 = .ok (.iload_n 2, 1) := by decide +kernel
theorem dX7_about_13 : decode cX7_about 13 = .ok (.iconst 0, 1) := by decide +kernel
theorem dX7_about_14 : decode cX7_about 14 = .ok (.iconst 5, 1) := by decide +kernel
theorem dX7_about_15 : decode cX7_about 15 = .ok (.invokestatic 72, 3) := by decide +kernel
theorem dX7_about_18 : decode cX7_about 18 = .ok (.ifCond .eq 17, 3) := by decide +kernel
theorem dX7_about_21 : decode cX7_about 21 = .ok (.aload_n 0, 1) := by decide +kernel
theorem dX7_about_22 : decode cX7_about 22 = .ok (.getfield 26, 3) := by decide +kernel
theorem dX7_about_25 : decode cX7_about 25 = .ok (.bipush 6, 2) := by decide +kernel
theorem dX7_about_27 : decode cX7_about 27 = .ok (.iload_n 1, 1) := by decide +kernel
theorem dX7_about_28 : decode cX7_about 28 = .ok (.imul, 1) := by decide +kernel
theorem dX7_about_29 : decode cX7_about 29 = .ok (.iload_n 2, 1) := by decide +kernel
theorem dX7_about_30 : decode cX7_about 30 = .ok (.iadd, 1) := by decide +kernel
theorem dX7_about_31 : decode cX7_about 31 = .ok (.iaload, 1) := by decide +kernel
theorem dX7_about_32 : decode cX7_about 32 = .ok (.goto 4, 3) := by decide +kernel
theorem dX7_about_35 : decode cX7_about 35 = .ok (.iconst (-1), 1) := by decide +kernel
theorem dX7_about_36 : decode cX7_about 36 = .ok (.ireturn, 1) := by decide +kernel
theorem dX7_isFact_0 : decode cX7_isFact 0 = .ok (.iconst 0, 1) := by decide +kernel
theorem dX7_isFact_1 : decode cX7_isFact 1 = .ok (.istore 4, 2) := by decide +kernel
theorem dX7_isFact_3 : decode cX7_isFact 3 = .ok (.iconst 0, 1) := by decide +kernel
theorem dX7_isFact_4 : decode cX7_isFact 4 = .ok (.istore 5, 2) := by decide +kernel
theorem dX7_isFact_6 : decode cX7_isFact 6 = .ok (.iconst 0, 1) := by decide +kernel
theorem dX7_isFact_7 : decode cX7_isFact 7 = .ok (.istore 6, 2) := by decide +kernel
theorem dX7_isFact_9 : decode cX7_isFact 9 = .ok (.iload 6, 2) := by decide +kernel
theorem dX7_isFact_11 : decode cX7_isFact 11 = .ok (.aload_n 0, 1) := by decide +kernel
theorem dX7_isFact_12 : decode cX7_isFact 12 = .ok (.invokevirtual 60, 3) := by decide +kernel
theorem dX7_isFact_15 : decode cX7_isFact 15 = .ok (.if_icmp .ge 53, 3) := by decide +kernel
theorem dX7_isFact_18 : decode cX7_isFact 18 = .ok (.aload_n 0, 1) := by decide +kernel
theorem dX7_isFact_19 : decode cX7_isFact 19 = .ok (.getfield 35, 3) := by decide +kernel
theorem dX7_isFact_22 : decode cX7_isFact 22 = .ok (.iload 6, 2) := by decide +kernel
theorem dX7_isFact_24 : decode cX7_isFact 24 = .ok (.iaload, 1) := by decide +kernel
theorem dX7_isFact_25 : decode cX7_isFact 25 = .ok (.ifCond .le 37, 3) := by decide +kernel
theorem dX7_isFact_28 : decode cX7_isFact 28 = .ok (.iload 6, 2) := by decide +kernel
theorem dX7_isFact_30 : decode cX7_isFact 30 = .ok (.iload_n 2, 1) := by decide +kernel
theorem dX7_isFact_31 : decode cX7_isFact 31 = .ok (.ishr, 1) := by decide +kernel
theorem dX7_isFact_32 : decode cX7_isFact 32 = .ok (.iconst 1, 1) := by decide +kernel
theorem dX7_isFact_33 : decode cX7_isFact 33 = .ok (.iand, 1) := by decide +kernel
theorem dX7_isFact_34 : decode cX7_isFact 34 = .ok (.iconst 1, 1) := by decide +kernel
theorem dX7_isFact_35 : decode cX7_isFact 35 = .ok (.if_icmp .ne 27, 3) := by decide +kernel
theorem dX7_isFact_38 : decode cX7_isFact 38 = .ok (.iload 4, 2) := by decide +kernel
theorem dX7_isFact_40 : decode cX7_isFact 40 = .ok (.iload 6, 2) := by decide +kernel
theorem dX7_isFact_42 : decode cX7_isFact 42 = .ok (.iload_n 3, 1) := by decide +kernel
theorem dX7_isFact_43 : decode cX7_isFact 43 = .ok (.ishr, 1) := by decide +kernel
theorem dX7_isFact_44 : decode cX7_isFact 44 = .ok (.iconst 1, 1) := by decide +kernel
theorem dX7_isFact_45 : decode cX7_isFact 45 = .ok (.iand, 1) := by decide +kernel
theorem dX7_isFact_46 : decode cX7_isFact 46 = .ok (.iadd, 1) := by decide +kernel
theorem dX7_isFact_47 : decode cX7_isFact 47 = .ok (.istore 4, 2) := by decide +kernel
theorem dX7_isFact_49 : decode cX7_isFact 49 = .ok (.iload 5, 2) := by decide +kernel
theorem dX7_isFact_51 : decode cX7_isFact 51 = .ok (.iconst 1, 1) := by decide +kernel
theorem dX7_isFact_52 : decode cX7_isFact 52 = .ok (.iload 6, 2) := by decide +kernel
theorem dX7_isFact_54 : decode cX7_isFact 54 = .ok (.iload_n 3, 1) := by decide +kernel
theorem dX7_isFact_55 : decode cX7_isFact 55 = .ok (.ishr, 1) := by decide +kernel
theorem dX7_isFact_56 : decode cX7_isFact 56 = .ok (.iconst 1, 1) := by decide +kernel
theorem dX7_isFact_57 : decode cX7_isFact 57 = .ok (.iand, 1) := by decide +kernel
theorem dX7_isFact_58 : decode cX7_isFact 58 = .ok (.isub, 1) := by decide +kernel
theorem dX7_isFact_59 : decode cX7_isFact 59 = .ok (.iadd, 1) := by decide +kernel
theorem dX7_isFact_60 : decode cX7_isFact 60 = .ok (.istore 5, 2) := by decide +kernel
theorem dX7_isFact_62 : decode cX7_isFact 62 = .ok (.iinc 6 1, 3) := by decide +kernel
theorem dX7_isFact_65 : decode cX7_isFact 65 = .ok (.goto (-56), 3) := by decide +kernel
theorem dX7_isFact_68 : decode cX7_isFact 68 = .ok (.iload_n 1, 1) := by decide +kernel
theorem dX7_isFact_69 : decode cX7_isFact 69 = .ok (.ifCond .ne 16, 3) := by decide +kernel
theorem dX7_isFact_72 : decode cX7_isFact 72 = .ok (.iload 5, 2) := by decide +kernel
theorem dX7_isFact_74 : decode cX7_isFact 74 = .ok (.ifCond .ne 7, 3) := by decide +kernel
theorem dX7_isFact_77 : decode cX7_isFact 77 = .ok (.iconst 1, 1) := by decide +kernel
theorem dX7_isFact_78 : decode cX7_isFact 78 = .ok (.goto 53, 3) := by decide +kernel
theorem dX7_isFact_81 : decode cX7_isFact 81 = .ok (.iconst 0, 1) := by decide +kernel
theorem dX7_isFact_82 : decode cX7_isFact 82 = .ok (.goto 49, 3) := by decide +kernel
theorem dX7_isFact_85 : decode cX7_isFact 85 = .ok (.iload_n 1, 1) := by decide +kernel
theorem dX7_isFact_86 : decode cX7_isFact 86 = .ok (.iconst 1, 1) := by decide +kernel
theorem dX7_isFact_87 : decode cX7_isFact 87 = .ok (.if_icmp .ne 16, 3) := by decide +kernel
theorem dX7_isFact_90 : decode cX7_isFact 90 = .ok (.iload 4, 2) := by decide +kernel
theorem dX7_isFact_92 : decode cX7_isFact 92 = .ok (.ifCond .le 7, 3) := by decide +kernel
theorem dX7_isFact_95 : decode cX7_isFact 95 = .ok (.iconst 1, 1) := by decide +kernel
theorem dX7_isFact_96 : decode cX7_isFact 96 = .ok (.goto 35, 3) := by decide +kernel
theorem dX7_isFact_99 : decode cX7_isFact 99 = .ok (.iconst 0, 1) := by decide +kernel
theorem dX7_isFact_100 : decode cX7_isFact 100 = .ok (.goto 31, 3) := by decide +kernel
theorem dX7_isFact_103 : decode cX7_isFact 103 = .ok (.iload_n 1, 1) := by decide +kernel
theorem dX7_isFact_104 : decode cX7_isFact 104 = .ok (.iconst 2, 1) := by decide +kernel
theorem dX7_isFact_105 : decode cX7_isFact 105 = .ok (.if_icmp .ne 16, 3) := by decide +kernel
theorem dX7_isFact_108 : decode cX7_isFact 108 = .ok (.iload 4, 2) := by decide +kernel
theorem dX7_isFact_110 : decode cX7_isFact 110 = .ok (.ifCond .ne 7, 3) := by decide +kernel
theorem dX7_isFact_113 : decode cX7_isFact 113 = .ok (.iconst 1, 1) := by decide +kernel
theorem dX7_isFact_114 : decode cX7_isFact 114 = .ok (.goto 17, 3) := by decide +kernel
theorem dX7_isFact_117 : decode cX7_isFact 117 = .ok (.iconst 0, 1) := by decide +kernel
theorem dX7_isFact_118 : decode cX7_isFact 118 = .ok (.goto 13, 3) := by decide +kernel
theorem dX7_isFact_121 : decode cX7_isFact 121 = .ok (.iload 5, 2) := by decide +kernel
theorem dX7_isFact_123 : decode cX7_isFact 123 = .ok (.ifCond .le 7, 3) := by decide +kernel
theorem dX7_isFact_126 : decode cX7_isFact 126 = .ok (.iconst 1, 1) := by decide +kernel
theorem dX7_isFact_127 : decode cX7_isFact 127 = .ok (.goto 4, 3) := by decide +kernel
theorem dX7_isFact_130 : decode cX7_isFact 130 = .ok (.iconst 0, 1) := by decide +kernel
theorem dX7_isFact_131 : decode cX7_isFact 131 = .ok (.ireturn, 1) := by decide +kernel
theorem dX7_takes_0 : decode cX7_takes 0 = .ok (.iconst 0, 1) := by decide +kernel
theorem dX7_takes_1 : decode cX7_takes 1 = .ok (.istore_n 1, 1) := by decide +kernel
theorem dX7_takes_2 : decode cX7_takes 2 = .ok (.iconst 0, 1) := by decide +kernel
theorem dX7_takes_3 : decode cX7_takes 3 = .ok (.istore_n 2, 1) := by decide +kernel
theorem dX7_takes_4 : decode cX7_takes 4 = .ok (.iload_n 2, 1) := by decide +kernel
theorem dX7_takes_5 : decode cX7_takes 5 = .ok (.bipush 10, 2) := by decide +kernel
theorem dX7_takes_7 : decode cX7_takes 7 = .ok (.if_icmp .ge 31, 3) := by decide +kernel
theorem dX7_takes_10 : decode cX7_takes 10 = .ok (.iload_n 1, 1) := by decide +kernel
theorem dX7_takes_11 : decode cX7_takes 11 = .ok (.aload_n 0, 1) := by decide +kernel
theorem dX7_takes_12 : decode cX7_takes 12 = .ok (.iload_n 2, 1) := by decide +kernel
theorem dX7_takes_13 : decode cX7_takes 13 = .ok (.aload_n 0, 1) := by decide +kernel
theorem dX7_takes_14 : decode cX7_takes 14 = .ok (.getfield 35, 3) := by decide +kernel
theorem dX7_takes_17 : decode cX7_takes 17 = .ok (.invokevirtual 94, 3) := by decide +kernel
theorem dX7_takes_20 : decode cX7_takes 20 = .ok (.ifCond .eq 9, 3) := by decide +kernel
theorem dX7_takes_23 : decode cX7_takes 23 = .ok (.iconst 1, 1) := by decide +kernel
theorem dX7_takes_24 : decode cX7_takes 24 = .ok (.iload_n 2, 1) := by decide +kernel
theorem dX7_takes_25 : decode cX7_takes 25 = .ok (.ishl, 1) := by decide +kernel
theorem dX7_takes_26 : decode cX7_takes 26 = .ok (.goto 4, 3) := by decide +kernel
theorem dX7_takes_29 : decode cX7_takes 29 = .ok (.iconst 0, 1) := by decide +kernel
theorem dX7_takes_30 : decode cX7_takes 30 = .ok (.ior, 1) := by decide +kernel
theorem dX7_takes_31 : decode cX7_takes 31 = .ok (.istore_n 1, 1) := by decide +kernel
theorem dX7_takes_32 : decode cX7_takes 32 = .ok (.iinc 2 1, 3) := by decide +kernel
theorem dX7_takes_35 : decode cX7_takes 35 = .ok (.goto (-31), 3) := by decide +kernel
theorem dX7_takes_38 : decode cX7_takes 38 = .ok (.aload_n 0, 1) := by decide +kernel
theorem dX7_takes_39 : decode cX7_takes 39 = .ok (.getfield 38, 3) := by decide +kernel
theorem dX7_takes_42 : decode cX7_takes 42 = .ok (.iload_n 1, 1) := by decide +kernel
theorem dX7_takes_43 : decode cX7_takes 43 = .ok (.iaload, 1) := by decide +kernel
theorem dX7_takes_44 : decode cX7_takes 44 = .ok (.ifCond .ne 53, 3) := by decide +kernel
theorem dX7_takes_47 : decode cX7_takes 47 = .ok (.aload_n 0, 1) := by decide +kernel
theorem dX7_takes_48 : decode cX7_takes 48 = .ok (.getfield 41, 3) := by decide +kernel
theorem dX7_takes_51 : decode cX7_takes 51 = .ok (.iload_n 1, 1) := by decide +kernel
theorem dX7_takes_52 : decode cX7_takes 52 = .ok (.aload_n 0, 1) := by decide +kernel
theorem dX7_takes_53 : decode cX7_takes 53 = .ok (.getfield 79, 3) := by decide +kernel
theorem dX7_takes_56 : decode cX7_takes 56 = .ok (.iastore, 1) := by decide +kernel
theorem dX7_takes_57 : decode cX7_takes 57 = .ok (.iconst 0, 1) := by decide +kernel
theorem dX7_takes_58 : decode cX7_takes 58 = .ok (.istore_n 2, 1) := by decide +kernel
theorem dX7_takes_59 : decode cX7_takes 59 = .ok (.iload_n 2, 1) := by decide +kernel
theorem dX7_takes_60 : decode cX7_takes 60 = .ok (.bipush 16, 2) := by decide +kernel
theorem dX7_takes_62 : decode cX7_takes 62 = .ok (.if_icmp .ge 26, 3) := by decide +kernel
theorem dX7_takes_65 : decode cX7_takes 65 = .ok (.aload_n 0, 1) := by decide +kernel
theorem dX7_takes_66 : decode cX7_takes 66 = .ok (.getfield 44, 3) := by decide +kernel
theorem dX7_takes_69 : decode cX7_takes 69 = .ok (.bipush 16, 2) := by decide +kernel
theorem dX7_takes_71 : decode cX7_takes 71 = .ok (.iload_n 1, 1) := by decide +kernel
theorem dX7_takes_72 : decode cX7_takes 72 = .ok (.imul, 1) := by decide +kernel
theorem dX7_takes_73 : decode cX7_takes 73 = .ok (.iload_n 2, 1) := by decide +kernel
theorem dX7_takes_74 : decode cX7_takes 74 = .ok (.iadd, 1) := by decide +kernel
theorem dX7_takes_75 : decode cX7_takes 75 = .ok (.aload_n 0, 1) := by decide +kernel
theorem dX7_takes_76 : decode cX7_takes 76 = .ok (.getfield 35, 3) := by decide +kernel
theorem dX7_takes_79 : decode cX7_takes 79 = .ok (.iload_n 2, 1) := by decide +kernel
theorem dX7_takes_80 : decode cX7_takes 80 = .ok (.iaload, 1) := by decide +kernel
theorem dX7_takes_81 : decode cX7_takes 81 = .ok (.iastore, 1) := by decide +kernel
theorem dX7_takes_82 : decode cX7_takes 82 = .ok (.iinc 2 1, 3) := by decide +kernel
theorem dX7_takes_85 : decode cX7_takes 85 = .ok (.goto (-26), 3) := by decide +kernel
theorem dX7_takes_88 : decode cX7_takes 88 = .ok (.aload_n 0, 1) := by decide +kernel
theorem dX7_takes_89 : decode cX7_takes 89 = .ok (.getfield 47, 3) := by decide +kernel
theorem dX7_takes_92 : decode cX7_takes 92 = .ok (.iload_n 1, 1) := by decide +kernel
theorem dX7_takes_93 : decode cX7_takes 93 = .ok (.ldc2_w 170, 3) := by decide +kernel
theorem dX7_takes_96 : decode cX7_takes 96 = .ok (.lastore, 1) := by decide +kernel
theorem dX7_takes_97 : decode cX7_takes 97 = .ok (.aload_n 0, 1) := by decide +kernel
theorem dX7_takes_98 : decode cX7_takes 98 = .ok (.getfield 38, 3) := by decide +kernel
theorem dX7_takes_101 : decode cX7_takes 101 = .ok (.iload_n 1, 1) := by decide +kernel
theorem dX7_takes_102 : decode cX7_takes 102 = .ok (.dup2, 1) := by decide +kernel
theorem dX7_takes_103 : decode cX7_takes 103 = .ok (.iaload, 1) := by decide +kernel
theorem dX7_takes_104 : decode cX7_takes 104 = .ok (.iconst 1, 1) := by decide +kernel
theorem dX7_takes_105 : decode cX7_takes 105 = .ok (.iadd, 1) := by decide +kernel
theorem dX7_takes_106 : decode cX7_takes 106 = .ok (.iastore, 1) := by decide +kernel
theorem dX7_takes_107 : decode cX7_takes 107 = .ok (.aload_n 0, 1) := by decide +kernel
theorem dX7_takes_108 : decode cX7_takes 108 = .ok (.dup, 1) := by decide +kernel
theorem dX7_takes_109 : decode cX7_takes 109 = .ok (.getfield 79, 3) := by decide +kernel
theorem dX7_takes_112 : decode cX7_takes 112 = .ok (.iconst 1, 1) := by decide +kernel
theorem dX7_takes_113 : decode cX7_takes 113 = .ok (.iadd, 1) := by decide +kernel
theorem dX7_takes_114 : decode cX7_takes 114 = .ok (.putfield 79, 3) := by decide +kernel
theorem dX7_takes_117 : decode cX7_takes 117 = .ok (.iconst 0, 1) := by decide +kernel
theorem dX7_takes_118 : decode cX7_takes 118 = .ok (.istore_n 2, 1) := by decide +kernel
theorem dX7_takes_119 : decode cX7_takes 119 = .ok (.iload_n 2, 1) := by decide +kernel
theorem dX7_takes_120 : decode cX7_takes 120 = .ok (.iconst 4, 1) := by decide +kernel
theorem dX7_takes_121 : decode cX7_takes 121 = .ok (.if_icmp .ge 86, 3) := by decide +kernel
theorem dX7_takes_124 : decode cX7_takes 124 = .ok (.iconst 0, 1) := by decide +kernel
theorem dX7_takes_125 : decode cX7_takes 125 = .ok (.istore_n 3, 1) := by decide +kernel
theorem dX7_takes_126 : decode cX7_takes 126 = .ok (.iload_n 3, 1) := by decide +kernel
theorem dX7_takes_127 : decode cX7_takes 127 = .ok (.aload_n 0, 1) := by decide +kernel
theorem dX7_takes_128 : decode cX7_takes 128 = .ok (.getfield 7, 3) := by decide +kernel
theorem dX7_takes_131 : decode cX7_takes 131 = .ok (.if_icmp .ge 70, 3) := by decide +kernel
theorem dX7_takes_134 : decode cX7_takes 134 = .ok (.iconst 0, 1) := by decide +kernel
theorem dX7_takes_135 : decode cX7_takes 135 = .ok (.istore 4, 2) := by decide +kernel
theorem dX7_takes_137 : decode cX7_takes 137 = .ok (.iload 4, 2) := by decide +kernel
theorem dX7_takes_139 : decode cX7_takes 139 = .ok (.aload_n 0, 1) := by decide +kernel
theorem dX7_takes_140 : decode cX7_takes 140 = .ok (.getfield 7, 3) := by decide +kernel
theorem dX7_takes_143 : decode cX7_takes 143 = .ok (.if_icmp .ge 52, 3) := by decide +kernel
theorem dX7_takes_146 : decode cX7_takes 146 = .ok (.aload_n 0, 1) := by decide +kernel
theorem dX7_takes_147 : decode cX7_takes 147 = .ok (.getfield 47, 3) := by decide +kernel
theorem dX7_takes_150 : decode cX7_takes 150 = .ok (.iload_n 1, 1) := by decide +kernel
theorem dX7_takes_151 : decode cX7_takes 151 = .ok (.dup2, 1) := by decide +kernel
theorem dX7_takes_152 : decode cX7_takes 152 = .ok (.laload, 1) := by decide +kernel
theorem dX7_takes_153 : decode cX7_takes 153 = .ok (.aload_n 0, 1) := by decide +kernel
theorem dX7_takes_154 : decode cX7_takes 154 = .ok (.iload_n 2, 1) := by decide +kernel
theorem dX7_takes_155 : decode cX7_takes 155 = .ok (.iload_n 3, 1) := by decide +kernel
theorem dX7_takes_156 : decode cX7_takes 156 = .ok (.iload 4, 2) := by decide +kernel
theorem dX7_takes_158 : decode cX7_takes 158 = .ok (.invokevirtual 172, 3) := by decide +kernel
theorem dX7_takes_161 : decode cX7_takes 161 = .ok (.ifCond .eq 9, 3) := by decide +kernel
theorem dX7_takes_164 : decode cX7_takes 164 = .ok (.ldc2_w 170, 3) := by decide +kernel
theorem dX7_takes_167 : decode cX7_takes 167 = .ok (.goto 20, 3) := by decide +kernel
theorem dX7_takes_170 : decode cX7_takes 170 = .ok (.lconst 1, 1) := by decide +kernel
theorem dX7_takes_171 : decode cX7_takes 171 = .ok (.bipush 16, 2) := by decide +kernel
theorem dX7_takes_173 : decode cX7_takes 173 = .ok (.iload_n 2, 1) := by decide +kernel
theorem dX7_takes_174 : decode cX7_takes 174 = .ok (.imul, 1) := by decide +kernel
theorem dX7_takes_175 : decode cX7_takes 175 = .ok (.iconst 4, 1) := by decide +kernel
theorem dX7_takes_176 : decode cX7_takes 176 = .ok (.iload_n 3, 1) := by decide +kernel
theorem dX7_takes_177 : decode cX7_takes 177 = .ok (.imul, 1) := by decide +kernel
theorem dX7_takes_178 : decode cX7_takes 178 = .ok (.iadd, 1) := by decide +kernel
theorem dX7_takes_179 : decode cX7_takes 179 = .ok (.iload 4, 2) := by decide +kernel
theorem dX7_takes_181 : decode cX7_takes 181 = .ok (.iadd, 1) := by decide +kernel
theorem dX7_takes_182 : decode cX7_takes 182 = .ok (.lshl, 1) := by decide +kernel
theorem dX7_takes_183 : decode cX7_takes 183 = .ok (.ldc2_w 170, 3) := by decide +kernel
theorem dX7_takes_186 : decode cX7_takes 186 = .ok (.lxor, 1) := by decide +kernel
theorem dX7_takes_187 : decode cX7_takes 187 = .ok (.land, 1) := by decide +kernel
theorem dX7_takes_188 : decode cX7_takes 188 = .ok (.lastore, 1) := by decide +kernel
theorem dX7_takes_189 : decode cX7_takes 189 = .ok (.iinc 4 1, 3) := by decide +kernel
theorem dX7_takes_192 : decode cX7_takes 192 = .ok (.goto (-55), 3) := by decide +kernel
theorem dX7_takes_195 : decode cX7_takes 195 = .ok (.iinc 3 1, 3) := by decide +kernel
theorem dX7_takes_198 : decode cX7_takes 198 = .ok (.goto (-72), 3) := by decide +kernel
theorem dX7_takes_201 : decode cX7_takes 201 = .ok (.iinc 2 1, 3) := by decide +kernel
theorem dX7_takes_204 : decode cX7_takes 204 = .ok (.goto (-85), 3) := by decide +kernel
theorem dX7_takes_207 : decode cX7_takes 207 = .ok (.return_, 1) := by decide +kernel
theorem dX7_loads_0 : decode cX7_loads 0 = .ok (.aload_n 0, 1) := by decide +kernel
theorem dX7_loads_1 : decode cX7_loads 1 = .ok (.getfield 68, 3) := by decide +kernel
theorem dX7_loads_4 : decode cX7_loads 4 = .ok (.ifCond .eq 4, 3) := by decide +kernel
theorem dX7_loads_7 : decode cX7_loads 7 = .ok (.return_, 1) := by decide +kernel
theorem dX7_loads_8 : decode cX7_loads 8 = .ok (.aload_n 0, 1) := by decide +kernel
theorem dX7_loads_9 : decode cX7_loads 9 = .ok (.iconst 1, 1) := by decide +kernel
theorem dX7_loads_10 : decode cX7_loads 10 = .ok (.putfield 68, 3) := by decide +kernel
theorem dX7_loads_13 : decode cX7_loads 13 = .ok (.aload_n 0, 1) := by decide +kernel
theorem dX7_loads_14 : decode cX7_loads 14 = .ok (.iconst 0, 1) := by decide +kernel
theorem dX7_loads_15 : decode cX7_loads 15 = .ok (.putfield 79, 3) := by decide +kernel
theorem dX7_loads_18 : decode cX7_loads 18 = .ok (.iconst 0, 1) := by decide +kernel
theorem dX7_loads_19 : decode cX7_loads 19 = .ok (.istore_n 1, 1) := by decide +kernel
theorem dX7_loads_20 : decode cX7_loads 20 = .ok (.iload_n 1, 1) := by decide +kernel
theorem dX7_loads_21 : decode cX7_loads 21 = .ok (.sipush 1024, 3) := by decide +kernel
theorem dX7_loads_24 : decode cX7_loads 24 = .ok (.if_icmp .ge 16, 3) := by decide +kernel
theorem dX7_loads_27 : decode cX7_loads 27 = .ok (.aload_n 0, 1) := by decide +kernel
theorem dX7_loads_28 : decode cX7_loads 28 = .ok (.getfield 38, 3) := by decide +kernel
theorem dX7_loads_31 : decode cX7_loads 31 = .ok (.iload_n 1, 1) := by decide +kernel
theorem dX7_loads_32 : decode cX7_loads 32 = .ok (.iconst 0, 1) := by decide +kernel
theorem dX7_loads_33 : decode cX7_loads 33 = .ok (.iastore, 1) := by decide +kernel
theorem dX7_loads_34 : decode cX7_loads 34 = .ok (.iinc 1 1, 3) := by decide +kernel
theorem dX7_loads_37 : decode cX7_loads 37 = .ok (.goto (-17), 3) := by decide +kernel
theorem dX7_loads_40 : decode cX7_loads 40 = .ok (.aload_n 0, 1) := by decide +kernel
theorem dX7_loads_41 : decode cX7_loads 41 = .ok (.invokevirtual 60, 3) := by decide +kernel
theorem dX7_loads_44 : decode cX7_loads 44 = .ok (.iconst 1, 1) := by decide +kernel
theorem dX7_loads_45 : decode cX7_loads 45 = .ok (.isub, 1) := by decide +kernel
theorem dX7_loads_46 : decode cX7_loads 46 = .ok (.istore_n 1, 1) := by decide +kernel
theorem dX7_loads_47 : decode cX7_loads 47 = .ok (.iconst 0, 1) := by decide +kernel
theorem dX7_loads_48 : decode cX7_loads 48 = .ok (.istore_n 2, 1) := by decide +kernel
theorem dX7_loads_49 : decode cX7_loads 49 = .ok (.iload_n 2, 1) := by decide +kernel
theorem dX7_loads_50 : decode cX7_loads 50 = .ok (.aload_n 0, 1) := by decide +kernel
theorem dX7_loads_51 : decode cX7_loads 51 = .ok (.getfield 13, 3) := by decide +kernel
theorem dX7_loads_54 : decode cX7_loads 54 = .ok (.if_icmp .gt 131, 3) := by decide +kernel
theorem dX7_loads_57 : decode cX7_loads 57 = .ok (.iconst 0, 1) := by decide +kernel
theorem dX7_loads_58 : decode cX7_loads 58 = .ok (.istore_n 3, 1) := by decide +kernel
theorem dX7_loads_59 : decode cX7_loads 59 = .ok (.iload_n 3, 1) := by decide +kernel
theorem dX7_loads_60 : decode cX7_loads 60 = .ok (.bipush 16, 2) := by decide +kernel
theorem dX7_loads_62 : decode cX7_loads 62 = .ok (.if_icmp .ge 24, 3) := by decide +kernel
theorem dX7_loads_65 : decode cX7_loads 65 = .ok (.aload_n 0, 1) := by decide +kernel
theorem dX7_loads_66 : decode cX7_loads 66 = .ok (.getfield 35, 3) := by decide +kernel
theorem dX7_loads_69 : decode cX7_loads 69 = .ok (.iload_n 3, 1) := by decide +kernel
theorem dX7_loads_70 : decode cX7_loads 70 = .ok (.iload_n 3, 1) := by decide +kernel
theorem dX7_loads_71 : decode cX7_loads 71 = .ok (.ifCond .ne 7, 3) := by decide +kernel
theorem dX7_loads_74 : decode cX7_loads 74 = .ok (.iload_n 2, 1) := by decide +kernel
theorem dX7_loads_75 : decode cX7_loads 75 = .ok (.goto 4, 3) := by decide +kernel
theorem dX7_loads_78 : decode cX7_loads 78 = .ok (.iconst 0, 1) := by decide +kernel
theorem dX7_loads_79 : decode cX7_loads 79 = .ok (.iastore, 1) := by decide +kernel
theorem dX7_loads_80 : decode cX7_loads 80 = .ok (.iinc 3 1, 3) := by decide +kernel
theorem dX7_loads_83 : decode cX7_loads 83 = .ok (.goto (-24), 3) := by decide +kernel
theorem dX7_loads_86 : decode cX7_loads 86 = .ok (.iconst 1, 1) := by decide +kernel
theorem dX7_loads_87 : decode cX7_loads 87 = .ok (.istore_n 3, 1) := by decide +kernel
theorem dX7_loads_88 : decode cX7_loads 88 = .ok (.iload_n 3, 1) := by decide +kernel
theorem dX7_loads_89 : decode cX7_loads 89 = .ok (.ifCond .eq 90, 3) := by decide +kernel
theorem dX7_loads_92 : decode cX7_loads 92 = .ok (.aload_n 0, 1) := by decide +kernel
theorem dX7_loads_93 : decode cX7_loads 93 = .ok (.invokevirtual 175, 3) := by decide +kernel
theorem dX7_loads_96 : decode cX7_loads 96 = .ok (.aload_n 0, 1) := by decide +kernel
theorem dX7_loads_97 : decode cX7_loads 97 = .ok (.getfield 35, 3) := by decide +kernel
theorem dX7_loads_100 : decode cX7_loads 100 = .ok (.iload_n 1, 1) := by decide +kernel
theorem dX7_loads_101 : decode cX7_loads 101 = .ok (.iaload, 1) := by decide +kernel
theorem dX7_loads_102 : decode cX7_loads 102 = .ok (.istore 4, 2) := by decide +kernel
theorem dX7_loads_104 : decode cX7_loads 104 = .ok (.aload_n 0, 1) := by decide +kernel
theorem dX7_loads_105 : decode cX7_loads 105 = .ok (.getfield 35, 3) := by decide +kernel
theorem dX7_loads_108 : decode cX7_loads 108 = .ok (.iload_n 1, 1) := by decide +kernel
theorem dX7_loads_109 : decode cX7_loads 109 = .ok (.iconst 0, 1) := by decide +kernel
theorem dX7_loads_110 : decode cX7_loads 110 = .ok (.iastore, 1) := by decide +kernel
theorem dX7_loads_111 : decode cX7_loads 111 = .ok (.iload_n 1, 1) := by decide +kernel
theorem dX7_loads_112 : decode cX7_loads 112 = .ok (.iconst 1, 1) := by decide +kernel
theorem dX7_loads_113 : decode cX7_loads 113 = .ok (.isub, 1) := by decide +kernel
theorem dX7_loads_114 : decode cX7_loads 114 = .ok (.istore 5, 2) := by decide +kernel
theorem dX7_loads_116 : decode cX7_loads 116 = .ok (.iload 5, 2) := by decide +kernel
theorem dX7_loads_118 : decode cX7_loads 118 = .ok (.ifCond .lt 19, 3) := by decide +kernel
theorem dX7_loads_121 : decode cX7_loads 121 = .ok (.aload_n 0, 1) := by decide +kernel
theorem dX7_loads_122 : decode cX7_loads 122 = .ok (.getfield 35, 3) := by decide +kernel
theorem dX7_loads_125 : decode cX7_loads 125 = .ok (.iload 5, 2) := by decide +kernel
theorem dX7_loads_127 : decode cX7_loads 127 = .ok (.iaload, 1) := by decide +kernel
theorem dX7_loads_128 : decode cX7_loads 128 = .ok (.ifCond .ne 9, 3) := by decide +kernel
theorem dX7_loads_131 : decode cX7_loads 131 = .ok (.iinc 5 (-1), 3) := by decide +kernel
theorem dX7_loads_134 : decode cX7_loads 134 = .ok (.goto (-18), 3) := by decide +kernel
theorem dX7_loads_137 : decode cX7_loads 137 = .ok (.iload 5, 2) := by decide +kernel
theorem dX7_loads_139 : decode cX7_loads 139 = .ok (.ifCond .lt 7, 3) := by decide +kernel
theorem dX7_loads_142 : decode cX7_loads 142 = .ok (.iconst 1, 1) := by decide +kernel
theorem dX7_loads_143 : decode cX7_loads 143 = .ok (.goto 4, 3) := by decide +kernel
theorem dX7_loads_146 : decode cX7_loads 146 = .ok (.iconst 0, 1) := by decide +kernel
theorem dX7_loads_147 : decode cX7_loads 147 = .ok (.istore_n 3, 1) := by decide +kernel
theorem dX7_loads_148 : decode cX7_loads 148 = .ok (.iload_n 3, 1) := by decide +kernel
theorem dX7_loads_149 : decode cX7_loads 149 = .ok (.ifCond .eq 27, 3) := by decide +kernel
theorem dX7_loads_152 : decode cX7_loads 152 = .ok (.aload_n 0, 1) := by decide +kernel
theorem dX7_loads_153 : decode cX7_loads 153 = .ok (.getfield 35, 3) := by decide +kernel
theorem dX7_loads_156 : decode cX7_loads 156 = .ok (.iload 5, 2) := by decide +kernel
theorem dX7_loads_158 : decode cX7_loads 158 = .ok (.dup2, 1) := by decide +kernel
theorem dX7_loads_159 : decode cX7_loads 159 = .ok (.iaload, 1) := by decide +kernel
theorem dX7_loads_160 : decode cX7_loads 160 = .ok (.iconst 1, 1) := by decide +kernel
theorem dX7_loads_161 : decode cX7_loads 161 = .ok (.isub, 1) := by decide +kernel
theorem dX7_loads_162 : decode cX7_loads 162 = .ok (.iastore, 1) := by decide +kernel
theorem dX7_loads_163 : decode cX7_loads 163 = .ok (.aload_n 0, 1) := by decide +kernel
theorem dX7_loads_164 : decode cX7_loads 164 = .ok (.getfield 35, 3) := by decide +kernel
theorem dX7_loads_167 : decode cX7_loads 167 = .ok (.iload 5, 2) := by decide +kernel
theorem dX7_loads_169 : decode cX7_loads 169 = .ok (.iconst 1, 1) := by decide +kernel
theorem dX7_loads_170 : decode cX7_loads 170 = .ok (.iadd, 1) := by decide +kernel
theorem dX7_loads_171 : decode cX7_loads 171 = .ok (.iload 4, 2) := by decide +kernel
theorem dX7_loads_173 : decode cX7_loads 173 = .ok (.iconst 1, 1) := by decide +kernel
theorem dX7_loads_174 : decode cX7_loads 174 = .ok (.iadd, 1) := by decide +kernel
theorem dX7_loads_175 : decode cX7_loads 175 = .ok (.iastore, 1) := by decide +kernel
theorem dX7_loads_176 : decode cX7_loads 176 = .ok (.goto (-88), 3) := by decide +kernel
theorem dX7_loads_179 : decode cX7_loads 179 = .ok (.iinc 2 1, 3) := by decide +kernel
theorem dX7_loads_182 : decode cX7_loads 182 = .ok (.goto (-133), 3) := by decide +kernel
theorem dX7_loads_185 : decode cX7_loads 185 = .ok (.return_, 1) := by decide +kernel
theorem dX7_isIn_0 : decode cX7_isIn 0 = .ok (.iload_n 0, 1) := by decide +kernel
theorem dX7_isIn_1 : decode cX7_isIn 1 = .ok (.iload_n 1, 1) := by decide +kernel
theorem dX7_isIn_2 : decode cX7_isIn 2 = .ok (.iconst (-1), 1) := by decide +kernel
theorem dX7_isIn_3 : decode cX7_isIn 3 = .ok (.ixor, 1) := by decide +kernel
theorem dX7_isIn_4 : decode cX7_isIn 4 = .ok (.iand, 1) := by decide +kernel
theorem dX7_isIn_5 : decode cX7_isIn 5 = .ok (.ifCond .ne 7, 3) := by decide +kernel
theorem dX7_isIn_8 : decode cX7_isIn 8 = .ok (.iconst 1, 1) := by decide +kernel
theorem dX7_isIn_9 : decode cX7_isIn 9 = .ok (.goto 4, 3) := by decide +kernel
theorem dX7_isIn_12 : decode cX7_isIn 12 = .ok (.iconst 0, 1) := by decide +kernel
theorem dX7_isIn_13 : decode cX7_isIn 13 = .ok (.ireturn, 1) := by decide +kernel
theorem dX7_canBe_0 : decode cX7_canBe 0 = .ok (.iconst 0, 1) := by decide +kernel
theorem dX7_canBe_1 : decode cX7_canBe 1 = .ok (.istore_n 2, 1) := by decide +kernel
theorem dX7_canBe_2 : decode cX7_canBe 2 = .ok (.iconst 0, 1) := by decide +kernel
theorem dX7_canBe_3 : decode cX7_canBe 3 = .ok (.istore_n 3, 1) := by decide +kernel
theorem dX7_canBe_4 : decode cX7_canBe 4 = .ok (.iload_n 3, 1) := by decide +kernel
theorem dX7_canBe_5 : decode cX7_canBe 5 = .ok (.sipush 1024, 3) := by decide +kernel
theorem dX7_canBe_8 : decode cX7_canBe 8 = .ok (.if_icmp .ge 30, 3) := by decide +kernel
theorem dX7_canBe_11 : decode cX7_canBe 11 = .ok (.iload_n 2, 1) := by decide +kernel
theorem dX7_canBe_12 : decode cX7_canBe 12 = .ok (.iload_n 1, 1) := by decide +kernel
theorem dX7_canBe_13 : decode cX7_canBe 13 = .ok (.iload_n 3, 1) := by decide +kernel
theorem dX7_canBe_14 : decode cX7_canBe 14 = .ok (.invokestatic 178, 3) := by decide +kernel
theorem dX7_canBe_17 : decode cX7_canBe 17 = .ok (.ifCond .eq 12, 3) := by decide +kernel
theorem dX7_canBe_20 : decode cX7_canBe 20 = .ok (.aload_n 0, 1) := by decide +kernel
theorem dX7_canBe_21 : decode cX7_canBe 21 = .ok (.getfield 38, 3) := by decide +kernel
theorem dX7_canBe_24 : decode cX7_canBe 24 = .ok (.iload_n 3, 1) := by decide +kernel
theorem dX7_canBe_25 : decode cX7_canBe 25 = .ok (.iaload, 1) := by decide +kernel
theorem dX7_canBe_26 : decode cX7_canBe 26 = .ok (.goto 4, 3) := by decide +kernel
theorem dX7_canBe_29 : decode cX7_canBe 29 = .ok (.iconst 0, 1) := by decide +kernel
theorem dX7_canBe_30 : decode cX7_canBe 30 = .ok (.iadd, 1) := by decide +kernel
theorem dX7_canBe_31 : decode cX7_canBe 31 = .ok (.istore_n 2, 1) := by decide +kernel
theorem dX7_canBe_32 : decode cX7_canBe 32 = .ok (.iinc 3 1, 3) := by decide +kernel
theorem dX7_canBe_35 : decode cX7_canBe 35 = .ok (.goto (-31), 3) := by decide +kernel
theorem dX7_canBe_38 : decode cX7_canBe 38 = .ok (.iload_n 2, 1) := by decide +kernel
theorem dX7_canBe_39 : decode cX7_canBe 39 = .ok (.ireturn, 1) := by decide +kernel
theorem dX7_can_0 : decode cX7_can 0 = .ok (.aload_n 0, 1) := by decide +kernel
theorem dX7_can_1 : decode cX7_can 1 = .ok (.iconst 0, 1) := by decide +kernel
theorem dX7_can_2 : decode cX7_can 2 = .ok (.putfield 57, 3) := by decide +kernel
theorem dX7_can_5 : decode cX7_can 5 = .ok (.iload_n 1, 1) := by decide +kernel
theorem dX7_can_6 : decode cX7_can 6 = .ok (.invokestatic 182, 3) := by decide +kernel
theorem dX7_can_9 : decode cX7_can 9 = .ok (.ifCond .ne 5, 3) := by decide +kernel
theorem dX7_can_12 : decode cX7_can 12 = .ok (.iconst (-1), 1) := by decide +kernel
theorem dX7_can_13 : decode cX7_can 13 = .ok (.ireturn, 1) := by decide +kernel
theorem dX7_can_14 : decode cX7_can 14 = .ok (.aload_n 0, 1) := by decide +kernel
theorem dX7_can_15 : decode cX7_can 15 = .ok (.invokevirtual 76, 3) := by decide +kernel
theorem dX7_can_18 : decode cX7_can 18 = .ok (.aload_n 0, 1) := by decide +kernel
theorem dX7_can_19 : decode cX7_can 19 = .ok (.iload_n 1, 1) := by decide +kernel
theorem dX7_can_20 : decode cX7_can 20 = .ok (.invokevirtual 185, 3) := by decide +kernel
theorem dX7_can_23 : decode cX7_can 23 = .ok (.ireturn, 1) := by decide +kernel
theorem dX7_firstOf_0 : decode cX7_firstOf 0 = .ok (.bipush (-9), 2) := by decide +kernel
theorem dX7_firstOf_2 : decode cX7_firstOf 2 = .ok (.istore_n 3, 1) := by decide +kernel
theorem dX7_firstOf_3 : decode cX7_firstOf 3 = .ok (.iconst 0, 1) := by decide +kernel
theorem dX7_firstOf_4 : decode cX7_firstOf 4 = .ok (.istore 4, 2) := by decide +kernel
theorem dX7_firstOf_6 : decode cX7_firstOf 6 = .ok (.iload 4, 2) := by decide +kernel
theorem dX7_firstOf_8 : decode cX7_firstOf 8 = .ok (.sipush 1024, 3) := by decide +kernel
theorem dX7_firstOf_11 : decode cX7_firstOf 11 = .ok (.if_icmp .ge 82, 3) := by decide +kernel
theorem dX7_firstOf_14 : decode cX7_firstOf 14 = .ok (.aload_n 0, 1) := by decide +kernel
theorem dX7_firstOf_15 : decode cX7_firstOf 15 = .ok (.getfield 38, 3) := by decide +kernel
theorem dX7_firstOf_18 : decode cX7_firstOf 18 = .ok (.iload 4, 2) := by decide +kernel
theorem dX7_firstOf_20 : decode cX7_firstOf 20 = .ok (.iaload, 1) := by decide +kernel
theorem dX7_firstOf_21 : decode cX7_firstOf 21 = .ok (.ifCond .le 29, 3) := by decide +kernel
theorem dX7_firstOf_24 : decode cX7_firstOf 24 = .ok (.iload_n 1, 1) := by decide +kernel
theorem dX7_firstOf_25 : decode cX7_firstOf 25 = .ok (.iload 4, 2) := by decide +kernel
theorem dX7_firstOf_27 : decode cX7_firstOf 27 = .ok (.invokestatic 178, 3) := by decide +kernel
theorem dX7_firstOf_30 : decode cX7_firstOf 30 = .ok (.ifCond .eq 20, 3) := by decide +kernel
theorem dX7_firstOf_33 : decode cX7_firstOf 33 = .ok (.iload_n 2, 1) := by decide +kernel
theorem dX7_firstOf_34 : decode cX7_firstOf 34 = .ok (.ifCond .lt 12, 3) := by decide +kernel
theorem dX7_firstOf_37 : decode cX7_firstOf 37 = .ok (.iload 4, 2) := by decide +kernel
theorem dX7_firstOf_39 : decode cX7_firstOf 39 = .ok (.iload_n 2, 1) := by decide +kernel
theorem dX7_firstOf_40 : decode cX7_firstOf 40 = .ok (.ishr, 1) := by decide +kernel
theorem dX7_firstOf_41 : decode cX7_firstOf 41 = .ok (.iconst 1, 1) := by decide +kernel
theorem dX7_firstOf_42 : decode cX7_firstOf 42 = .ok (.iand, 1) := by decide +kernel
theorem dX7_firstOf_43 : decode cX7_firstOf 43 = .ok (.ifCond .ne 7, 3) := by decide +kernel
theorem dX7_firstOf_46 : decode cX7_firstOf 46 = .ok (.iconst 1, 1) := by decide +kernel
theorem dX7_firstOf_47 : decode cX7_firstOf 47 = .ok (.goto 4, 3) := by decide +kernel
theorem dX7_firstOf_50 : decode cX7_firstOf 50 = .ok (.iconst 0, 1) := by decide +kernel
theorem dX7_firstOf_51 : decode cX7_firstOf 51 = .ok (.istore 5, 2) := by decide +kernel
theorem dX7_firstOf_53 : decode cX7_firstOf 53 = .ok (.iload 5, 2) := by decide +kernel
theorem dX7_firstOf_55 : decode cX7_firstOf 55 = .ok (.ifCond .eq 30, 3) := by decide +kernel
theorem dX7_firstOf_58 : decode cX7_firstOf 58 = .ok (.iload_n 3, 1) := by decide +kernel
theorem dX7_firstOf_59 : decode cX7_firstOf 59 = .ok (.bipush (-9), 2) := by decide +kernel
theorem dX7_firstOf_61 : decode cX7_firstOf 61 = .ok (.if_icmp .eq 19, 3) := by decide +kernel
theorem dX7_firstOf_64 : decode cX7_firstOf 64 = .ok (.aload_n 0, 1) := by decide +kernel
theorem dX7_firstOf_65 : decode cX7_firstOf 65 = .ok (.getfield 41, 3) := by decide +kernel
theorem dX7_firstOf_68 : decode cX7_firstOf 68 = .ok (.iload 4, 2) := by decide +kernel
theorem dX7_firstOf_70 : decode cX7_firstOf 70 = .ok (.iaload, 1) := by decide +kernel
theorem dX7_firstOf_71 : decode cX7_firstOf 71 = .ok (.aload_n 0, 1) := by decide +kernel
theorem dX7_firstOf_72 : decode cX7_firstOf 72 = .ok (.getfield 41, 3) := by decide +kernel
theorem dX7_firstOf_75 : decode cX7_firstOf 75 = .ok (.iload_n 3, 1) := by decide +kernel
theorem dX7_firstOf_76 : decode cX7_firstOf 76 = .ok (.iaload, 1) := by decide +kernel
theorem dX7_firstOf_77 : decode cX7_firstOf 77 = .ok (.if_icmp .ge 8, 3) := by decide +kernel
theorem dX7_firstOf_80 : decode cX7_firstOf 80 = .ok (.iload 4, 2) := by decide +kernel
theorem dX7_firstOf_82 : decode cX7_firstOf 82 = .ok (.goto 4, 3) := by decide +kernel
theorem dX7_firstOf_85 : decode cX7_firstOf 85 = .ok (.iload_n 3, 1) := by decide +kernel
theorem dX7_firstOf_86 : decode cX7_firstOf 86 = .ok (.istore_n 3, 1) := by decide +kernel
theorem dX7_firstOf_87 : decode cX7_firstOf 87 = .ok (.iinc 4 1, 3) := by decide +kernel
theorem dX7_firstOf_90 : decode cX7_firstOf 90 = .ok (.goto (-84), 3) := by decide +kernel
theorem dX7_firstOf_93 : decode cX7_firstOf 93 = .ok (.iload_n 3, 1) := by decide +kernel
theorem dX7_firstOf_94 : decode cX7_firstOf 94 = .ok (.ireturn, 1) := by decide +kernel
theorem dX7_told_0 : decode cX7_told 0 = .ok (.iload_n 1, 1) := by decide +kernel
theorem dX7_told_1 : decode cX7_told 1 = .ok (.bipush (-9), 2) := by decide +kernel
theorem dX7_told_3 : decode cX7_told 3 = .ok (.if_icmp .ne 6, 3) := by decide +kernel
theorem dX7_told_6 : decode cX7_told 6 = .ok (.bipush (-9), 2) := by decide +kernel
theorem dX7_told_8 : decode cX7_told 8 = .ok (.ireturn, 1) := by decide +kernel
theorem dX7_told_9 : decode cX7_told 9 = .ok (.iconst 0, 1) := by decide +kernel
theorem dX7_told_10 : decode cX7_told 10 = .ok (.istore_n 3, 1) := by decide +kernel
theorem dX7_told_11 : decode cX7_told 11 = .ok (.iconst 0, 1) := by decide +kernel
theorem dX7_told_12 : decode cX7_told 12 = .ok (.istore 4, 2) := by decide +kernel
theorem dX7_told_14 : decode cX7_told 14 = .ok (.iload 4, 2) := by decide +kernel
theorem dX7_told_16 : decode cX7_told 16 = .ok (.bipush 16, 2) := by decide +kernel
theorem dX7_told_18 : decode cX7_told 18 = .ok (.if_icmp .ge 38, 3) := by decide +kernel
theorem dX7_told_21 : decode cX7_told 21 = .ok (.iload_n 3, 1) := by decide +kernel
theorem dX7_told_22 : decode cX7_told 22 = .ok (.iload_n 2, 1) := by decide +kernel
theorem dX7_told_23 : decode cX7_told 23 = .ok (.ifCond .lt 9, 3) := by decide +kernel
theorem dX7_told_26 : decode cX7_told 26 = .ok (.iload 4, 2) := by decide +kernel
theorem dX7_told_28 : decode cX7_told 28 = .ok (.iload_n 2, 1) := by decide +kernel
theorem dX7_told_29 : decode cX7_told 29 = .ok (.if_icmp .ne 18, 3) := by decide +kernel
theorem dX7_told_32 : decode cX7_told 32 = .ok (.aload_n 0, 1) := by decide +kernel
theorem dX7_told_33 : decode cX7_told 33 = .ok (.getfield 44, 3) := by decide +kernel
theorem dX7_told_36 : decode cX7_told 36 = .ok (.bipush 16, 2) := by decide +kernel
theorem dX7_told_38 : decode cX7_told 38 = .ok (.iload_n 1, 1) := by decide +kernel
theorem dX7_told_39 : decode cX7_told 39 = .ok (.imul, 1) := by decide +kernel
theorem dX7_told_40 : decode cX7_told 40 = .ok (.iload 4, 2) := by decide +kernel
theorem dX7_told_42 : decode cX7_told 42 = .ok (.iadd, 1) := by decide +kernel
theorem dX7_told_43 : decode cX7_told 43 = .ok (.iaload, 1) := by decide +kernel
theorem dX7_told_44 : decode cX7_told 44 = .ok (.goto 4, 3) := by decide +kernel
theorem dX7_told_47 : decode cX7_told 47 = .ok (.iconst 0, 1) := by decide +kernel
theorem dX7_told_48 : decode cX7_told 48 = .ok (.iadd, 1) := by decide +kernel
theorem dX7_told_49 : decode cX7_told 49 = .ok (.istore_n 3, 1) := by decide +kernel
theorem dX7_told_50 : decode cX7_told 50 = .ok (.iinc 4 1, 3) := by decide +kernel
theorem dX7_told_53 : decode cX7_told 53 = .ok (.goto (-39), 3) := by decide +kernel
theorem dX7_told_56 : decode cX7_told 56 = .ok (.iload_n 3, 1) := by decide +kernel
theorem dX7_told_57 : decode cX7_told 57 = .ok (.ireturn, 1) := by decide +kernel
theorem dX7_least_0 : decode cX7_least 0 = .ok (.aload_n 0, 1) := by decide +kernel
theorem dX7_least_1 : decode cX7_least 1 = .ok (.iconst 0, 1) := by decide +kernel
theorem dX7_least_2 : decode cX7_least 2 = .ok (.putfield 57, 3) := by decide +kernel
theorem dX7_least_5 : decode cX7_least 5 = .ok (.iload_n 1, 1) := by decide +kernel
theorem dX7_least_6 : decode cX7_least 6 = .ok (.invokestatic 182, 3) := by decide +kernel
theorem dX7_least_9 : decode cX7_least 9 = .ok (.ifCond .eq 17, 3) := by decide +kernel
theorem dX7_least_12 : decode cX7_least 12 = .ok (.iload_n 2, 1) := by decide +kernel
theorem dX7_least_13 : decode cX7_least 13 = .ok (.iconst (-1), 1) := by decide +kernel
theorem dX7_least_14 : decode cX7_least 14 = .ok (.aload_n 0, 1) := by decide +kernel
theorem dX7_least_15 : decode cX7_least 15 = .ok (.invokevirtual 60, 3) := by decide +kernel
theorem dX7_least_18 : decode cX7_least 18 = .ok (.iconst 1, 1) := by decide +kernel
theorem dX7_least_19 : decode cX7_least 19 = .ok (.isub, 1) := by decide +kernel
theorem dX7_least_20 : decode cX7_least 20 = .ok (.invokestatic 72, 3) := by decide +kernel
theorem dX7_least_23 : decode cX7_least 23 = .ok (.ifCond .ne 5, 3) := by decide +kernel
theorem dX7_least_26 : decode cX7_least 26 = .ok (.iconst (-1), 1) := by decide +kernel
theorem dX7_least_27 : decode cX7_least 27 = .ok (.ireturn, 1) := by decide +kernel
theorem dX7_least_28 : decode cX7_least 28 = .ok (.aload_n 0, 1) := by decide +kernel
theorem dX7_least_29 : decode cX7_least 29 = .ok (.invokevirtual 76, 3) := by decide +kernel
theorem dX7_least_32 : decode cX7_least 32 = .ok (.aload_n 0, 1) := by decide +kernel
theorem dX7_least_33 : decode cX7_least 33 = .ok (.aload_n 0, 1) := by decide +kernel
theorem dX7_least_34 : decode cX7_least 34 = .ok (.iload_n 1, 1) := by decide +kernel
theorem dX7_least_35 : decode cX7_least 35 = .ok (.iconst (-1), 1) := by decide +kernel
theorem dX7_least_36 : decode cX7_least 36 = .ok (.invokevirtual 188, 3) := by decide +kernel
theorem dX7_least_39 : decode cX7_least 39 = .ok (.iload_n 2, 1) := by decide +kernel
theorem dX7_least_40 : decode cX7_least 40 = .ok (.invokevirtual 192, 3) := by decide +kernel
theorem dX7_least_43 : decode cX7_least 43 = .ok (.ireturn, 1) := by decide +kernel
theorem dX7_follows_0 : decode cX7_follows 0 = .ok (.aload_n 0, 1) := by decide +kernel
theorem dX7_follows_1 : decode cX7_follows 1 = .ok (.iconst 0, 1) := by decide +kernel
theorem dX7_follows_2 : decode cX7_follows 2 = .ok (.putfield 57, 3) := by decide +kernel
theorem dX7_follows_5 : decode cX7_follows 5 = .ok (.iload_n 1, 1) := by decide +kernel
theorem dX7_follows_6 : decode cX7_follows 6 = .ok (.invokestatic 182, 3) := by decide +kernel
theorem dX7_follows_9 : decode cX7_follows 9 = .ok (.ifCond .eq 10, 3) := by decide +kernel
theorem dX7_follows_12 : decode cX7_follows 12 = .ok (.iload_n 2, 1) := by decide +kernel
theorem dX7_follows_13 : decode cX7_follows 13 = .ok (.invokestatic 90, 3) := by decide +kernel
theorem dX7_follows_16 : decode cX7_follows 16 = .ok (.ifCond .ne 5, 3) := by decide +kernel
theorem dX7_follows_19 : decode cX7_follows 19 = .ok (.iconst (-1), 1) := by decide +kernel
theorem dX7_follows_20 : decode cX7_follows 20 = .ok (.ireturn, 1) := by decide +kernel
theorem dX7_follows_21 : decode cX7_follows 21 = .ok (.aload_n 0, 1) := by decide +kernel
theorem dX7_follows_22 : decode cX7_follows 22 = .ok (.invokevirtual 76, 3) := by decide +kernel
theorem dX7_follows_25 : decode cX7_follows 25 = .ok (.aload_n 0, 1) := by decide +kernel
theorem dX7_follows_26 : decode cX7_follows 26 = .ok (.iload_n 1, 1) := by decide +kernel
theorem dX7_follows_27 : decode cX7_follows 27 = .ok (.iload_n 2, 1) := by decide +kernel
theorem dX7_follows_28 : decode cX7_follows 28 = .ok (.invokevirtual 188, 3) := by decide +kernel
theorem dX7_follows_31 : decode cX7_follows 31 = .ok (.bipush (-9), 2) := by decide +kernel
theorem dX7_follows_33 : decode cX7_follows 33 = .ok (.if_icmp .ne 7, 3) := by decide +kernel
theorem dX7_follows_36 : decode cX7_follows 36 = .ok (.iconst 1, 1) := by decide +kernel
theorem dX7_follows_37 : decode cX7_follows 37 = .ok (.goto 4, 3) := by decide +kernel
theorem dX7_follows_40 : decode cX7_follows 40 = .ok (.iconst 0, 1) := by decide +kernel
theorem dX7_follows_41 : decode cX7_follows 41 = .ok (.ireturn, 1) := by decide +kernel
theorem dX7_against_0 : decode cX7_against 0 = .ok (.aload_n 0, 1) := by decide +kernel
theorem dX7_against_1 : decode cX7_against 1 = .ok (.iconst 0, 1) := by decide +kernel
theorem dX7_against_2 : decode cX7_against 2 = .ok (.putfield 57, 3) := by decide +kernel
theorem dX7_against_5 : decode cX7_against 5 = .ok (.iload_n 1, 1) := by decide +kernel
theorem dX7_against_6 : decode cX7_against 6 = .ok (.invokestatic 182, 3) := by decide +kernel
theorem dX7_against_9 : decode cX7_against 9 = .ok (.ifCond .eq 24, 3) := by decide +kernel
theorem dX7_against_12 : decode cX7_against 12 = .ok (.iload_n 2, 1) := by decide +kernel
theorem dX7_against_13 : decode cX7_against 13 = .ok (.invokestatic 90, 3) := by decide +kernel
theorem dX7_against_16 : decode cX7_against 16 = .ok (.ifCond .eq 17, 3) := by decide +kernel
theorem dX7_against_19 : decode cX7_against 19 = .ok (.iload_n 3, 1) := by decide +kernel
theorem dX7_against_20 : decode cX7_against 20 = .ok (.iconst (-1), 1) := by decide +kernel
theorem dX7_against_21 : decode cX7_against 21 = .ok (.aload_n 0, 1) := by decide +kernel
theorem dX7_against_22 : decode cX7_against 22 = .ok (.invokevirtual 60, 3) := by decide +kernel
theorem dX7_against_25 : decode cX7_against 25 = .ok (.iconst 1, 1) := by decide +kernel
theorem dX7_against_26 : decode cX7_against 26 = .ok (.isub, 1) := by decide +kernel
theorem dX7_against_27 : decode cX7_against 27 = .ok (.invokestatic 72, 3) := by decide +kernel
theorem dX7_against_30 : decode cX7_against 30 = .ok (.ifCond .ne 5, 3) := by decide +kernel
theorem dX7_against_33 : decode cX7_against 33 = .ok (.iconst (-1), 1) := by decide +kernel
theorem dX7_against_34 : decode cX7_against 34 = .ok (.ireturn, 1) := by decide +kernel
theorem dX7_against_35 : decode cX7_against 35 = .ok (.aload_n 0, 1) := by decide +kernel
theorem dX7_against_36 : decode cX7_against 36 = .ok (.invokevirtual 76, 3) := by decide +kernel
theorem dX7_against_39 : decode cX7_against 39 = .ok (.aload_n 0, 1) := by decide +kernel
theorem dX7_against_40 : decode cX7_against 40 = .ok (.aload_n 0, 1) := by decide +kernel
theorem dX7_against_41 : decode cX7_against 41 = .ok (.iload_n 1, 1) := by decide +kernel
theorem dX7_against_42 : decode cX7_against 42 = .ok (.iload_n 2, 1) := by decide +kernel
theorem dX7_against_43 : decode cX7_against 43 = .ok (.invokevirtual 188, 3) := by decide +kernel
theorem dX7_against_46 : decode cX7_against 46 = .ok (.iload_n 3, 1) := by decide +kernel
theorem dX7_against_47 : decode cX7_against 47 = .ok (.invokevirtual 192, 3) := by decide +kernel
theorem dX7_against_50 : decode cX7_against 50 = .ok (.ireturn, 1) := by decide +kernel
theorem dX7_unsaid_0 : decode cX7_unsaid 0 = .ok (.aload_n 0, 1) := by decide +kernel
theorem dX7_unsaid_1 : decode cX7_unsaid 1 = .ok (.iconst 0, 1) := by decide +kernel
theorem dX7_unsaid_2 : decode cX7_unsaid 2 = .ok (.putfield 57, 3) := by decide +kernel
theorem dX7_unsaid_5 : decode cX7_unsaid 5 = .ok (.iload_n 1, 1) := by decide +kernel
theorem dX7_unsaid_6 : decode cX7_unsaid 6 = .ok (.invokestatic 182, 3) := by decide +kernel
theorem dX7_unsaid_9 : decode cX7_unsaid 9 = .ok (.ifCond .ne 5, 3) := by decide +kernel
theorem dX7_unsaid_12 : decode cX7_unsaid 12 = .ok (.iconst (-1), 1) := by decide +kernel
theorem dX7_unsaid_13 : decode cX7_unsaid 13 = .ok (.ireturn, 1) := by decide +kernel
theorem dX7_unsaid_14 : decode cX7_unsaid 14 = .ok (.aload_n 0, 1) := by decide +kernel
theorem dX7_unsaid_15 : decode cX7_unsaid 15 = .ok (.invokevirtual 76, 3) := by decide +kernel
theorem dX7_unsaid_18 : decode cX7_unsaid 18 = .ok (.iconst 0, 1) := by decide +kernel
theorem dX7_unsaid_19 : decode cX7_unsaid 19 = .ok (.istore_n 2, 1) := by decide +kernel
theorem dX7_unsaid_20 : decode cX7_unsaid 20 = .ok (.iconst 0, 1) := by decide +kernel
theorem dX7_unsaid_21 : decode cX7_unsaid 21 = .ok (.istore_n 3, 1) := by decide +kernel
theorem dX7_unsaid_22 : decode cX7_unsaid 22 = .ok (.iload_n 3, 1) := by decide +kernel
theorem dX7_unsaid_23 : decode cX7_unsaid 23 = .ok (.bipush 10, 2) := by decide +kernel
theorem dX7_unsaid_25 : decode cX7_unsaid 25 = .ok (.if_icmp .ge 45, 3) := by decide +kernel
theorem dX7_unsaid_28 : decode cX7_unsaid 28 = .ok (.iload_n 2, 1) := by decide +kernel
theorem dX7_unsaid_29 : decode cX7_unsaid 29 = .ok (.iload_n 1, 1) := by decide +kernel
theorem dX7_unsaid_30 : decode cX7_unsaid 30 = .ok (.iload_n 3, 1) := by decide +kernel
theorem dX7_unsaid_31 : decode cX7_unsaid 31 = .ok (.ishr, 1) := by decide +kernel
theorem dX7_unsaid_32 : decode cX7_unsaid 32 = .ok (.iconst 1, 1) := by decide +kernel
theorem dX7_unsaid_33 : decode cX7_unsaid 33 = .ok (.iand, 1) := by decide +kernel
theorem dX7_unsaid_34 : decode cX7_unsaid 34 = .ok (.iconst 1, 1) := by decide +kernel
theorem dX7_unsaid_35 : decode cX7_unsaid 35 = .ok (.if_icmp .ne 26, 3) := by decide +kernel
theorem dX7_unsaid_38 : decode cX7_unsaid 38 = .ok (.aload_n 0, 1) := by decide +kernel
theorem dX7_unsaid_39 : decode cX7_unsaid 39 = .ok (.iload_n 1, 1) := by decide +kernel
theorem dX7_unsaid_40 : decode cX7_unsaid 40 = .ok (.iconst 1, 1) := by decide +kernel
theorem dX7_unsaid_41 : decode cX7_unsaid 41 = .ok (.iload_n 3, 1) := by decide +kernel
theorem dX7_unsaid_42 : decode cX7_unsaid 42 = .ok (.ishl, 1) := by decide +kernel
theorem dX7_unsaid_43 : decode cX7_unsaid 43 = .ok (.iconst (-1), 1) := by decide +kernel
theorem dX7_unsaid_44 : decode cX7_unsaid 44 = .ok (.ixor, 1) := by decide +kernel
theorem dX7_unsaid_45 : decode cX7_unsaid 45 = .ok (.iand, 1) := by decide +kernel
theorem dX7_unsaid_46 : decode cX7_unsaid 46 = .ok (.iload_n 3, 1) := by decide +kernel
theorem dX7_unsaid_47 : decode cX7_unsaid 47 = .ok (.invokevirtual 188, 3) := by decide +kernel
theorem dX7_unsaid_50 : decode cX7_unsaid 50 = .ok (.bipush (-9), 2) := by decide +kernel
theorem dX7_unsaid_52 : decode cX7_unsaid 52 = .ok (.if_icmp .ne 9, 3) := by decide +kernel
theorem dX7_unsaid_55 : decode cX7_unsaid 55 = .ok (.iconst 1, 1) := by decide +kernel
theorem dX7_unsaid_56 : decode cX7_unsaid 56 = .ok (.iload_n 3, 1) := by decide +kernel
theorem dX7_unsaid_57 : decode cX7_unsaid 57 = .ok (.ishl, 1) := by decide +kernel
theorem dX7_unsaid_58 : decode cX7_unsaid 58 = .ok (.goto 4, 3) := by decide +kernel
theorem dX7_unsaid_61 : decode cX7_unsaid 61 = .ok (.iconst 0, 1) := by decide +kernel
theorem dX7_unsaid_62 : decode cX7_unsaid 62 = .ok (.ior, 1) := by decide +kernel
theorem dX7_unsaid_63 : decode cX7_unsaid 63 = .ok (.istore_n 2, 1) := by decide +kernel
theorem dX7_unsaid_64 : decode cX7_unsaid 64 = .ok (.iinc 3 1, 3) := by decide +kernel
theorem dX7_unsaid_67 : decode cX7_unsaid 67 = .ok (.goto (-45), 3) := by decide +kernel
theorem dX7_unsaid_70 : decode cX7_unsaid 70 = .ok (.iload_n 2, 1) := by decide +kernel
theorem dX7_unsaid_71 : decode cX7_unsaid 71 = .ok (.ireturn, 1) := by decide +kernel
theorem dX7_ones_0 : decode cX7_ones 0 = .ok (.iconst 0, 1) := by decide +kernel
theorem dX7_ones_1 : decode cX7_ones 1 = .ok (.istore_n 1, 1) := by decide +kernel
theorem dX7_ones_2 : decode cX7_ones 2 = .ok (.iconst 0, 1) := by decide +kernel
theorem dX7_ones_3 : decode cX7_ones 3 = .ok (.istore_n 2, 1) := by decide +kernel
theorem dX7_ones_4 : decode cX7_ones 4 = .ok (.iload_n 2, 1) := by decide +kernel
theorem dX7_ones_5 : decode cX7_ones 5 = .ok (.bipush 10, 2) := by decide +kernel
theorem dX7_ones_7 : decode cX7_ones 7 = .ok (.if_icmp .ge 17, 3) := by decide +kernel
theorem dX7_ones_10 : decode cX7_ones 10 = .ok (.iload_n 1, 1) := by decide +kernel
theorem dX7_ones_11 : decode cX7_ones 11 = .ok (.iload_n 0, 1) := by decide +kernel
theorem dX7_ones_12 : decode cX7_ones 12 = .ok (.iload_n 2, 1) := by decide +kernel
theorem dX7_ones_13 : decode cX7_ones 13 = .ok (.ishr, 1) := by decide +kernel
theorem dX7_ones_14 : decode cX7_ones 14 = .ok (.iconst 1, 1) := by decide +kernel
theorem dX7_ones_15 : decode cX7_ones 15 = .ok (.iand, 1) := by decide +kernel
theorem dX7_ones_16 : decode cX7_ones 16 = .ok (.iadd, 1) := by decide +kernel
theorem dX7_ones_17 : decode cX7_ones 17 = .ok (.istore_n 1, 1) := by decide +kernel
theorem dX7_ones_18 : decode cX7_ones 18 = .ok (.iinc 2 1, 3) := by decide +kernel
theorem dX7_ones_21 : decode cX7_ones 21 = .ok (.goto (-17), 3) := by decide +kernel
theorem dX7_ones_24 : decode cX7_ones 24 = .ok (.iload_n 1, 1) := by decide +kernel
theorem dX7_ones_25 : decode cX7_ones 25 = .ok (.ireturn, 1) := by decide +kernel
theorem dX7_clash_0 : decode cX7_clash 0 = .ok (.aload_n 0, 1) := by decide +kernel
theorem dX7_clash_1 : decode cX7_clash 1 = .ok (.iconst 0, 1) := by decide +kernel
theorem dX7_clash_2 : decode cX7_clash 2 = .ok (.putfield 57, 3) := by decide +kernel
theorem dX7_clash_5 : decode cX7_clash 5 = .ok (.iload_n 1, 1) := by decide +kernel
theorem dX7_clash_6 : decode cX7_clash 6 = .ok (.invokestatic 182, 3) := by decide +kernel
theorem dX7_clash_9 : decode cX7_clash 9 = .ok (.ifCond .eq 12, 3) := by decide +kernel
theorem dX7_clash_12 : decode cX7_clash 12 = .ok (.iload_n 2, 1) := by decide +kernel
theorem dX7_clash_13 : decode cX7_clash 13 = .ok (.iconst 0, 1) := by decide +kernel
theorem dX7_clash_14 : decode cX7_clash 14 = .ok (.iconst 1, 1) := by decide +kernel
theorem dX7_clash_15 : decode cX7_clash 15 = .ok (.invokestatic 72, 3) := by decide +kernel
theorem dX7_clash_18 : decode cX7_clash 18 = .ok (.ifCond .ne 5, 3) := by decide +kernel
theorem dX7_clash_21 : decode cX7_clash 21 = .ok (.iconst (-1), 1) := by decide +kernel
theorem dX7_clash_22 : decode cX7_clash 22 = .ok (.ireturn, 1) := by decide +kernel
theorem dX7_clash_23 : decode cX7_clash 23 = .ok (.aload_n 0, 1) := by decide +kernel
theorem dX7_clash_24 : decode cX7_clash 24 = .ok (.invokevirtual 76, 3) := by decide +kernel
theorem dX7_clash_27 : decode cX7_clash 27 = .ok (.aload_n 0, 1) := by decide +kernel
theorem dX7_clash_28 : decode cX7_clash 28 = .ok (.iload_n 1, 1) := by decide +kernel
theorem dX7_clash_29 : decode cX7_clash 29 = .ok (.invokevirtual 185, 3) := by decide +kernel
theorem dX7_clash_32 : decode cX7_clash 32 = .ok (.ifCond .le 6, 3) := by decide +kernel
theorem dX7_clash_35 : decode cX7_clash 35 = .ok (.bipush (-9), 2) := by decide +kernel
theorem dX7_clash_37 : decode cX7_clash 37 = .ok (.ireturn, 1) := by decide +kernel
theorem dX7_clash_38 : decode cX7_clash 38 = .ok (.iload_n 1, 1) := by decide +kernel
theorem dX7_clash_39 : decode cX7_clash 39 = .ok (.istore_n 3, 1) := by decide +kernel
theorem dX7_clash_40 : decode cX7_clash 40 = .ok (.iload_n 1, 1) := by decide +kernel
theorem dX7_clash_41 : decode cX7_clash 41 = .ok (.istore 4, 2) := by decide +kernel
theorem dX7_clash_43 : decode cX7_clash 43 = .ok (.iload 4, 2) := by decide +kernel
theorem dX7_clash_45 : decode cX7_clash 45 = .ok (.ifCond .lt 49, 3) := by decide +kernel
theorem dX7_clash_48 : decode cX7_clash 48 = .ok (.iload 4, 2) := by decide +kernel
theorem dX7_clash_50 : decode cX7_clash 50 = .ok (.iload_n 1, 1) := by decide +kernel
theorem dX7_clash_51 : decode cX7_clash 51 = .ok (.invokestatic 178, 3) := by decide +kernel
theorem dX7_clash_54 : decode cX7_clash 54 = .ok (.ifCond .eq 32, 3) := by decide +kernel
theorem dX7_clash_57 : decode cX7_clash 57 = .ok (.iload 4, 2) := by decide +kernel
theorem dX7_clash_59 : decode cX7_clash 59 = .ok (.invokestatic 195, 3) := by decide +kernel
theorem dX7_clash_62 : decode cX7_clash 62 = .ok (.iload_n 3, 1) := by decide +kernel
theorem dX7_clash_63 : decode cX7_clash 63 = .ok (.invokestatic 195, 3) := by decide +kernel
theorem dX7_clash_66 : decode cX7_clash 66 = .ok (.if_icmp .gt 20, 3) := by decide +kernel
theorem dX7_clash_69 : decode cX7_clash 69 = .ok (.aload_n 0, 1) := by decide +kernel
theorem dX7_clash_70 : decode cX7_clash 70 = .ok (.iload 4, 2) := by decide +kernel
theorem dX7_clash_72 : decode cX7_clash 72 = .ok (.iconst (-1), 1) := by decide +kernel
theorem dX7_clash_73 : decode cX7_clash 73 = .ok (.invokevirtual 188, 3) := by decide +kernel
theorem dX7_clash_76 : decode cX7_clash 76 = .ok (.bipush (-9), 2) := by decide +kernel
theorem dX7_clash_78 : decode cX7_clash 78 = .ok (.if_icmp .ne 8, 3) := by decide +kernel
theorem dX7_clash_81 : decode cX7_clash 81 = .ok (.iload 4, 2) := by decide +kernel
theorem dX7_clash_83 : decode cX7_clash 83 = .ok (.goto 4, 3) := by decide +kernel
theorem dX7_clash_86 : decode cX7_clash 86 = .ok (.iload_n 3, 1) := by decide +kernel
theorem dX7_clash_87 : decode cX7_clash 87 = .ok (.istore_n 3, 1) := by decide +kernel
theorem dX7_clash_88 : decode cX7_clash 88 = .ok (.iinc 4 (-1), 3) := by decide +kernel
theorem dX7_clash_91 : decode cX7_clash 91 = .ok (.goto (-48), 3) := by decide +kernel
theorem dX7_clash_94 : decode cX7_clash 94 = .ok (.iload_n 2, 1) := by decide +kernel
theorem dX7_clash_95 : decode cX7_clash 95 = .ok (.ifCond .ne 10, 3) := by decide +kernel
theorem dX7_clash_98 : decode cX7_clash 98 = .ok (.iload_n 3, 1) := by decide +kernel
theorem dX7_clash_99 : decode cX7_clash 99 = .ok (.invokestatic 195, 3) := by decide +kernel
theorem dX7_clash_102 : decode cX7_clash 102 = .ok (.goto 4, 3) := by decide +kernel
theorem dX7_clash_105 : decode cX7_clash 105 = .ok (.iload_n 3, 1) := by decide +kernel
theorem dX7_clash_106 : decode cX7_clash 106 = .ok (.ireturn, 1) := by decide +kernel
theorem dX7_ask_0 : decode cX7_ask 0 = .ok (.aload_n 0, 1) := by decide +kernel
theorem dX7_ask_1 : decode cX7_ask 1 = .ok (.iconst 0, 1) := by decide +kernel
theorem dX7_ask_2 : decode cX7_ask 2 = .ok (.putfield 57, 3) := by decide +kernel
theorem dX7_ask_5 : decode cX7_ask 5 = .ok (.iload_n 1, 1) := by decide +kernel
theorem dX7_ask_6 : decode cX7_ask 6 = .ok (.invokestatic 182, 3) := by decide +kernel
theorem dX7_ask_9 : decode cX7_ask 9 = .ok (.ifCond .ne 5, 3) := by decide +kernel
theorem dX7_ask_12 : decode cX7_ask 12 = .ok (.iconst (-1), 1) := by decide +kernel
theorem dX7_ask_13 : decode cX7_ask 13 = .ok (.ireturn, 1) := by decide +kernel
theorem dX7_ask_14 : decode cX7_ask 14 = .ok (.aload_n 0, 1) := by decide +kernel
theorem dX7_ask_15 : decode cX7_ask 15 = .ok (.invokevirtual 76, 3) := by decide +kernel
theorem dX7_ask_18 : decode cX7_ask 18 = .ok (.aload_n 0, 1) := by decide +kernel
theorem dX7_ask_19 : decode cX7_ask 19 = .ok (.iload_n 1, 1) := by decide +kernel
theorem dX7_ask_20 : decode cX7_ask 20 = .ok (.invokevirtual 185, 3) := by decide +kernel
theorem dX7_ask_23 : decode cX7_ask 23 = .ok (.istore_n 2, 1) := by decide +kernel
theorem dX7_ask_24 : decode cX7_ask 24 = .ok (.iload_n 2, 1) := by decide +kernel
theorem dX7_ask_25 : decode cX7_ask 25 = .ok (.ifCond .ne 6, 3) := by decide +kernel
theorem dX7_ask_28 : decode cX7_ask 28 = .ok (.bipush (-2), 2) := by decide +kernel
theorem dX7_ask_30 : decode cX7_ask 30 = .ok (.ireturn, 1) := by decide +kernel
theorem dX7_ask_31 : decode cX7_ask 31 = .ok (.bipush (-9), 2) := by decide +kernel
theorem dX7_ask_33 : decode cX7_ask 33 = .ok (.istore_n 3, 1) := by decide +kernel
theorem dX7_ask_34 : decode cX7_ask 34 = .ok (.iconst 0, 1) := by decide +kernel
theorem dX7_ask_35 : decode cX7_ask 35 = .ok (.istore 4, 2) := by decide +kernel
theorem dX7_ask_37 : decode cX7_ask 37 = .ok (.iconst 0, 1) := by decide +kernel
theorem dX7_ask_38 : decode cX7_ask 38 = .ok (.istore 5, 2) := by decide +kernel
theorem dX7_ask_40 : decode cX7_ask 40 = .ok (.iload 5, 2) := by decide +kernel
theorem dX7_ask_42 : decode cX7_ask 42 = .ok (.bipush 10, 2) := by decide +kernel
theorem dX7_ask_44 : decode cX7_ask 44 = .ok (.if_icmp .ge 61, 3) := by decide +kernel
theorem dX7_ask_47 : decode cX7_ask 47 = .ok (.aload_n 0, 1) := by decide +kernel
theorem dX7_ask_48 : decode cX7_ask 48 = .ok (.iload_n 1, 1) := by decide +kernel
theorem dX7_ask_49 : decode cX7_ask 49 = .ok (.iconst 1, 1) := by decide +kernel
theorem dX7_ask_50 : decode cX7_ask 50 = .ok (.iload 5, 2) := by decide +kernel
theorem dX7_ask_52 : decode cX7_ask 52 = .ok (.ishl, 1) := by decide +kernel
theorem dX7_ask_53 : decode cX7_ask 53 = .ok (.ior, 1) := by decide +kernel
theorem dX7_ask_54 : decode cX7_ask 54 = .ok (.invokevirtual 185, 3) := by decide +kernel
theorem dX7_ask_57 : decode cX7_ask 57 = .ok (.istore 6, 2) := by decide +kernel
theorem dX7_ask_59 : decode cX7_ask 59 = .ok (.iload 6, 2) := by decide +kernel
theorem dX7_ask_61 : decode cX7_ask 61 = .ok (.iload_n 2, 1) := by decide +kernel
theorem dX7_ask_62 : decode cX7_ask 62 = .ok (.iload 6, 2) := by decide +kernel
theorem dX7_ask_64 : decode cX7_ask 64 = .ok (.isub, 1) := by decide +kernel
theorem dX7_ask_65 : decode cX7_ask 65 = .ok (.if_icmp .le 8, 3) := by decide +kernel
theorem dX7_ask_68 : decode cX7_ask 68 = .ok (.iload 6, 2) := by decide +kernel
theorem dX7_ask_70 : decode cX7_ask 70 = .ok (.goto 7, 3) := by decide +kernel
theorem dX7_ask_73 : decode cX7_ask 73 = .ok (.iload_n 2, 1) := by decide +kernel
theorem dX7_ask_74 : decode cX7_ask 74 = .ok (.iload 6, 2) := by decide +kernel
theorem dX7_ask_76 : decode cX7_ask 76 = .ok (.isub, 1) := by decide +kernel
theorem dX7_ask_77 : decode cX7_ask 77 = .ok (.istore 7, 2) := by decide +kernel
theorem dX7_ask_79 : decode cX7_ask 79 = .ok (.iload_n 3, 1) := by decide +kernel
theorem dX7_ask_80 : decode cX7_ask 80 = .ok (.bipush (-9), 2) := by decide +kernel
theorem dX7_ask_82 : decode cX7_ask 82 = .ok (.if_icmp .eq 10, 3) := by decide +kernel
theorem dX7_ask_85 : decode cX7_ask 85 = .ok (.iload 7, 2) := by decide +kernel
theorem dX7_ask_87 : decode cX7_ask 87 = .ok (.iload 4, 2) := by decide +kernel
theorem dX7_ask_89 : decode cX7_ask 89 = .ok (.if_icmp .ge 10, 3) := by decide +kernel
theorem dX7_ask_92 : decode cX7_ask 92 = .ok (.iload 5, 2) := by decide +kernel
theorem dX7_ask_94 : decode cX7_ask 94 = .ok (.istore_n 3, 1) := by decide +kernel
theorem dX7_ask_95 : decode cX7_ask 95 = .ok (.iload 7, 2) := by decide +kernel
theorem dX7_ask_97 : decode cX7_ask 97 = .ok (.istore 4, 2) := by decide +kernel
theorem dX7_ask_99 : decode cX7_ask 99 = .ok (.iinc 5 1, 3) := by decide +kernel
theorem dX7_ask_102 : decode cX7_ask 102 = .ok (.goto (-62), 3) := by decide +kernel
theorem dX7_ask_105 : decode cX7_ask 105 = .ok (.iload_n 3, 1) := by decide +kernel
theorem dX7_ask_106 : decode cX7_ask 106 = .ok (.ireturn, 1) := by decide +kernel
theorem dX7_heaps_0 : decode cX7_heaps 0 = .ok (.aload_n 0, 1) := by decide +kernel
theorem dX7_heaps_1 : decode cX7_heaps 1 = .ok (.iconst 0, 1) := by decide +kernel
theorem dX7_heaps_2 : decode cX7_heaps 2 = .ok (.putfield 57, 3) := by decide +kernel
theorem dX7_heaps_5 : decode cX7_heaps 5 = .ok (.iload_n 1, 1) := by decide +kernel
theorem dX7_heaps_6 : decode cX7_heaps 6 = .ok (.invokestatic 182, 3) := by decide +kernel
theorem dX7_heaps_9 : decode cX7_heaps 9 = .ok (.ifCond .ne 5, 3) := by decide +kernel
theorem dX7_heaps_12 : decode cX7_heaps 12 = .ok (.iconst (-1), 1) := by decide +kernel
theorem dX7_heaps_13 : decode cX7_heaps 13 = .ok (.ireturn, 1) := by decide +kernel
theorem dX7_heaps_14 : decode cX7_heaps 14 = .ok (.aload_n 0, 1) := by decide +kernel
theorem dX7_heaps_15 : decode cX7_heaps 15 = .ok (.invokevirtual 76, 3) := by decide +kernel
theorem dX7_heaps_18 : decode cX7_heaps 18 = .ok (.iconst 0, 1) := by decide +kernel
theorem dX7_heaps_19 : decode cX7_heaps 19 = .ok (.istore_n 2, 1) := by decide +kernel
theorem dX7_heaps_20 : decode cX7_heaps 20 = .ok (.iconst 0, 1) := by decide +kernel
theorem dX7_heaps_21 : decode cX7_heaps 21 = .ok (.istore_n 3, 1) := by decide +kernel
theorem dX7_heaps_22 : decode cX7_heaps 22 = .ok (.iload_n 3, 1) := by decide +kernel
theorem dX7_heaps_23 : decode cX7_heaps 23 = .ok (.sipush 1024, 3) := by decide +kernel
theorem dX7_heaps_26 : decode cX7_heaps 26 = .ok (.if_icmp .ge 34, 3) := by decide +kernel
theorem dX7_heaps_29 : decode cX7_heaps 29 = .ok (.iload_n 2, 1) := by decide +kernel
theorem dX7_heaps_30 : decode cX7_heaps 30 = .ok (.aload_n 0, 1) := by decide +kernel
theorem dX7_heaps_31 : decode cX7_heaps 31 = .ok (.getfield 38, 3) := by decide +kernel
theorem dX7_heaps_34 : decode cX7_heaps 34 = .ok (.iload_n 3, 1) := by decide +kernel
theorem dX7_heaps_35 : decode cX7_heaps 35 = .ok (.iaload, 1) := by decide +kernel
theorem dX7_heaps_36 : decode cX7_heaps 36 = .ok (.ifCond .le 15, 3) := by decide +kernel
theorem dX7_heaps_39 : decode cX7_heaps 39 = .ok (.iload_n 1, 1) := by decide +kernel
theorem dX7_heaps_40 : decode cX7_heaps 40 = .ok (.iload_n 3, 1) := by decide +kernel
theorem dX7_heaps_41 : decode cX7_heaps 41 = .ok (.invokestatic 178, 3) := by decide +kernel
theorem dX7_heaps_44 : decode cX7_heaps 44 = .ok (.ifCond .eq 7, 3) := by decide +kernel
theorem dX7_heaps_47 : decode cX7_heaps 47 = .ok (.iconst 1, 1) := by decide +kernel
theorem dX7_heaps_48 : decode cX7_heaps 48 = .ok (.goto 4, 3) := by decide +kernel
theorem dX7_heaps_51 : decode cX7_heaps 51 = .ok (.iconst 0, 1) := by decide +kernel
theorem dX7_heaps_52 : decode cX7_heaps 52 = .ok (.iadd, 1) := by decide +kernel
theorem dX7_heaps_53 : decode cX7_heaps 53 = .ok (.istore_n 2, 1) := by decide +kernel
theorem dX7_heaps_54 : decode cX7_heaps 54 = .ok (.iinc 3 1, 3) := by decide +kernel
theorem dX7_heaps_57 : decode cX7_heaps 57 = .ok (.goto (-35), 3) := by decide +kernel
theorem dX7_heaps_60 : decode cX7_heaps 60 = .ok (.iload_n 2, 1) := by decide +kernel
theorem dX7_heaps_61 : decode cX7_heaps 61 = .ok (.ireturn, 1) := by decide +kernel
theorem dX7_twin_0 : decode cX7_twin 0 = .ok (.aload_n 0, 1) := by decide +kernel
theorem dX7_twin_1 : decode cX7_twin 1 = .ok (.iconst 0, 1) := by decide +kernel
theorem dX7_twin_2 : decode cX7_twin 2 = .ok (.putfield 57, 3) := by decide +kernel
theorem dX7_twin_5 : decode cX7_twin 5 = .ok (.iload_n 1, 1) := by decide +kernel
theorem dX7_twin_6 : decode cX7_twin 6 = .ok (.invokestatic 90, 3) := by decide +kernel
theorem dX7_twin_9 : decode cX7_twin 9 = .ok (.ifCond .ne 5, 3) := by decide +kernel
theorem dX7_twin_12 : decode cX7_twin 12 = .ok (.iconst (-1), 1) := by decide +kernel
theorem dX7_twin_13 : decode cX7_twin 13 = .ok (.ireturn, 1) := by decide +kernel
theorem dX7_twin_14 : decode cX7_twin 14 = .ok (.aload_n 0, 1) := by decide +kernel
theorem dX7_twin_15 : decode cX7_twin 15 = .ok (.invokevirtual 76, 3) := by decide +kernel
theorem dX7_twin_18 : decode cX7_twin 18 = .ok (.iconst 0, 1) := by decide +kernel
theorem dX7_twin_19 : decode cX7_twin 19 = .ok (.istore_n 2, 1) := by decide +kernel
theorem dX7_twin_20 : decode cX7_twin 20 = .ok (.iload_n 2, 1) := by decide +kernel
theorem dX7_twin_21 : decode cX7_twin 21 = .ok (.bipush 10, 2) := by decide +kernel
theorem dX7_twin_23 : decode cX7_twin 23 = .ok (.if_icmp .ge 78, 3) := by decide +kernel
theorem dX7_twin_26 : decode cX7_twin 26 = .ok (.iload_n 2, 1) := by decide +kernel
theorem dX7_twin_27 : decode cX7_twin 27 = .ok (.iload_n 1, 1) := by decide +kernel
theorem dX7_twin_28 : decode cX7_twin 28 = .ok (.if_icmp .eq 7, 3) := by decide +kernel
theorem dX7_twin_31 : decode cX7_twin 31 = .ok (.iconst 1, 1) := by decide +kernel
theorem dX7_twin_32 : decode cX7_twin 32 = .ok (.goto 4, 3) := by decide +kernel
theorem dX7_twin_35 : decode cX7_twin 35 = .ok (.iconst 0, 1) := by decide +kernel
theorem dX7_twin_36 : decode cX7_twin 36 = .ok (.istore_n 3, 1) := by decide +kernel
theorem dX7_twin_37 : decode cX7_twin 37 = .ok (.iconst 0, 1) := by decide +kernel
theorem dX7_twin_38 : decode cX7_twin 38 = .ok (.istore 4, 2) := by decide +kernel
theorem dX7_twin_40 : decode cX7_twin 40 = .ok (.iload 4, 2) := by decide +kernel
theorem dX7_twin_42 : decode cX7_twin 42 = .ok (.sipush 1024, 3) := by decide +kernel
theorem dX7_twin_45 : decode cX7_twin 45 = .ok (.if_icmp .ge 44, 3) := by decide +kernel
theorem dX7_twin_48 : decode cX7_twin 48 = .ok (.iload_n 3, 1) := by decide +kernel
theorem dX7_twin_49 : decode cX7_twin 49 = .ok (.ifCond .eq 40, 3) := by decide +kernel
theorem dX7_twin_52 : decode cX7_twin 52 = .ok (.aload_n 0, 1) := by decide +kernel
theorem dX7_twin_53 : decode cX7_twin 53 = .ok (.getfield 38, 3) := by decide +kernel
theorem dX7_twin_56 : decode cX7_twin 56 = .ok (.iload 4, 2) := by decide +kernel
theorem dX7_twin_58 : decode cX7_twin 58 = .ok (.iaload, 1) := by decide +kernel
theorem dX7_twin_59 : decode cX7_twin 59 = .ok (.ifCond .eq 18, 3) := by decide +kernel
theorem dX7_twin_62 : decode cX7_twin 62 = .ok (.iload 4, 2) := by decide +kernel
theorem dX7_twin_64 : decode cX7_twin 64 = .ok (.iload_n 1, 1) := by decide +kernel
theorem dX7_twin_65 : decode cX7_twin 65 = .ok (.ishr, 1) := by decide +kernel
theorem dX7_twin_66 : decode cX7_twin 66 = .ok (.iconst 1, 1) := by decide +kernel
theorem dX7_twin_67 : decode cX7_twin 67 = .ok (.iand, 1) := by decide +kernel
theorem dX7_twin_68 : decode cX7_twin 68 = .ok (.iload 4, 2) := by decide +kernel
theorem dX7_twin_70 : decode cX7_twin 70 = .ok (.iload_n 2, 1) := by decide +kernel
theorem dX7_twin_71 : decode cX7_twin 71 = .ok (.ishr, 1) := by decide +kernel
theorem dX7_twin_72 : decode cX7_twin 72 = .ok (.iconst 1, 1) := by decide +kernel
theorem dX7_twin_73 : decode cX7_twin 73 = .ok (.iand, 1) := by decide +kernel
theorem dX7_twin_74 : decode cX7_twin 74 = .ok (.if_icmp .ne 7, 3) := by decide +kernel
theorem dX7_twin_77 : decode cX7_twin 77 = .ok (.iconst 1, 1) := by decide +kernel
theorem dX7_twin_78 : decode cX7_twin 78 = .ok (.goto 4, 3) := by decide +kernel
theorem dX7_twin_81 : decode cX7_twin 81 = .ok (.iconst 0, 1) := by decide +kernel
theorem dX7_twin_82 : decode cX7_twin 82 = .ok (.istore_n 3, 1) := by decide +kernel
theorem dX7_twin_83 : decode cX7_twin 83 = .ok (.iinc 4 1, 3) := by decide +kernel
theorem dX7_twin_86 : decode cX7_twin 86 = .ok (.goto (-46), 3) := by decide +kernel
theorem dX7_twin_89 : decode cX7_twin 89 = .ok (.iload_n 3, 1) := by decide +kernel
theorem dX7_twin_90 : decode cX7_twin 90 = .ok (.ifCond .eq 5, 3) := by decide +kernel
theorem dX7_twin_93 : decode cX7_twin 93 = .ok (.iload_n 2, 1) := by decide +kernel
theorem dX7_twin_94 : decode cX7_twin 94 = .ok (.ireturn, 1) := by decide +kernel
theorem dX7_twin_95 : decode cX7_twin 95 = .ok (.iinc 2 1, 3) := by decide +kernel
theorem dX7_twin_98 : decode cX7_twin 98 = .ok (.goto (-78), 3) := by decide +kernel
theorem dX7_twin_101 : decode cX7_twin 101 = .ok (.bipush (-9), 2) := by decide +kernel
theorem dX7_twin_103 : decode cX7_twin 103 = .ok (.ireturn, 1) := by decide +kernel
theorem dX7_moods_0 : decode cX7_moods 0 = .ok (.aload_n 0, 1) := by decide +kernel
theorem dX7_moods_1 : decode cX7_moods 1 = .ok (.iconst 0, 1) := by decide +kernel
theorem dX7_moods_2 : decode cX7_moods 2 = .ok (.putfield 57, 3) := by decide +kernel
theorem dX7_moods_5 : decode cX7_moods 5 = .ok (.iload_n 1, 1) := by decide +kernel
theorem dX7_moods_6 : decode cX7_moods 6 = .ok (.iconst 0, 1) := by decide +kernel
theorem dX7_moods_7 : decode cX7_moods 7 = .ok (.sipush 511, 3) := by decide +kernel
theorem dX7_moods_10 : decode cX7_moods 10 = .ok (.invokestatic 72, 3) := by decide +kernel
theorem dX7_moods_13 : decode cX7_moods 13 = .ok (.ifCond .ne 5, 3) := by decide +kernel
theorem dX7_moods_16 : decode cX7_moods 16 = .ok (.iconst (-1), 1) := by decide +kernel
theorem dX7_moods_17 : decode cX7_moods 17 = .ok (.ireturn, 1) := by decide +kernel
theorem dX7_moods_18 : decode cX7_moods 18 = .ok (.aload_n 0, 1) := by decide +kernel
theorem dX7_moods_19 : decode cX7_moods 19 = .ok (.getfield 16, 3) := by decide +kernel
theorem dX7_moods_22 : decode cX7_moods 22 = .ok (.istore_n 2, 1) := by decide +kernel
theorem dX7_moods_23 : decode cX7_moods 23 = .ok (.aload_n 0, 1) := by decide +kernel
theorem dX7_moods_24 : decode cX7_moods 24 = .ok (.iload_n 1, 1) := by decide +kernel
theorem dX7_moods_25 : decode cX7_moods 25 = .ok (.putfield 16, 3) := by decide +kernel
theorem dX7_moods_28 : decode cX7_moods 28 = .ok (.iload_n 2, 1) := by decide +kernel
theorem dX7_moods_29 : decode cX7_moods 29 = .ok (.ireturn, 1) := by decide +kernel
theorem dX7_isBy_0 : decode cX7_isBy 0 = .ok (.aload_n 0, 1) := by decide +kernel
theorem dX7_isBy_1 : decode cX7_isBy 1 = .ok (.getfield 51, 3) := by decide +kernel
theorem dX7_isBy_4 : decode cX7_isBy 4 = .ok (.iload_n 1, 1) := by decide +kernel
theorem dX7_isBy_5 : decode cX7_isBy 5 = .ok (.iaload, 1) := by decide +kernel
theorem dX7_isBy_6 : decode cX7_isBy 6 = .ok (.bipush (-9), 2) := by decide +kernel
theorem dX7_isBy_8 : decode cX7_isBy 8 = .ok (.if_icmp .eq 17, 3) := by decide +kernel
theorem dX7_isBy_11 : decode cX7_isBy 11 = .ok (.aload_n 0, 1) := by decide +kernel
theorem dX7_isBy_12 : decode cX7_isBy 12 = .ok (.getfield 51, 3) := by decide +kernel
theorem dX7_isBy_15 : decode cX7_isBy 15 = .ok (.iload_n 1, 1) := by decide +kernel
theorem dX7_isBy_16 : decode cX7_isBy 16 = .ok (.iaload, 1) := by decide +kernel
theorem dX7_isBy_17 : decode cX7_isBy 17 = .ok (.iload_n 2, 1) := by decide +kernel
theorem dX7_isBy_18 : decode cX7_isBy 18 = .ok (.if_icmp .ge 7, 3) := by decide +kernel
theorem dX7_isBy_21 : decode cX7_isBy 21 = .ok (.iconst 1, 1) := by decide +kernel
theorem dX7_isBy_22 : decode cX7_isBy 22 = .ok (.goto 4, 3) := by decide +kernel
theorem dX7_isBy_25 : decode cX7_isBy 25 = .ok (.iconst 0, 1) := by decide +kernel
theorem dX7_isBy_26 : decode cX7_isBy 26 = .ok (.ireturn, 1) := by decide +kernel
theorem dX7_isShown_0 : decode cX7_isShown 0 = .ok (.aload_n 0, 1) := by decide +kernel
theorem dX7_isShown_1 : decode cX7_isShown 1 = .ok (.iload_n 1, 1) := by decide +kernel
theorem dX7_isShown_2 : decode cX7_isShown 2 = .ok (.putfield 198, 3) := by decide +kernel
theorem dX7_isShown_5 : decode cX7_isShown 5 = .ok (.aload_n 0, 1) := by decide +kernel
theorem dX7_isShown_6 : decode cX7_isShown 6 = .ok (.bipush (-9), 2) := by decide +kernel
theorem dX7_isShown_8 : decode cX7_isShown 8 = .ok (.putfield 201, 3) := by decide +kernel
theorem dX7_isShown_11 : decode cX7_isShown 11 = .ok (.aload_n 0, 1) := by decide +kernel
theorem dX7_isShown_12 : decode cX7_isShown 12 = .ok (.bipush (-9), 2) := by decide +kernel
theorem dX7_isShown_14 : decode cX7_isShown 14 = .ok (.putfield 204, 3) := by decide +kernel
theorem dX7_isShown_17 : decode cX7_isShown 17 = .ok (.iload_n 1, 1) := by decide +kernel
theorem dX7_isShown_18 : decode cX7_isShown 18 = .ok (.iconst 4, 1) := by decide +kernel
theorem dX7_isShown_19 : decode cX7_isShown 19 = .ok (.if_icmp .ne 20, 3) := by decide +kernel
theorem dX7_isShown_22 : decode cX7_isShown 22 = .ok (.iload_n 2, 1) := by decide +kernel
theorem dX7_isShown_23 : decode cX7_isShown 23 = .ok (.iconst 2, 1) := by decide +kernel
theorem dX7_isShown_24 : decode cX7_isShown 24 = .ok (.if_icmp .ne 15, 3) := by decide +kernel
theorem dX7_isShown_27 : decode cX7_isShown 27 = .ok (.bipush 32, 2) := by decide +kernel
theorem dX7_isShown_29 : decode cX7_isShown 29 = .ok (.iconst 4, 1) := by decide +kernel
theorem dX7_isShown_30 : decode cX7_isShown 30 = .ok (.iload 4, 2) := by decide +kernel
theorem dX7_isShown_32 : decode cX7_isShown 32 = .ok (.imul, 1) := by decide +kernel
theorem dX7_isShown_33 : decode cX7_isShown 33 = .ok (.iadd, 1) := by decide +kernel
theorem dX7_isShown_34 : decode cX7_isShown 34 = .ok (.iload_n 3, 1) := by decide +kernel
theorem dX7_isShown_35 : decode cX7_isShown 35 = .ok (.iadd, 1) := by decide +kernel
theorem dX7_isShown_36 : decode cX7_isShown 36 = .ok (.goto 47, 3) := by decide +kernel
theorem dX7_isShown_39 : decode cX7_isShown 39 = .ok (.iload_n 1, 1) := by decide +kernel
theorem dX7_isShown_40 : decode cX7_isShown 40 = .ok (.iconst 5, 1) := by decide +kernel
theorem dX7_isShown_41 : decode cX7_isShown 41 = .ok (.if_icmp .ne 20, 3) := by decide +kernel
theorem dX7_isShown_44 : decode cX7_isShown 44 = .ok (.iload_n 2, 1) := by decide +kernel
theorem dX7_isShown_45 : decode cX7_isShown 45 = .ok (.iconst 1, 1) := by decide +kernel
theorem dX7_isShown_46 : decode cX7_isShown 46 = .ok (.if_icmp .ne 15, 3) := by decide +kernel
theorem dX7_isShown_49 : decode cX7_isShown 49 = .ok (.bipush 16, 2) := by decide +kernel
theorem dX7_isShown_51 : decode cX7_isShown 51 = .ok (.iconst 4, 1) := by decide +kernel
theorem dX7_isShown_52 : decode cX7_isShown 52 = .ok (.iload 4, 2) := by decide +kernel
theorem dX7_isShown_54 : decode cX7_isShown 54 = .ok (.imul, 1) := by decide +kernel
theorem dX7_isShown_55 : decode cX7_isShown 55 = .ok (.iadd, 1) := by decide +kernel
theorem dX7_isShown_56 : decode cX7_isShown 56 = .ok (.iload_n 3, 1) := by decide +kernel
theorem dX7_isShown_57 : decode cX7_isShown 57 = .ok (.iadd, 1) := by decide +kernel
theorem dX7_isShown_58 : decode cX7_isShown 58 = .ok (.goto 25, 3) := by decide +kernel
theorem dX7_isShown_61 : decode cX7_isShown 61 = .ok (.iload_n 1, 1) := by decide +kernel
theorem dX7_isShown_62 : decode cX7_isShown 62 = .ok (.bipush 8, 2) := by decide +kernel
theorem dX7_isShown_64 : decode cX7_isShown 64 = .ok (.if_icmp .ne 17, 3) := by decide +kernel
theorem dX7_isShown_67 : decode cX7_isShown 67 = .ok (.iload_n 2, 1) := by decide +kernel
theorem dX7_isShown_68 : decode cX7_isShown 68 = .ok (.iconst 1, 1) := by decide +kernel
theorem dX7_isShown_69 : decode cX7_isShown 69 = .ok (.if_icmp .ne 12, 3) := by decide +kernel
theorem dX7_isShown_72 : decode cX7_isShown 72 = .ok (.iconst 4, 1) := by decide +kernel
theorem dX7_isShown_73 : decode cX7_isShown 73 = .ok (.iload_n 3, 1) := by decide +kernel
theorem dX7_isShown_74 : decode cX7_isShown 74 = .ok (.imul, 1) := by decide +kernel
theorem dX7_isShown_75 : decode cX7_isShown 75 = .ok (.iload 4, 2) := by decide +kernel
theorem dX7_isShown_77 : decode cX7_isShown 77 = .ok (.iadd, 1) := by decide +kernel
theorem dX7_isShown_78 : decode cX7_isShown 78 = .ok (.goto 5, 3) := by decide +kernel
theorem dX7_isShown_81 : decode cX7_isShown 81 = .ok (.bipush (-9), 2) := by decide +kernel
theorem dX7_isShown_83 : decode cX7_isShown 83 = .ok (.istore 6, 2) := by decide +kernel
theorem dX7_isShown_85 : decode cX7_isShown 85 = .ok (.iload 6, 2) := by decide +kernel
theorem dX7_isShown_87 : decode cX7_isShown 87 = .ok (.bipush (-9), 2) := by decide +kernel
theorem dX7_isShown_89 : decode cX7_isShown 89 = .ok (.if_icmp .eq 18, 3) := by decide +kernel
theorem dX7_isShown_92 : decode cX7_isShown 92 = .ok (.aload_n 0, 1) := by decide +kernel
theorem dX7_isShown_93 : decode cX7_isShown 93 = .ok (.iload 6, 2) := by decide +kernel
theorem dX7_isShown_95 : decode cX7_isShown 95 = .ok (.putfield 201, 3) := by decide +kernel
theorem dX7_isShown_98 : decode cX7_isShown 98 = .ok (.aload_n 0, 1) := by decide +kernel
theorem dX7_isShown_99 : decode cX7_isShown 99 = .ok (.iload 6, 2) := by decide +kernel
theorem dX7_isShown_101 : decode cX7_isShown 101 = .ok (.iload 5, 2) := by decide +kernel
theorem dX7_isShown_103 : decode cX7_isShown 103 = .ok (.invokevirtual 207, 3) := by decide +kernel
theorem dX7_isShown_106 : decode cX7_isShown 106 = .ok (.ireturn, 1) := by decide +kernel
theorem dX7_isShown_107 : decode cX7_isShown 107 = .ok (.iload_n 1, 1) := by decide +kernel
theorem dX7_isShown_108 : decode cX7_isShown 108 = .ok (.ifCond .ne 7, 3) := by decide +kernel
theorem dX7_isShown_111 : decode cX7_isShown 111 = .ok (.iload_n 2, 1) := by decide +kernel
theorem dX7_isShown_112 : decode cX7_isShown 112 = .ok (.ifCond .eq 44, 3) := by decide +kernel
theorem dX7_isShown_115 : decode cX7_isShown 115 = .ok (.iload_n 1, 1) := by decide +kernel
theorem dX7_isShown_116 : decode cX7_isShown 116 = .ok (.iconst 1, 1) := by decide +kernel
theorem dX7_isShown_117 : decode cX7_isShown 117 = .ok (.if_icmp .ne 8, 3) := by decide +kernel
theorem dX7_isShown_120 : decode cX7_isShown 120 = .ok (.iload_n 2, 1) := by decide +kernel
theorem dX7_isShown_121 : decode cX7_isShown 121 = .ok (.iconst 2, 1) := by decide +kernel
theorem dX7_isShown_122 : decode cX7_isShown 122 = .ok (.if_icmp .eq 34, 3) := by decide +kernel
theorem dX7_isShown_125 : decode cX7_isShown 125 = .ok (.iload_n 1, 1) := by decide +kernel
theorem dX7_isShown_126 : decode cX7_isShown 126 = .ok (.iconst 2, 1) := by decide +kernel
theorem dX7_isShown_127 : decode cX7_isShown 127 = .ok (.if_icmp .ne 8, 3) := by decide +kernel
theorem dX7_isShown_130 : decode cX7_isShown 130 = .ok (.iload_n 2, 1) := by decide +kernel
theorem dX7_isShown_131 : decode cX7_isShown 131 = .ok (.iconst 1, 1) := by decide +kernel
theorem dX7_isShown_132 : decode cX7_isShown 132 = .ok (.if_icmp .eq 24, 3) := by decide +kernel
theorem dX7_isShown_135 : decode cX7_isShown 135 = .ok (.iload_n 1, 1) := by decide +kernel
theorem dX7_isShown_136 : decode cX7_isShown 136 = .ok (.iconst 3, 1) := by decide +kernel
theorem dX7_isShown_137 : decode cX7_isShown 137 = .ok (.if_icmp .ne 8, 3) := by decide +kernel
end
section
theorem dX7_isShown_140 : decode cX7_isShown 140 = .ok (.iload_n 2, 1) := by decide +kernel
theorem dX7_isShown_141 : decode cX7_isShown 141 = .ok (.iconst 3, 1) := by decide +kernel
theorem dX7_isShown_142 : decode cX7_isShown 142 = .ok (.if_icmp .eq 14, 3) := by decide +kernel
theorem dX7_isShown_145 : decode cX7_isShown 145 = .ok (.iload_n 1, 1) := by decide +kernel
theorem dX7_isShown_146 : decode cX7_isShown 146 = .ok (.bipush 6, 2) := by decide +kernel
theorem dX7_isShown_148 : decode cX7_isShown 148 = .ok (.if_icmp .ne 12, 3) := by decide +kernel
theorem dX7_isShown_151 : decode cX7_isShown 151 = .ok (.iload_n 2, 1) := by decide +kernel
theorem dX7_isShown_152 : decode cX7_isShown 152 = .ok (.iconst 3, 1) := by decide +kernel
theorem dX7_isShown_153 : decode cX7_isShown 153 = .ok (.if_icmp .ne 7, 3) := by decide +kernel
theorem dX7_isShown_156 : decode cX7_isShown 156 = .ok (.iconst 1, 1) := by decide +kernel
theorem dX7_isShown_157 : decode cX7_isShown 157 = .ok (.goto 4, 3) := by decide +kernel
theorem dX7_isShown_160 : decode cX7_isShown 160 = .ok (.iconst 0, 1) := by decide +kernel
theorem dX7_isShown_161 : decode cX7_isShown 161 = .ok (.istore 7, 2) := by decide +kernel
theorem dX7_isShown_163 : decode cX7_isShown 163 = .ok (.iconst 0, 1) := by decide +kernel
theorem dX7_isShown_164 : decode cX7_isShown 164 = .ok (.istore 8, 2) := by decide +kernel
theorem dX7_isShown_166 : decode cX7_isShown 166 = .ok (.iload 8, 2) := by decide +kernel
theorem dX7_isShown_168 : decode cX7_isShown 168 = .ok (.aload_n 0, 1) := by decide +kernel
theorem dX7_isShown_169 : decode cX7_isShown 169 = .ok (.getfield 7, 3) := by decide +kernel
theorem dX7_isShown_172 : decode cX7_isShown 172 = .ok (.if_icmp .ge 125, 3) := by decide +kernel
theorem dX7_isShown_175 : decode cX7_isShown 175 = .ok (.iload 7, 2) := by decide +kernel
theorem dX7_isShown_177 : decode cX7_isShown 177 = .ok (.ifCond .eq 120, 3) := by decide +kernel
theorem dX7_isShown_180 : decode cX7_isShown 180 = .ok (.bipush 16, 2) := by decide +kernel
theorem dX7_isShown_182 : decode cX7_isShown 182 = .ok (.iload_n 1, 1) := by decide +kernel
theorem dX7_isShown_183 : decode cX7_isShown 183 = .ok (.iconst 2, 1) := by decide +kernel
theorem dX7_isShown_184 : decode cX7_isShown 184 = .ok (.if_icmp .ge 7, 3) := by decide +kernel
theorem dX7_isShown_187 : decode cX7_isShown 187 = .ok (.iconst 0, 1) := by decide +kernel
theorem dX7_isShown_188 : decode cX7_isShown 188 = .ok (.goto 13, 3) := by decide +kernel
theorem dX7_isShown_191 : decode cX7_isShown 191 = .ok (.iload_n 1, 1) := by decide +kernel
theorem dX7_isShown_192 : decode cX7_isShown 192 = .ok (.iconst 4, 1) := by decide +kernel
theorem dX7_isShown_193 : decode cX7_isShown 193 = .ok (.if_icmp .ge 7, 3) := by decide +kernel
theorem dX7_isShown_196 : decode cX7_isShown 196 = .ok (.iconst 1, 1) := by decide +kernel
theorem dX7_isShown_197 : decode cX7_isShown 197 = .ok (.goto 4, 3) := by decide +kernel
theorem dX7_isShown_200 : decode cX7_isShown 200 = .ok (.iconst 3, 1) := by decide +kernel
theorem dX7_isShown_201 : decode cX7_isShown 201 = .ok (.imul, 1) := by decide +kernel
theorem dX7_isShown_202 : decode cX7_isShown 202 = .ok (.iconst 4, 1) := by decide +kernel
theorem dX7_isShown_203 : decode cX7_isShown 203 = .ok (.iload_n 3, 1) := by decide +kernel
theorem dX7_isShown_204 : decode cX7_isShown 204 = .ok (.imul, 1) := by decide +kernel
theorem dX7_isShown_205 : decode cX7_isShown 205 = .ok (.iadd, 1) := by decide +kernel
theorem dX7_isShown_206 : decode cX7_isShown 206 = .ok (.iload 8, 2) := by decide +kernel
theorem dX7_isShown_208 : decode cX7_isShown 208 = .ok (.iadd, 1) := by decide +kernel
theorem dX7_isShown_209 : decode cX7_isShown 209 = .ok (.istore 9, 2) := by decide +kernel
theorem dX7_isShown_211 : decode cX7_isShown 211 = .ok (.iload_n 1, 1) := by decide +kernel
theorem dX7_isShown_212 : decode cX7_isShown 212 = .ok (.bipush 6, 2) := by decide +kernel
theorem dX7_isShown_214 : decode cX7_isShown 214 = .ok (.if_icmp .ne 13, 3) := by decide +kernel
theorem dX7_isShown_217 : decode cX7_isShown 217 = .ok (.iconst 4, 1) := by decide +kernel
theorem dX7_isShown_218 : decode cX7_isShown 218 = .ok (.iload 4, 2) := by decide +kernel
theorem dX7_isShown_220 : decode cX7_isShown 220 = .ok (.imul, 1) := by decide +kernel
theorem dX7_isShown_221 : decode cX7_isShown 221 = .ok (.iload 8, 2) := by decide +kernel
theorem dX7_isShown_223 : decode cX7_isShown 223 = .ok (.iadd, 1) := by decide +kernel
theorem dX7_isShown_224 : decode cX7_isShown 224 = .ok (.goto 29, 3) := by decide +kernel
theorem dX7_isShown_227 : decode cX7_isShown 227 = .ok (.bipush 16, 2) := by decide +kernel
theorem dX7_isShown_229 : decode cX7_isShown 229 = .ok (.iload_n 1, 1) := by decide +kernel
theorem dX7_isShown_230 : decode cX7_isShown 230 = .ok (.iconst 1, 1) := by decide +kernel
theorem dX7_isShown_231 : decode cX7_isShown 231 = .ok (.if_icmp .eq 8, 3) := by decide +kernel
theorem dX7_isShown_234 : decode cX7_isShown 234 = .ok (.iload_n 1, 1) := by decide +kernel
theorem dX7_isShown_235 : decode cX7_isShown 235 = .ok (.iconst 3, 1) := by decide +kernel
theorem dX7_isShown_236 : decode cX7_isShown 236 = .ok (.if_icmp .ne 7, 3) := by decide +kernel
theorem dX7_isShown_239 : decode cX7_isShown 239 = .ok (.iconst 2, 1) := by decide +kernel
theorem dX7_isShown_240 : decode cX7_isShown 240 = .ok (.goto 4, 3) := by decide +kernel
theorem dX7_isShown_243 : decode cX7_isShown 243 = .ok (.iconst 0, 1) := by decide +kernel
theorem dX7_isShown_244 : decode cX7_isShown 244 = .ok (.imul, 1) := by decide +kernel
theorem dX7_isShown_245 : decode cX7_isShown 245 = .ok (.iconst 4, 1) := by decide +kernel
theorem dX7_isShown_246 : decode cX7_isShown 246 = .ok (.iload 8, 2) := by decide +kernel
theorem dX7_isShown_248 : decode cX7_isShown 248 = .ok (.imul, 1) := by decide +kernel
theorem dX7_isShown_249 : decode cX7_isShown 249 = .ok (.iadd, 1) := by decide +kernel
theorem dX7_isShown_250 : decode cX7_isShown 250 = .ok (.iload 4, 2) := by decide +kernel
theorem dX7_isShown_252 : decode cX7_isShown 252 = .ok (.iadd, 1) := by decide +kernel
theorem dX7_isShown_253 : decode cX7_isShown 253 = .ok (.istore 10, 2) := by decide +kernel
theorem dX7_isShown_255 : decode cX7_isShown 255 = .ok (.aload_n 0, 1) := by decide +kernel
theorem dX7_isShown_256 : decode cX7_isShown 256 = .ok (.iload 9, 2) := by decide +kernel
theorem dX7_isShown_258 : decode cX7_isShown 258 = .ok (.iload 5, 2) := by decide +kernel
theorem dX7_isShown_260 : decode cX7_isShown 260 = .ok (.invokevirtual 207, 3) := by decide +kernel
theorem dX7_isShown_263 : decode cX7_isShown 263 = .ok (.ifCond .eq 28, 3) := by decide +kernel
theorem dX7_isShown_266 : decode cX7_isShown 266 = .ok (.aload_n 0, 1) := by decide +kernel
theorem dX7_isShown_267 : decode cX7_isShown 267 = .ok (.iload 10, 2) := by decide +kernel
theorem dX7_isShown_269 : decode cX7_isShown 269 = .ok (.iload 5, 2) := by decide +kernel
theorem dX7_isShown_271 : decode cX7_isShown 271 = .ok (.invokevirtual 207, 3) := by decide +kernel
theorem dX7_isShown_274 : decode cX7_isShown 274 = .ok (.ifCond .eq 17, 3) := by decide +kernel
theorem dX7_isShown_277 : decode cX7_isShown 277 = .ok (.aload_n 0, 1) := by decide +kernel
theorem dX7_isShown_278 : decode cX7_isShown 278 = .ok (.iload 9, 2) := by decide +kernel
theorem dX7_isShown_280 : decode cX7_isShown 280 = .ok (.putfield 201, 3) := by decide +kernel
theorem dX7_isShown_283 : decode cX7_isShown 283 = .ok (.aload_n 0, 1) := by decide +kernel
theorem dX7_isShown_284 : decode cX7_isShown 284 = .ok (.iload 10, 2) := by decide +kernel
theorem dX7_isShown_286 : decode cX7_isShown 286 = .ok (.putfield 204, 3) := by decide +kernel
theorem dX7_isShown_289 : decode cX7_isShown 289 = .ok (.iconst 1, 1) := by decide +kernel
theorem dX7_isShown_290 : decode cX7_isShown 290 = .ok (.ireturn, 1) := by decide +kernel
theorem dX7_isShown_291 : decode cX7_isShown 291 = .ok (.iinc 8 1, 3) := by decide +kernel
theorem dX7_isShown_294 : decode cX7_isShown 294 = .ok (.goto (-128), 3) := by decide +kernel
theorem dX7_isShown_297 : decode cX7_isShown 297 = .ok (.iconst 0, 1) := by decide +kernel
theorem dX7_isShown_298 : decode cX7_isShown 298 = .ok (.ireturn, 1) := by decide +kernel
theorem dX7_isTold_0 : decode cX7_isTold 0 = .ok (.iconst 0, 1) := by decide +kernel
theorem dX7_isTold_1 : decode cX7_isTold 1 = .ok (.istore_n 3, 1) := by decide +kernel
theorem dX7_isTold_2 : decode cX7_isTold 2 = .ok (.iconst 0, 1) := by decide +kernel
theorem dX7_isTold_3 : decode cX7_isTold 3 = .ok (.istore 4, 2) := by decide +kernel
theorem dX7_isTold_5 : decode cX7_isTold 5 = .ok (.iload 4, 2) := by decide +kernel
theorem dX7_isTold_7 : decode cX7_isTold 7 = .ok (.bipush 10, 2) := by decide +kernel
theorem dX7_isTold_9 : decode cX7_isTold 9 = .ok (.if_icmp .ge 43, 3) := by decide +kernel
theorem dX7_isTold_12 : decode cX7_isTold 12 = .ok (.iload_n 3, 1) := by decide +kernel
theorem dX7_isTold_13 : decode cX7_isTold 13 = .ok (.iload_n 1, 1) := by decide +kernel
theorem dX7_isTold_14 : decode cX7_isTold 14 = .ok (.iload 4, 2) := by decide +kernel
theorem dX7_isTold_16 : decode cX7_isTold 16 = .ok (.ishr, 1) := by decide +kernel
theorem dX7_isTold_17 : decode cX7_isTold 17 = .ok (.iconst 1, 1) := by decide +kernel
theorem dX7_isTold_18 : decode cX7_isTold 18 = .ok (.iand, 1) := by decide +kernel
theorem dX7_isTold_19 : decode cX7_isTold 19 = .ok (.iconst 1, 1) := by decide +kernel
theorem dX7_isTold_20 : decode cX7_isTold 20 = .ok (.if_icmp .ne 23, 3) := by decide +kernel
theorem dX7_isTold_23 : decode cX7_isTold 23 = .ok (.aload_n 0, 1) := by decide +kernel
theorem dX7_isTold_24 : decode cX7_isTold 24 = .ok (.getfield 26, 3) := by decide +kernel
theorem dX7_isTold_27 : decode cX7_isTold 27 = .ok (.bipush 6, 2) := by decide +kernel
theorem dX7_isTold_29 : decode cX7_isTold 29 = .ok (.iload 4, 2) := by decide +kernel
theorem dX7_isTold_31 : decode cX7_isTold 31 = .ok (.imul, 1) := by decide +kernel
theorem dX7_isTold_32 : decode cX7_isTold 32 = .ok (.iconst 5, 1) := by decide +kernel
theorem dX7_isTold_33 : decode cX7_isTold 33 = .ok (.iadd, 1) := by decide +kernel
theorem dX7_isTold_34 : decode cX7_isTold 34 = .ok (.iaload, 1) := by decide +kernel
theorem dX7_isTold_35 : decode cX7_isTold 35 = .ok (.iload_n 2, 1) := by decide +kernel
theorem dX7_isTold_36 : decode cX7_isTold 36 = .ok (.if_icmp .ne 7, 3) := by decide +kernel
theorem dX7_isTold_39 : decode cX7_isTold 39 = .ok (.iconst 1, 1) := by decide +kernel
theorem dX7_isTold_40 : decode cX7_isTold 40 = .ok (.goto 4, 3) := by decide +kernel
theorem dX7_isTold_43 : decode cX7_isTold 43 = .ok (.iconst 0, 1) := by decide +kernel
theorem dX7_isTold_44 : decode cX7_isTold 44 = .ok (.ior, 1) := by decide +kernel
theorem dX7_isTold_45 : decode cX7_isTold 45 = .ok (.istore_n 3, 1) := by decide +kernel
theorem dX7_isTold_46 : decode cX7_isTold 46 = .ok (.iinc 4 1, 3) := by decide +kernel
theorem dX7_isTold_49 : decode cX7_isTold 49 = .ok (.goto (-44), 3) := by decide +kernel
theorem dX7_isTold_52 : decode cX7_isTold 52 = .ok (.iload_n 3, 1) := by decide +kernel
theorem dX7_isTold_53 : decode cX7_isTold 53 = .ok (.ireturn, 1) := by decide +kernel
theorem dX7_shows_0 : decode cX7_shows 0 = .ok (.iconst 0, 1) := by decide +kernel
theorem dX7_shows_1 : decode cX7_shows 1 = .ok (.istore_n 2, 1) := by decide +kernel
theorem dX7_shows_2 : decode cX7_shows 2 = .ok (.iload_n 2, 1) := by decide +kernel
theorem dX7_shows_3 : decode cX7_shows 3 = .ok (.bipush 64, 2) := by decide +kernel
theorem dX7_shows_5 : decode cX7_shows 5 = .ok (.if_icmp .ge 78, 3) := by decide +kernel
theorem dX7_shows_8 : decode cX7_shows 8 = .ok (.iload_n 2, 1) := by decide +kernel
theorem dX7_shows_9 : decode cX7_shows 9 = .ok (.bipush 16, 2) := by decide +kernel
theorem dX7_shows_11 : decode cX7_shows 11 = .ok (.if_icmp .ge 39, 3) := by decide +kernel
theorem dX7_shows_14 : decode cX7_shows 14 = .ok (.iload_n 2, 1) := by decide +kernel
theorem dX7_shows_15 : decode cX7_shows 15 = .ok (.iconst 4, 1) := by decide +kernel
theorem dX7_shows_16 : decode cX7_shows 16 = .ok (.idiv, 1) := by decide +kernel
theorem dX7_shows_17 : decode cX7_shows 17 = .ok (.iload_n 2, 1) := by decide +kernel
theorem dX7_shows_18 : decode cX7_shows 18 = .ok (.iconst 4, 1) := by decide +kernel
theorem dX7_shows_19 : decode cX7_shows 19 = .ok (.irem, 1) := by decide +kernel
theorem dX7_shows_20 : decode cX7_shows 20 = .ok (.if_icmp .ne 30, 3) := by decide +kernel
theorem dX7_shows_23 : decode cX7_shows 23 = .ok (.iload_n 2, 1) := by decide +kernel
theorem dX7_shows_24 : decode cX7_shows 24 = .ok (.iconst 4, 1) := by decide +kernel
theorem dX7_shows_25 : decode cX7_shows 25 = .ok (.idiv, 1) := by decide +kernel
theorem dX7_shows_26 : decode cX7_shows 26 = .ok (.aload_n 0, 1) := by decide +kernel
theorem dX7_shows_27 : decode cX7_shows 27 = .ok (.getfield 7, 3) := by decide +kernel
theorem dX7_shows_30 : decode cX7_shows 30 = .ok (.if_icmp .ge 20, 3) := by decide +kernel
theorem dX7_shows_33 : decode cX7_shows 33 = .ok (.aload_n 0, 1) := by decide +kernel
theorem dX7_shows_34 : decode cX7_shows 34 = .ok (.getfield 16, 3) := by decide +kernel
theorem dX7_shows_37 : decode cX7_shows 37 = .ok (.bipush 7, 2) := by decide +kernel
theorem dX7_shows_39 : decode cX7_shows 39 = .ok (.ishr, 1) := by decide +kernel
theorem dX7_shows_40 : decode cX7_shows 40 = .ok (.iconst 1, 1) := by decide +kernel
theorem dX7_shows_41 : decode cX7_shows 41 = .ok (.iand, 1) := by decide +kernel
theorem dX7_shows_42 : decode cX7_shows 42 = .ok (.iconst 1, 1) := by decide +kernel
theorem dX7_shows_43 : decode cX7_shows 43 = .ok (.if_icmp .ne 7, 3) := by decide +kernel
theorem dX7_shows_46 : decode cX7_shows 46 = .ok (.iconst 1, 1) := by decide +kernel
theorem dX7_shows_47 : decode cX7_shows 47 = .ok (.goto 4, 3) := by decide +kernel
theorem dX7_shows_50 : decode cX7_shows 50 = .ok (.iconst 0, 1) := by decide +kernel
theorem dX7_shows_51 : decode cX7_shows 51 = .ok (.istore_n 3, 1) := by decide +kernel
theorem dX7_shows_52 : decode cX7_shows 52 = .ok (.aload_n 0, 1) := by decide +kernel
theorem dX7_shows_53 : decode cX7_shows 53 = .ok (.getfield 51, 3) := by decide +kernel
theorem dX7_shows_56 : decode cX7_shows 56 = .ok (.iload_n 2, 1) := by decide +kernel
theorem dX7_shows_57 : decode cX7_shows 57 = .ok (.iload_n 3, 1) := by decide +kernel
theorem dX7_shows_58 : decode cX7_shows 58 = .ok (.ifCond .ne 12, 3) := by decide +kernel
theorem dX7_shows_61 : decode cX7_shows 61 = .ok (.aload_n 0, 1) := by decide +kernel
theorem dX7_shows_62 : decode cX7_shows 62 = .ok (.iload_n 1, 1) := by decide +kernel
theorem dX7_shows_63 : decode cX7_shows 63 = .ok (.iload_n 2, 1) := by decide +kernel
theorem dX7_shows_64 : decode cX7_shows 64 = .ok (.invokevirtual 210, 3) := by decide +kernel
theorem dX7_shows_67 : decode cX7_shows 67 = .ok (.ifCond .eq 7, 3) := by decide +kernel
theorem dX7_shows_70 : decode cX7_shows 70 = .ok (.iconst 0, 1) := by decide +kernel
theorem dX7_shows_71 : decode cX7_shows 71 = .ok (.goto 5, 3) := by decide +kernel
theorem dX7_shows_74 : decode cX7_shows 74 = .ok (.bipush (-9), 2) := by decide +kernel
theorem dX7_shows_76 : decode cX7_shows 76 = .ok (.iastore, 1) := by decide +kernel
theorem dX7_shows_77 : decode cX7_shows 77 = .ok (.iinc 2 1, 3) := by decide +kernel
theorem dX7_shows_80 : decode cX7_shows 80 = .ok (.goto (-78), 3) := by decide +kernel
theorem dX7_shows_83 : decode cX7_shows 83 = .ok (.aload_n 0, 1) := by decide +kernel
theorem dX7_shows_84 : decode cX7_shows 84 = .ok (.iconst 0, 1) := by decide +kernel
theorem dX7_shows_85 : decode cX7_shows 85 = .ok (.putfield 213, 3) := by decide +kernel
theorem dX7_shows_88 : decode cX7_shows 88 = .ok (.iconst 1, 1) := by decide +kernel
theorem dX7_shows_89 : decode cX7_shows 89 = .ok (.istore_n 2, 1) := by decide +kernel
theorem dX7_shows_90 : decode cX7_shows 90 = .ok (.iload_n 2, 1) := by decide +kernel
theorem dX7_shows_91 : decode cX7_shows 91 = .ok (.ifCond .eq 175, 3) := by decide +kernel
theorem dX7_shows_94 : decode cX7_shows 94 = .ok (.iconst 0, 1) := by decide +kernel
theorem dX7_shows_95 : decode cX7_shows 95 = .ok (.istore_n 2, 1) := by decide +kernel
theorem dX7_shows_96 : decode cX7_shows 96 = .ok (.iconst 0, 1) := by decide +kernel
theorem dX7_shows_97 : decode cX7_shows 97 = .ok (.istore_n 3, 1) := by decide +kernel
theorem dX7_shows_98 : decode cX7_shows 98 = .ok (.iload_n 3, 1) := by decide +kernel
theorem dX7_shows_99 : decode cX7_shows 99 = .ok (.bipush 64, 2) := by decide +kernel
theorem dX7_shows_101 : decode cX7_shows 101 = .ok (.if_icmp .ge 144, 3) := by decide +kernel
theorem dX7_shows_104 : decode cX7_shows 104 = .ok (.iload_n 3, 1) := by decide +kernel
theorem dX7_shows_105 : decode cX7_shows 105 = .ok (.iconst 4, 1) := by decide +kernel
theorem dX7_shows_106 : decode cX7_shows 106 = .ok (.idiv, 1) := by decide +kernel
theorem dX7_shows_107 : decode cX7_shows 107 = .ok (.iconst 4, 1) := by decide +kernel
theorem dX7_shows_108 : decode cX7_shows 108 = .ok (.irem, 1) := by decide +kernel
theorem dX7_shows_109 : decode cX7_shows 109 = .ok (.aload_n 0, 1) := by decide +kernel
theorem dX7_shows_110 : decode cX7_shows 110 = .ok (.getfield 7, 3) := by decide +kernel
theorem dX7_shows_113 : decode cX7_shows 113 = .ok (.if_icmp .ge 28, 3) := by decide +kernel
theorem dX7_shows_116 : decode cX7_shows 116 = .ok (.iload_n 3, 1) := by decide +kernel
theorem dX7_shows_117 : decode cX7_shows 117 = .ok (.iconst 4, 1) := by decide +kernel
theorem dX7_shows_118 : decode cX7_shows 118 = .ok (.irem, 1) := by decide +kernel
theorem dX7_shows_119 : decode cX7_shows 119 = .ok (.aload_n 0, 1) := by decide +kernel
theorem dX7_shows_120 : decode cX7_shows 120 = .ok (.getfield 7, 3) := by decide +kernel
theorem dX7_shows_123 : decode cX7_shows 123 = .ok (.if_icmp .ge 18, 3) := by decide +kernel
theorem dX7_shows_126 : decode cX7_shows 126 = .ok (.aload_n 0, 1) := by decide +kernel
theorem dX7_shows_127 : decode cX7_shows 127 = .ok (.getfield 51, 3) := by decide +kernel
theorem dX7_shows_130 : decode cX7_shows 130 = .ok (.iload_n 3, 1) := by decide +kernel
theorem dX7_shows_131 : decode cX7_shows 131 = .ok (.iaload, 1) := by decide +kernel
theorem dX7_shows_132 : decode cX7_shows 132 = .ok (.bipush (-9), 2) := by decide +kernel
theorem dX7_shows_134 : decode cX7_shows 134 = .ok (.if_icmp .ne 7, 3) := by decide +kernel
theorem dX7_shows_137 : decode cX7_shows 137 = .ok (.iconst 1, 1) := by decide +kernel
theorem dX7_shows_138 : decode cX7_shows 138 = .ok (.goto 4, 3) := by decide +kernel
theorem dX7_shows_141 : decode cX7_shows 141 = .ok (.iconst 0, 1) := by decide +kernel
theorem dX7_shows_142 : decode cX7_shows 142 = .ok (.istore 4, 2) := by decide +kernel
theorem dX7_shows_144 : decode cX7_shows 144 = .ok (.iconst 0, 1) := by decide +kernel
theorem dX7_shows_145 : decode cX7_shows 145 = .ok (.istore 5, 2) := by decide +kernel
theorem dX7_shows_147 : decode cX7_shows 147 = .ok (.iconst 0, 1) := by decide +kernel
theorem dX7_shows_148 : decode cX7_shows 148 = .ok (.istore 6, 2) := by decide +kernel
theorem dX7_shows_150 : decode cX7_shows 150 = .ok (.iload 6, 2) := by decide +kernel
theorem dX7_shows_152 : decode cX7_shows 152 = .ok (.bipush 9, 2) := by decide +kernel
theorem dX7_shows_154 : decode cX7_shows 154 = .ok (.if_icmp .ge 66, 3) := by decide +kernel
theorem dX7_shows_157 : decode cX7_shows 157 = .ok (.iload 4, 2) := by decide +kernel
theorem dX7_shows_159 : decode cX7_shows 159 = .ok (.ifCond .eq 61, 3) := by decide +kernel
theorem dX7_shows_162 : decode cX7_shows 162 = .ok (.iload 5, 2) := by decide +kernel
theorem dX7_shows_164 : decode cX7_shows 164 = .ok (.ifCond .ne 56, 3) := by decide +kernel
theorem dX7_shows_167 : decode cX7_shows 167 = .ok (.aload_n 0, 1) := by decide +kernel
theorem dX7_shows_168 : decode cX7_shows 168 = .ok (.getfield 16, 3) := by decide +kernel
theorem dX7_shows_171 : decode cX7_shows 171 = .ok (.iload 6, 2) := by decide +kernel
theorem dX7_shows_173 : decode cX7_shows 173 = .ok (.ishr, 1) := by decide +kernel
theorem dX7_shows_174 : decode cX7_shows 174 = .ok (.iconst 1, 1) := by decide +kernel
theorem dX7_shows_175 : decode cX7_shows 175 = .ok (.iand, 1) := by decide +kernel
theorem dX7_shows_176 : decode cX7_shows 176 = .ok (.iconst 1, 1) := by decide +kernel
theorem dX7_shows_177 : decode cX7_shows 177 = .ok (.if_icmp .ne 34, 3) := by decide +kernel
theorem dX7_shows_180 : decode cX7_shows 180 = .ok (.aload_n 0, 1) := by decide +kernel
theorem dX7_shows_181 : decode cX7_shows 181 = .ok (.iload 6, 2) := by decide +kernel
theorem dX7_shows_183 : decode cX7_shows 183 = .ok (.iload_n 3, 1) := by decide +kernel
theorem dX7_shows_184 : decode cX7_shows 184 = .ok (.bipush 16, 2) := by decide +kernel
theorem dX7_shows_186 : decode cX7_shows 186 = .ok (.idiv, 1) := by decide +kernel
theorem dX7_shows_187 : decode cX7_shows 187 = .ok (.iload_n 3, 1) := by decide +kernel
theorem dX7_shows_188 : decode cX7_shows 188 = .ok (.iconst 4, 1) := by decide +kernel
theorem dX7_shows_189 : decode cX7_shows 189 = .ok (.idiv, 1) := by decide +kernel
theorem dX7_shows_190 : decode cX7_shows 190 = .ok (.iconst 4, 1) := by decide +kernel
theorem dX7_shows_191 : decode cX7_shows 191 = .ok (.irem, 1) := by decide +kernel
theorem dX7_shows_192 : decode cX7_shows 192 = .ok (.iload_n 3, 1) := by decide +kernel
theorem dX7_shows_193 : decode cX7_shows 193 = .ok (.iconst 4, 1) := by decide +kernel
theorem dX7_shows_194 : decode cX7_shows 194 = .ok (.irem, 1) := by decide +kernel
theorem dX7_shows_195 : decode cX7_shows 195 = .ok (.aload_n 0, 1) := by decide +kernel
theorem dX7_shows_196 : decode cX7_shows 196 = .ok (.getfield 213, 3) := by decide +kernel
theorem dX7_shows_199 : decode cX7_shows 199 = .ok (.iconst 1, 1) := by decide +kernel
theorem dX7_shows_200 : decode cX7_shows 200 = .ok (.iadd, 1) := by decide +kernel
theorem dX7_shows_201 : decode cX7_shows 201 = .ok (.invokevirtual 216, 3) := by decide +kernel
theorem dX7_shows_204 : decode cX7_shows 204 = .ok (.ifCond .eq 7, 3) := by decide +kernel
theorem dX7_shows_207 : decode cX7_shows 207 = .ok (.iconst 1, 1) := by decide +kernel
theorem dX7_shows_208 : decode cX7_shows 208 = .ok (.goto 4, 3) := by decide +kernel
theorem dX7_shows_211 : decode cX7_shows 211 = .ok (.iconst 0, 1) := by decide +kernel
theorem dX7_shows_212 : decode cX7_shows 212 = .ok (.istore 5, 2) := by decide +kernel
theorem dX7_shows_214 : decode cX7_shows 214 = .ok (.iinc 6 1, 3) := by decide +kernel
theorem dX7_shows_217 : decode cX7_shows 217 = .ok (.goto (-67), 3) := by decide +kernel
theorem dX7_shows_220 : decode cX7_shows 220 = .ok (.iload 5, 2) := by decide +kernel
theorem dX7_shows_222 : decode cX7_shows 222 = .ok (.ifCond .eq 17, 3) := by decide +kernel
theorem dX7_shows_225 : decode cX7_shows 225 = .ok (.aload_n 0, 1) := by decide +kernel
theorem dX7_shows_226 : decode cX7_shows 226 = .ok (.getfield 51, 3) := by decide +kernel
theorem dX7_shows_229 : decode cX7_shows 229 = .ok (.iload_n 3, 1) := by decide +kernel
theorem dX7_shows_230 : decode cX7_shows 230 = .ok (.aload_n 0, 1) := by decide +kernel
theorem dX7_shows_231 : decode cX7_shows 231 = .ok (.getfield 213, 3) := by decide +kernel
theorem dX7_shows_234 : decode cX7_shows 234 = .ok (.iconst 1, 1) := by decide +kernel
theorem dX7_shows_235 : decode cX7_shows 235 = .ok (.iadd, 1) := by decide +kernel
theorem dX7_shows_236 : decode cX7_shows 236 = .ok (.iastore, 1) := by decide +kernel
theorem dX7_shows_237 : decode cX7_shows 237 = .ok (.iconst 1, 1) := by decide +kernel
theorem dX7_shows_238 : decode cX7_shows 238 = .ok (.istore_n 2, 1) := by decide +kernel
theorem dX7_shows_239 : decode cX7_shows 239 = .ok (.iinc 3 1, 3) := by decide +kernel
theorem dX7_shows_242 : decode cX7_shows 242 = .ok (.goto (-144), 3) := by decide +kernel
theorem dX7_shows_245 : decode cX7_shows 245 = .ok (.aload_n 0, 1) := by decide +kernel
theorem dX7_shows_246 : decode cX7_shows 246 = .ok (.dup, 1) := by decide +kernel
theorem dX7_shows_247 : decode cX7_shows 247 = .ok (.getfield 213, 3) := by decide +kernel
theorem dX7_shows_250 : decode cX7_shows 250 = .ok (.iload_n 2, 1) := by decide +kernel
theorem dX7_shows_251 : decode cX7_shows 251 = .ok (.ifCond .eq 7, 3) := by decide +kernel
theorem dX7_shows_254 : decode cX7_shows 254 = .ok (.iconst 1, 1) := by decide +kernel
theorem dX7_shows_255 : decode cX7_shows 255 = .ok (.goto 4, 3) := by decide +kernel
theorem dX7_shows_258 : decode cX7_shows 258 = .ok (.iconst 0, 1) := by decide +kernel
theorem dX7_shows_259 : decode cX7_shows 259 = .ok (.iadd, 1) := by decide +kernel
theorem dX7_shows_260 : decode cX7_shows 260 = .ok (.putfield 213, 3) := by decide +kernel
theorem dX7_shows_263 : decode cX7_shows 263 = .ok (.goto (-173), 3) := by decide +kernel
theorem dX7_shows_266 : decode cX7_shows 266 = .ok (.return_, 1) := by decide +kernel
theorem dX7_isAsked_0 : decode cX7_isAsked 0 = .ok (.iload_n 1, 1) := by decide +kernel
theorem dX7_isAsked_1 : decode cX7_isAsked 1 = .ok (.invokestatic 182, 3) := by decide +kernel
theorem dX7_isAsked_4 : decode cX7_isAsked 4 = .ok (.ifCond .eq 45, 3) := by decide +kernel
theorem dX7_isAsked_7 : decode cX7_isAsked 7 = .ok (.iload_n 2, 1) := by decide +kernel
theorem dX7_isAsked_8 : decode cX7_isAsked 8 = .ok (.iconst 0, 1) := by decide +kernel
theorem dX7_isAsked_9 : decode cX7_isAsked 9 = .ok (.iconst 3, 1) := by decide +kernel
theorem dX7_isAsked_10 : decode cX7_isAsked 10 = .ok (.invokestatic 72, 3) := by decide +kernel
theorem dX7_isAsked_13 : decode cX7_isAsked 13 = .ok (.ifCond .eq 36, 3) := by decide +kernel
theorem dX7_isAsked_16 : decode cX7_isAsked 16 = .ok (.iload_n 3, 1) := by decide +kernel
theorem dX7_isAsked_17 : decode cX7_isAsked 17 = .ok (.iconst 0, 1) := by decide +kernel
theorem dX7_isAsked_18 : decode cX7_isAsked 18 = .ok (.aload_n 0, 1) := by decide +kernel
theorem dX7_isAsked_19 : decode cX7_isAsked 19 = .ok (.getfield 7, 3) := by decide +kernel
theorem dX7_isAsked_22 : decode cX7_isAsked 22 = .ok (.iconst 1, 1) := by decide +kernel
theorem dX7_isAsked_23 : decode cX7_isAsked 23 = .ok (.isub, 1) := by decide +kernel
theorem dX7_isAsked_24 : decode cX7_isAsked 24 = .ok (.invokestatic 72, 3) := by decide +kernel
theorem dX7_isAsked_27 : decode cX7_isAsked 27 = .ok (.ifCond .eq 22, 3) := by decide +kernel
theorem dX7_isAsked_30 : decode cX7_isAsked 30 = .ok (.iload 4, 2) := by decide +kernel
theorem dX7_isAsked_32 : decode cX7_isAsked 32 = .ok (.iconst 0, 1) := by decide +kernel
theorem dX7_isAsked_33 : decode cX7_isAsked 33 = .ok (.aload_n 0, 1) := by decide +kernel
theorem dX7_isAsked_34 : decode cX7_isAsked 34 = .ok (.getfield 7, 3) := by decide +kernel
theorem dX7_isAsked_37 : decode cX7_isAsked 37 = .ok (.iconst 1, 1) := by decide +kernel
theorem dX7_isAsked_38 : decode cX7_isAsked 38 = .ok (.isub, 1) := by decide +kernel
theorem dX7_isAsked_39 : decode cX7_isAsked 39 = .ok (.invokestatic 72, 3) := by decide +kernel
theorem dX7_isAsked_42 : decode cX7_isAsked 42 = .ok (.ifCond .eq 7, 3) := by decide +kernel
theorem dX7_isAsked_45 : decode cX7_isAsked 45 = .ok (.iconst 1, 1) := by decide +kernel
theorem dX7_isAsked_46 : decode cX7_isAsked 46 = .ok (.goto 4, 3) := by decide +kernel
theorem dX7_isAsked_49 : decode cX7_isAsked 49 = .ok (.iconst 0, 1) := by decide +kernel
theorem dX7_isAsked_50 : decode cX7_isAsked 50 = .ok (.ireturn, 1) := by decide +kernel
theorem dX7_round_0 : decode cX7_round 0 = .ok (.aload_n 0, 1) := by decide +kernel
theorem dX7_round_1 : decode cX7_round 1 = .ok (.iconst 0, 1) := by decide +kernel
theorem dX7_round_2 : decode cX7_round 2 = .ok (.putfield 57, 3) := by decide +kernel
theorem dX7_round_5 : decode cX7_round 5 = .ok (.aload_n 0, 1) := by decide +kernel
theorem dX7_round_6 : decode cX7_round 6 = .ok (.iload_n 1, 1) := by decide +kernel
theorem dX7_round_7 : decode cX7_round 7 = .ok (.iload_n 2, 1) := by decide +kernel
theorem dX7_round_8 : decode cX7_round 8 = .ok (.iload_n 3, 1) := by decide +kernel
theorem dX7_round_9 : decode cX7_round 9 = .ok (.iload 4, 2) := by decide +kernel
theorem dX7_round_11 : decode cX7_round 11 = .ok (.invokevirtual 220, 3) := by decide +kernel
theorem dX7_round_14 : decode cX7_round 14 = .ok (.ifCond .ne 5, 3) := by decide +kernel
theorem dX7_round_17 : decode cX7_round 17 = .ok (.iconst (-1), 1) := by decide +kernel
theorem dX7_round_18 : decode cX7_round 18 = .ok (.ireturn, 1) := by decide +kernel
theorem dX7_round_19 : decode cX7_round 19 = .ok (.aload_n 0, 1) := by decide +kernel
theorem dX7_round_20 : decode cX7_round 20 = .ok (.iload_n 1, 1) := by decide +kernel
theorem dX7_round_21 : decode cX7_round 21 = .ok (.invokevirtual 224, 3) := by decide +kernel
theorem dX7_round_24 : decode cX7_round 24 = .ok (.aload_n 0, 1) := by decide +kernel
theorem dX7_round_25 : decode cX7_round 25 = .ok (.getfield 51, 3) := by decide +kernel
theorem dX7_round_28 : decode cX7_round 28 = .ok (.bipush 16, 2) := by decide +kernel
theorem dX7_round_30 : decode cX7_round 30 = .ok (.iload_n 2, 1) := by decide +kernel
theorem dX7_round_31 : decode cX7_round 31 = .ok (.imul, 1) := by decide +kernel
theorem dX7_round_32 : decode cX7_round 32 = .ok (.iconst 4, 1) := by decide +kernel
theorem dX7_round_33 : decode cX7_round 33 = .ok (.iload_n 3, 1) := by decide +kernel
theorem dX7_round_34 : decode cX7_round 34 = .ok (.imul, 1) := by decide +kernel
theorem dX7_round_35 : decode cX7_round 35 = .ok (.iadd, 1) := by decide +kernel
theorem dX7_round_36 : decode cX7_round 36 = .ok (.iload 4, 2) := by decide +kernel
theorem dX7_round_38 : decode cX7_round 38 = .ok (.iadd, 1) := by decide +kernel
theorem dX7_round_39 : decode cX7_round 39 = .ok (.iaload, 1) := by decide +kernel
theorem dX7_round_40 : decode cX7_round 40 = .ok (.ireturn, 1) := by decide +kernel
theorem dX7_by_0 : decode cX7_by 0 = .ok (.aload_n 0, 1) := by decide +kernel
theorem dX7_by_1 : decode cX7_by 1 = .ok (.iconst 0, 1) := by decide +kernel
theorem dX7_by_2 : decode cX7_by 2 = .ok (.putfield 57, 3) := by decide +kernel
theorem dX7_by_5 : decode cX7_by 5 = .ok (.aload_n 0, 1) := by decide +kernel
theorem dX7_by_6 : decode cX7_by 6 = .ok (.iload_n 1, 1) := by decide +kernel
theorem dX7_by_7 : decode cX7_by 7 = .ok (.iload_n 2, 1) := by decide +kernel
theorem dX7_by_8 : decode cX7_by 8 = .ok (.iload_n 3, 1) := by decide +kernel
theorem dX7_by_9 : decode cX7_by 9 = .ok (.iload 4, 2) := by decide +kernel
theorem dX7_by_11 : decode cX7_by 11 = .ok (.invokevirtual 220, 3) := by decide +kernel
theorem dX7_by_14 : decode cX7_by 14 = .ok (.ifCond .eq 13, 3) := by decide +kernel
theorem dX7_by_17 : decode cX7_by 17 = .ok (.iload 5, 2) := by decide +kernel
theorem dX7_by_19 : decode cX7_by 19 = .ok (.iconst 0, 1) := by decide +kernel
theorem dX7_by_20 : decode cX7_by 20 = .ok (.iconst 2, 1) := by decide +kernel
theorem dX7_by_21 : decode cX7_by 21 = .ok (.invokestatic 72, 3) := by decide +kernel
theorem dX7_by_24 : decode cX7_by 24 = .ok (.ifCond .ne 5, 3) := by decide +kernel
theorem dX7_by_27 : decode cX7_by 27 = .ok (.iconst (-1), 1) := by decide +kernel
theorem dX7_by_28 : decode cX7_by 28 = .ok (.ireturn, 1) := by decide +kernel
theorem dX7_by_29 : decode cX7_by 29 = .ok (.aload_n 0, 1) := by decide +kernel
theorem dX7_by_30 : decode cX7_by 30 = .ok (.iload_n 1, 1) := by decide +kernel
theorem dX7_by_31 : decode cX7_by 31 = .ok (.invokevirtual 224, 3) := by decide +kernel
theorem dX7_by_34 : decode cX7_by 34 = .ok (.bipush 16, 2) := by decide +kernel
theorem dX7_by_36 : decode cX7_by 36 = .ok (.iload_n 2, 1) := by decide +kernel
theorem dX7_by_37 : decode cX7_by 37 = .ok (.imul, 1) := by decide +kernel
theorem dX7_by_38 : decode cX7_by 38 = .ok (.iconst 4, 1) := by decide +kernel
theorem dX7_by_39 : decode cX7_by 39 = .ok (.iload_n 3, 1) := by decide +kernel
theorem dX7_by_40 : decode cX7_by 40 = .ok (.imul, 1) := by decide +kernel
theorem dX7_by_41 : decode cX7_by 41 = .ok (.iadd, 1) := by decide +kernel
theorem dX7_by_42 : decode cX7_by 42 = .ok (.iload 4, 2) := by decide +kernel
theorem dX7_by_44 : decode cX7_by 44 = .ok (.iadd, 1) := by decide +kernel
theorem dX7_by_45 : decode cX7_by 45 = .ok (.istore 6, 2) := by decide +kernel
theorem dX7_by_47 : decode cX7_by 47 = .ok (.aload_n 0, 1) := by decide +kernel
theorem dX7_by_48 : decode cX7_by 48 = .ok (.getfield 51, 3) := by decide +kernel
theorem dX7_by_51 : decode cX7_by 51 = .ok (.iload 6, 2) := by decide +kernel
theorem dX7_by_53 : decode cX7_by 53 = .ok (.iaload, 1) := by decide +kernel
theorem dX7_by_54 : decode cX7_by 54 = .ok (.istore 7, 2) := by decide +kernel
theorem dX7_by_56 : decode cX7_by 56 = .ok (.iload 7, 2) := by decide +kernel
theorem dX7_by_58 : decode cX7_by 58 = .ok (.bipush (-9), 2) := by decide +kernel
theorem dX7_by_60 : decode cX7_by 60 = .ok (.if_icmp .eq 13, 3) := by decide +kernel
theorem dX7_by_63 : decode cX7_by 63 = .ok (.aload_n 0, 1) := by decide +kernel
theorem dX7_by_64 : decode cX7_by 64 = .ok (.iload_n 1, 1) := by decide +kernel
theorem dX7_by_65 : decode cX7_by 65 = .ok (.iload 6, 2) := by decide +kernel
theorem dX7_by_67 : decode cX7_by 67 = .ok (.invokevirtual 210, 3) := by decide +kernel
theorem dX7_by_70 : decode cX7_by 70 = .ok (.ifCond .eq 6, 3) := by decide +kernel
theorem dX7_by_73 : decode cX7_by 73 = .ok (.bipush (-9), 2) := by decide +kernel
theorem dX7_by_75 : decode cX7_by 75 = .ok (.ireturn, 1) := by decide +kernel
theorem dX7_by_76 : decode cX7_by 76 = .ok (.iload 7, 2) := by decide +kernel
theorem dX7_by_78 : decode cX7_by 78 = .ok (.ifCond .ne 16, 3) := by decide +kernel
theorem dX7_by_81 : decode cX7_by 81 = .ok (.iload 5, 2) := by decide +kernel
theorem dX7_by_83 : decode cX7_by 83 = .ok (.ifCond .ne 8, 3) := by decide +kernel
theorem dX7_by_86 : decode cX7_by 86 = .ok (.bipush 7, 2) := by decide +kernel
theorem dX7_by_88 : decode cX7_by 88 = .ok (.goto 5, 3) := by decide +kernel
theorem dX7_by_91 : decode cX7_by 91 = .ok (.bipush (-9), 2) := by decide +kernel
theorem dX7_by_93 : decode cX7_by 93 = .ok (.ireturn, 1) := by decide +kernel
theorem dX7_by_94 : decode cX7_by 94 = .ok (.iconst 0, 1) := by decide +kernel
theorem dX7_by_95 : decode cX7_by 95 = .ok (.istore 8, 2) := by decide +kernel
theorem dX7_by_97 : decode cX7_by 97 = .ok (.iload 8, 2) := by decide +kernel
theorem dX7_by_99 : decode cX7_by 99 = .ok (.bipush 9, 2) := by decide +kernel
theorem dX7_by_101 : decode cX7_by 101 = .ok (.if_icmp .ge 67, 3) := by decide +kernel
theorem dX7_by_104 : decode cX7_by 104 = .ok (.aload_n 0, 1) := by decide +kernel
theorem dX7_by_105 : decode cX7_by 105 = .ok (.getfield 16, 3) := by decide +kernel
theorem dX7_by_108 : decode cX7_by 108 = .ok (.iload 8, 2) := by decide +kernel
theorem dX7_by_110 : decode cX7_by 110 = .ok (.ishr, 1) := by decide +kernel
theorem dX7_by_111 : decode cX7_by 111 = .ok (.iconst 1, 1) := by decide +kernel
theorem dX7_by_112 : decode cX7_by 112 = .ok (.iand, 1) := by decide +kernel
theorem dX7_by_113 : decode cX7_by 113 = .ok (.iconst 1, 1) := by decide +kernel
theorem dX7_by_114 : decode cX7_by 114 = .ok (.if_icmp .ne 48, 3) := by decide +kernel
theorem dX7_by_117 : decode cX7_by 117 = .ok (.aload_n 0, 1) := by decide +kernel
theorem dX7_by_118 : decode cX7_by 118 = .ok (.iload 8, 2) := by decide +kernel
theorem dX7_by_120 : decode cX7_by 120 = .ok (.iload_n 2, 1) := by decide +kernel
theorem dX7_by_121 : decode cX7_by 121 = .ok (.iload_n 3, 1) := by decide +kernel
theorem dX7_by_122 : decode cX7_by 122 = .ok (.iload 4, 2) := by decide +kernel
theorem dX7_by_124 : decode cX7_by 124 = .ok (.iload 7, 2) := by decide +kernel
theorem dX7_by_126 : decode cX7_by 126 = .ok (.invokevirtual 216, 3) := by decide +kernel
theorem dX7_by_129 : decode cX7_by 129 = .ok (.ifCond .eq 33, 3) := by decide +kernel
theorem dX7_by_132 : decode cX7_by 132 = .ok (.iload 5, 2) := by decide +kernel
theorem dX7_by_134 : decode cX7_by 134 = .ok (.ifCond .ne 10, 3) := by decide +kernel
theorem dX7_by_137 : decode cX7_by 137 = .ok (.aload_n 0, 1) := by decide +kernel
theorem dX7_by_138 : decode cX7_by 138 = .ok (.getfield 198, 3) := by decide +kernel
theorem dX7_by_141 : decode cX7_by 141 = .ok (.goto 20, 3) := by decide +kernel
theorem dX7_by_144 : decode cX7_by 144 = .ok (.iload 5, 2) := by decide +kernel
theorem dX7_by_146 : decode cX7_by 146 = .ok (.iconst 1, 1) := by decide +kernel
theorem dX7_by_147 : decode cX7_by 147 = .ok (.if_icmp .ne 10, 3) := by decide +kernel
theorem dX7_by_150 : decode cX7_by 150 = .ok (.aload_n 0, 1) := by decide +kernel
theorem dX7_by_151 : decode cX7_by 151 = .ok (.getfield 201, 3) := by decide +kernel
theorem dX7_by_154 : decode cX7_by 154 = .ok (.goto 7, 3) := by decide +kernel
theorem dX7_by_157 : decode cX7_by 157 = .ok (.aload_n 0, 1) := by decide +kernel
theorem dX7_by_158 : decode cX7_by 158 = .ok (.getfield 204, 3) := by decide +kernel
theorem dX7_by_161 : decode cX7_by 161 = .ok (.ireturn, 1) := by decide +kernel
theorem dX7_by_162 : decode cX7_by 162 = .ok (.iinc 8 1, 3) := by decide +kernel
theorem dX7_by_165 : decode cX7_by 165 = .ok (.goto (-68), 3) := by decide +kernel
theorem dX7_by_168 : decode cX7_by 168 = .ok (.bipush (-9), 2) := by decide +kernel
theorem dX7_by_170 : decode cX7_by 170 = .ok (.ireturn, 1) := by decide +kernel
theorem dX7_shown_0 : decode cX7_shown 0 = .ok (.aload_n 0, 1) := by decide +kernel
theorem dX7_shown_1 : decode cX7_shown 1 = .ok (.iconst 0, 1) := by decide +kernel
theorem dX7_shown_2 : decode cX7_shown 2 = .ok (.putfield 57, 3) := by decide +kernel
theorem dX7_shown_5 : decode cX7_shown 5 = .ok (.iload_n 1, 1) := by decide +kernel
theorem dX7_shown_6 : decode cX7_shown 6 = .ok (.invokestatic 182, 3) := by decide +kernel
theorem dX7_shown_9 : decode cX7_shown 9 = .ok (.ifCond .eq 12, 3) := by decide +kernel
theorem dX7_shown_12 : decode cX7_shown 12 = .ok (.iload_n 2, 1) := by decide +kernel
theorem dX7_shown_13 : decode cX7_shown 13 = .ok (.iconst 0, 1) := by decide +kernel
theorem dX7_shown_14 : decode cX7_shown 14 = .ok (.iconst 3, 1) := by decide +kernel
theorem dX7_shown_15 : decode cX7_shown 15 = .ok (.invokestatic 72, 3) := by decide +kernel
theorem dX7_shown_18 : decode cX7_shown 18 = .ok (.ifCond .ne 5, 3) := by decide +kernel
theorem dX7_shown_21 : decode cX7_shown 21 = .ok (.iconst (-1), 1) := by decide +kernel
theorem dX7_shown_22 : decode cX7_shown 22 = .ok (.ireturn, 1) := by decide +kernel
theorem dX7_shown_23 : decode cX7_shown 23 = .ok (.aload_n 0, 1) := by decide +kernel
theorem dX7_shown_24 : decode cX7_shown 24 = .ok (.iload_n 1, 1) := by decide +kernel
theorem dX7_shown_25 : decode cX7_shown 25 = .ok (.invokevirtual 224, 3) := by decide +kernel
theorem dX7_shown_28 : decode cX7_shown 28 = .ok (.iload_n 2, 1) := by decide +kernel
theorem dX7_shown_29 : decode cX7_shown 29 = .ok (.iconst 1, 1) := by decide +kernel
theorem dX7_shown_30 : decode cX7_shown 30 = .ok (.if_icmp .ne 8, 3) := by decide +kernel
theorem dX7_shown_33 : decode cX7_shown 33 = .ok (.aload_n 0, 1) := by decide +kernel
theorem dX7_shown_34 : decode cX7_shown 34 = .ok (.getfield 213, 3) := by decide +kernel
theorem dX7_shown_37 : decode cX7_shown 37 = .ok (.ireturn, 1) := by decide +kernel
theorem dX7_shown_38 : decode cX7_shown 38 = .ok (.iconst 0, 1) := by decide +kernel
theorem dX7_shown_39 : decode cX7_shown 39 = .ok (.istore_n 3, 1) := by decide +kernel
theorem dX7_shown_40 : decode cX7_shown 40 = .ok (.iload_n 2, 1) := by decide +kernel
theorem dX7_shown_41 : decode cX7_shown 41 = .ok (.iconst 2, 1) := by decide +kernel
theorem dX7_shown_42 : decode cX7_shown 42 = .ok (.if_icmp .ne 86, 3) := by decide +kernel
theorem dX7_shown_45 : decode cX7_shown 45 = .ok (.iconst 0, 1) := by decide +kernel
theorem dX7_shown_46 : decode cX7_shown 46 = .ok (.istore 4, 2) := by decide +kernel
theorem dX7_shown_48 : decode cX7_shown 48 = .ok (.iload 4, 2) := by decide +kernel
theorem dX7_shown_50 : decode cX7_shown 50 = .ok (.bipush 16, 2) := by decide +kernel
theorem dX7_shown_52 : decode cX7_shown 52 = .ok (.if_icmp .ge 74, 3) := by decide +kernel
theorem dX7_shown_55 : decode cX7_shown 55 = .ok (.iload_n 3, 1) := by decide +kernel
theorem dX7_shown_56 : decode cX7_shown 56 = .ok (.aload_n 0, 1) := by decide +kernel
theorem dX7_shown_57 : decode cX7_shown 57 = .ok (.getfield 51, 3) := by decide +kernel
theorem dX7_shown_60 : decode cX7_shown 60 = .ok (.iload 4, 2) := by decide +kernel
theorem dX7_shown_62 : decode cX7_shown 62 = .ok (.iaload, 1) := by decide +kernel
theorem dX7_shown_63 : decode cX7_shown 63 = .ok (.bipush (-9), 2) := by decide +kernel
theorem dX7_shown_65 : decode cX7_shown 65 = .ok (.if_icmp .eq 18, 3) := by decide +kernel
theorem dX7_shown_68 : decode cX7_shown 68 = .ok (.aload_n 0, 1) := by decide +kernel
theorem dX7_shown_69 : decode cX7_shown 69 = .ok (.getfield 51, 3) := by decide +kernel
theorem dX7_shown_72 : decode cX7_shown 72 = .ok (.bipush 48, 2) := by decide +kernel
theorem dX7_shown_74 : decode cX7_shown 74 = .ok (.iload 4, 2) := by decide +kernel
theorem dX7_shown_76 : decode cX7_shown 76 = .ok (.iadd, 1) := by decide +kernel
theorem dX7_shown_77 : decode cX7_shown 77 = .ok (.iaload, 1) := by decide +kernel
theorem dX7_shown_78 : decode cX7_shown 78 = .ok (.bipush (-9), 2) := by decide +kernel
theorem dX7_shown_80 : decode cX7_shown 80 = .ok (.if_icmp .ne 33, 3) := by decide +kernel
theorem dX7_shown_83 : decode cX7_shown 83 = .ok (.aload_n 0, 1) := by decide +kernel
theorem dX7_shown_84 : decode cX7_shown 84 = .ok (.getfield 51, 3) := by decide +kernel
theorem dX7_shown_87 : decode cX7_shown 87 = .ok (.bipush 16, 2) := by decide +kernel
theorem dX7_shown_89 : decode cX7_shown 89 = .ok (.iload 4, 2) := by decide +kernel
theorem dX7_shown_91 : decode cX7_shown 91 = .ok (.iadd, 1) := by decide +kernel
theorem dX7_shown_92 : decode cX7_shown 92 = .ok (.iaload, 1) := by decide +kernel
theorem dX7_shown_93 : decode cX7_shown 93 = .ok (.bipush (-9), 2) := by decide +kernel
theorem dX7_shown_95 : decode cX7_shown 95 = .ok (.if_icmp .eq 22, 3) := by decide +kernel
theorem dX7_shown_98 : decode cX7_shown 98 = .ok (.aload_n 0, 1) := by decide +kernel
theorem dX7_shown_99 : decode cX7_shown 99 = .ok (.getfield 51, 3) := by decide +kernel
theorem dX7_shown_102 : decode cX7_shown 102 = .ok (.bipush 32, 2) := by decide +kernel
theorem dX7_shown_104 : decode cX7_shown 104 = .ok (.iload 4, 2) := by decide +kernel
theorem dX7_shown_106 : decode cX7_shown 106 = .ok (.iadd, 1) := by decide +kernel
theorem dX7_shown_107 : decode cX7_shown 107 = .ok (.iaload, 1) := by decide +kernel
theorem dX7_shown_108 : decode cX7_shown 108 = .ok (.bipush (-9), 2) := by decide +kernel
theorem dX7_shown_110 : decode cX7_shown 110 = .ok (.if_icmp .eq 7, 3) := by decide +kernel
theorem dX7_shown_113 : decode cX7_shown 113 = .ok (.iconst 1, 1) := by decide +kernel
theorem dX7_shown_114 : decode cX7_shown 114 = .ok (.goto 4, 3) := by decide +kernel
theorem dX7_shown_117 : decode cX7_shown 117 = .ok (.iconst 0, 1) := by decide +kernel
theorem dX7_shown_118 : decode cX7_shown 118 = .ok (.ior, 1) := by decide +kernel
theorem dX7_shown_119 : decode cX7_shown 119 = .ok (.istore_n 3, 1) := by decide +kernel
theorem dX7_shown_120 : decode cX7_shown 120 = .ok (.iinc 4 1, 3) := by decide +kernel
theorem dX7_shown_123 : decode cX7_shown 123 = .ok (.goto (-75), 3) := by decide +kernel
theorem dX7_shown_126 : decode cX7_shown 126 = .ok (.iload_n 3, 1) := by decide +kernel
theorem dX7_shown_127 : decode cX7_shown 127 = .ok (.ireturn, 1) := by decide +kernel
theorem dX7_shown_128 : decode cX7_shown 128 = .ok (.iload_n 2, 1) := by decide +kernel
theorem dX7_shown_129 : decode cX7_shown 129 = .ok (.ifCond .ne 41, 3) := by decide +kernel
theorem dX7_shown_132 : decode cX7_shown 132 = .ok (.iconst 0, 1) := by decide +kernel
theorem dX7_shown_133 : decode cX7_shown 133 = .ok (.istore 4, 2) := by decide +kernel
theorem dX7_shown_135 : decode cX7_shown 135 = .ok (.iload 4, 2) := by decide +kernel
theorem dX7_shown_137 : decode cX7_shown 137 = .ok (.bipush 64, 2) := by decide +kernel
theorem dX7_shown_139 : decode cX7_shown 139 = .ok (.if_icmp .ge 29, 3) := by decide +kernel
theorem dX7_shown_142 : decode cX7_shown 142 = .ok (.iload_n 3, 1) := by decide +kernel
theorem dX7_shown_143 : decode cX7_shown 143 = .ok (.aload_n 0, 1) := by decide +kernel
theorem dX7_shown_144 : decode cX7_shown 144 = .ok (.getfield 51, 3) := by decide +kernel
theorem dX7_shown_147 : decode cX7_shown 147 = .ok (.iload 4, 2) := by decide +kernel
theorem dX7_shown_149 : decode cX7_shown 149 = .ok (.iaload, 1) := by decide +kernel
theorem dX7_shown_150 : decode cX7_shown 150 = .ok (.bipush (-9), 2) := by decide +kernel
theorem dX7_shown_152 : decode cX7_shown 152 = .ok (.if_icmp .ne 7, 3) := by decide +kernel
theorem dX7_shown_155 : decode cX7_shown 155 = .ok (.iconst 0, 1) := by decide +kernel
theorem dX7_shown_156 : decode cX7_shown 156 = .ok (.goto 4, 3) := by decide +kernel
theorem dX7_shown_159 : decode cX7_shown 159 = .ok (.iconst 1, 1) := by decide +kernel
theorem dX7_shown_160 : decode cX7_shown 160 = .ok (.iadd, 1) := by decide +kernel
theorem dX7_shown_161 : decode cX7_shown 161 = .ok (.istore_n 3, 1) := by decide +kernel
theorem dX7_shown_162 : decode cX7_shown 162 = .ok (.iinc 4 1, 3) := by decide +kernel
theorem dX7_shown_165 : decode cX7_shown 165 = .ok (.goto (-30), 3) := by decide +kernel
theorem dX7_shown_168 : decode cX7_shown 168 = .ok (.iload_n 3, 1) := by decide +kernel
theorem dX7_shown_169 : decode cX7_shown 169 = .ok (.ireturn, 1) := by decide +kernel
theorem dX7_shown_170 : decode cX7_shown 170 = .ok (.aload_n 0, 1) := by decide +kernel
theorem dX7_shown_171 : decode cX7_shown 171 = .ok (.invokevirtual 76, 3) := by decide +kernel
theorem dX7_shown_174 : decode cX7_shown 174 = .ok (.ldc2_w 170, 3) := by decide +kernel
theorem dX7_shown_177 : decode cX7_shown 177 = .ok (.lstore 4, 2) := by decide +kernel
theorem dX7_shown_179 : decode cX7_shown 179 = .ok (.iconst 0, 1) := by decide +kernel
theorem dX7_shown_180 : decode cX7_shown 180 = .ok (.istore 6, 2) := by decide +kernel
theorem dX7_shown_182 : decode cX7_shown 182 = .ok (.iload 6, 2) := by decide +kernel
theorem dX7_shown_184 : decode cX7_shown 184 = .ok (.sipush 1024, 3) := by decide +kernel
theorem dX7_shown_187 : decode cX7_shown 187 = .ok (.if_icmp .ge 46, 3) := by decide +kernel
theorem dX7_shown_190 : decode cX7_shown 190 = .ok (.lload 4, 2) := by decide +kernel
theorem dX7_shown_192 : decode cX7_shown 192 = .ok (.aload_n 0, 1) := by decide +kernel
theorem dX7_shown_193 : decode cX7_shown 193 = .ok (.getfield 38, 3) := by decide +kernel
theorem dX7_shown_196 : decode cX7_shown 196 = .ok (.iload 6, 2) := by decide +kernel
theorem dX7_shown_198 : decode cX7_shown 198 = .ok (.iaload, 1) := by decide +kernel
theorem dX7_shown_199 : decode cX7_shown 199 = .ok (.ifCond .le 22, 3) := by decide +kernel
theorem dX7_shown_202 : decode cX7_shown 202 = .ok (.iload_n 1, 1) := by decide +kernel
theorem dX7_shown_203 : decode cX7_shown 203 = .ok (.iload 6, 2) := by decide +kernel
theorem dX7_shown_205 : decode cX7_shown 205 = .ok (.invokestatic 178, 3) := by decide +kernel
theorem dX7_shown_208 : decode cX7_shown 208 = .ok (.ifCond .eq 13, 3) := by decide +kernel
theorem dX7_shown_211 : decode cX7_shown 211 = .ok (.aload_n 0, 1) := by decide +kernel
theorem dX7_shown_212 : decode cX7_shown 212 = .ok (.getfield 47, 3) := by decide +kernel
theorem dX7_shown_215 : decode cX7_shown 215 = .ok (.iload 6, 2) := by decide +kernel
theorem dX7_shown_217 : decode cX7_shown 217 = .ok (.laload, 1) := by decide +kernel
theorem dX7_shown_218 : decode cX7_shown 218 = .ok (.goto 6, 3) := by decide +kernel
theorem dX7_shown_221 : decode cX7_shown 221 = .ok (.ldc2_w 170, 3) := by decide +kernel
theorem dX7_shown_224 : decode cX7_shown 224 = .ok (.land, 1) := by decide +kernel
theorem dX7_shown_225 : decode cX7_shown 225 = .ok (.lstore 4, 2) := by decide +kernel
theorem dX7_shown_227 : decode cX7_shown 227 = .ok (.iinc 6 1, 3) := by decide +kernel
theorem dX7_shown_230 : decode cX7_shown 230 = .ok (.goto (-48), 3) := by decide +kernel
theorem dX7_shown_233 : decode cX7_shown 233 = .ok (.iconst 0, 1) := by decide +kernel
theorem dX7_shown_234 : decode cX7_shown 234 = .ok (.istore 6, 2) := by decide +kernel
theorem dX7_shown_236 : decode cX7_shown 236 = .ok (.iload 6, 2) := by decide +kernel
theorem dX7_shown_238 : decode cX7_shown 238 = .ok (.bipush 64, 2) := by decide +kernel
theorem dX7_shown_240 : decode cX7_shown 240 = .ok (.if_icmp .ge 65, 3) := by decide +kernel
theorem dX7_shown_243 : decode cX7_shown 243 = .ok (.iload_n 3, 1) := by decide +kernel
theorem dX7_shown_244 : decode cX7_shown 244 = .ok (.iload 6, 2) := by decide +kernel
theorem dX7_shown_246 : decode cX7_shown 246 = .ok (.iconst 4, 1) := by decide +kernel
theorem dX7_shown_247 : decode cX7_shown 247 = .ok (.idiv, 1) := by decide +kernel
theorem dX7_shown_248 : decode cX7_shown 248 = .ok (.iconst 4, 1) := by decide +kernel
theorem dX7_shown_249 : decode cX7_shown 249 = .ok (.irem, 1) := by decide +kernel
theorem dX7_shown_250 : decode cX7_shown 250 = .ok (.aload_n 0, 1) := by decide +kernel
theorem dX7_shown_251 : decode cX7_shown 251 = .ok (.getfield 7, 3) := by decide +kernel
theorem dX7_shown_254 : decode cX7_shown 254 = .ok (.if_icmp .ge 42, 3) := by decide +kernel
theorem dX7_shown_257 : decode cX7_shown 257 = .ok (.iload 6, 2) := by decide +kernel
theorem dX7_shown_259 : decode cX7_shown 259 = .ok (.iconst 4, 1) := by decide +kernel
theorem dX7_shown_260 : decode cX7_shown 260 = .ok (.irem, 1) := by decide +kernel
theorem dX7_shown_261 : decode cX7_shown 261 = .ok (.aload_n 0, 1) := by decide +kernel
theorem dX7_shown_262 : decode cX7_shown 262 = .ok (.getfield 7, 3) := by decide +kernel
theorem dX7_shown_265 : decode cX7_shown 265 = .ok (.if_icmp .ge 31, 3) := by decide +kernel
theorem dX7_shown_268 : decode cX7_shown 268 = .ok (.lload 4, 2) := by decide +kernel
theorem dX7_shown_270 : decode cX7_shown 270 = .ok (.iload 6, 2) := by decide +kernel
theorem dX7_shown_272 : decode cX7_shown 272 = .ok (.lshr, 1) := by decide +kernel
theorem dX7_shown_273 : decode cX7_shown 273 = .ok (.lconst 1, 1) := by decide +kernel
theorem dX7_shown_274 : decode cX7_shown 274 = .ok (.land, 1) := by decide +kernel
theorem dX7_shown_275 : decode cX7_shown 275 = .ok (.lconst 1, 1) := by decide +kernel
theorem dX7_shown_276 : decode cX7_shown 276 = .ok (.lcmp, 1) := by decide +kernel
theorem dX7_shown_277 : decode cX7_shown 277 = .ok (.ifCond .ne 19, 3) := by decide +kernel
theorem dX7_shown_280 : decode cX7_shown 280 = .ok (.aload_n 0, 1) := by decide +kernel
theorem dX7_shown_281 : decode cX7_shown 281 = .ok (.getfield 51, 3) := by decide +kernel
theorem dX7_shown_284 : decode cX7_shown 284 = .ok (.iload 6, 2) := by decide +kernel
theorem dX7_shown_286 : decode cX7_shown 286 = .ok (.iaload, 1) := by decide +kernel
theorem dX7_shown_287 : decode cX7_shown 287 = .ok (.bipush (-9), 2) := by decide +kernel
theorem dX7_shown_289 : decode cX7_shown 289 = .ok (.if_icmp .ne 7, 3) := by decide +kernel
theorem dX7_shown_292 : decode cX7_shown 292 = .ok (.iconst 1, 1) := by decide +kernel
theorem dX7_shown_293 : decode cX7_shown 293 = .ok (.goto 4, 3) := by decide +kernel
theorem dX7_shown_296 : decode cX7_shown 296 = .ok (.iconst 0, 1) := by decide +kernel
theorem dX7_shown_297 : decode cX7_shown 297 = .ok (.iadd, 1) := by decide +kernel
theorem dX7_shown_298 : decode cX7_shown 298 = .ok (.istore_n 3, 1) := by decide +kernel
theorem dX7_shown_299 : decode cX7_shown 299 = .ok (.iinc 6 1, 3) := by decide +kernel
theorem dX7_shown_302 : decode cX7_shown 302 = .ok (.goto (-66), 3) := by decide +kernel
theorem dX7_shown_305 : decode cX7_shown 305 = .ok (.iload_n 3, 1) := by decide +kernel
theorem dX7_shown_306 : decode cX7_shown 306 = .ok (.ireturn, 1) := by decide +kernel
theorem dX7_count_0 : decode cX7_count 0 = .ok (.aload_n 0, 1) := by decide +kernel
theorem dX7_count_1 : decode cX7_count 1 = .ok (.iconst 0, 1) := by decide +kernel
theorem dX7_count_2 : decode cX7_count 2 = .ok (.putfield 57, 3) := by decide +kernel
theorem dX7_count_5 : decode cX7_count 5 = .ok (.iconst 0, 1) := by decide +kernel
theorem dX7_count_6 : decode cX7_count 6 = .ok (.istore_n 2, 1) := by decide +kernel
theorem dX7_count_7 : decode cX7_count 7 = .ok (.iconst 0, 1) := by decide +kernel
theorem dX7_count_8 : decode cX7_count 8 = .ok (.istore_n 3, 1) := by decide +kernel
theorem dX7_count_9 : decode cX7_count 9 = .ok (.iload_n 3, 1) := by decide +kernel
theorem dX7_count_10 : decode cX7_count 10 = .ok (.bipush 10, 2) := by decide +kernel
theorem dX7_count_12 : decode cX7_count 12 = .ok (.if_icmp .ge 35, 3) := by decide +kernel
theorem dX7_count_15 : decode cX7_count 15 = .ok (.iload_n 2, 1) := by decide +kernel
theorem dX7_count_16 : decode cX7_count 16 = .ok (.aload_n 0, 1) := by decide +kernel
theorem dX7_count_17 : decode cX7_count 17 = .ok (.getfield 26, 3) := by decide +kernel
theorem dX7_count_20 : decode cX7_count 20 = .ok (.bipush 6, 2) := by decide +kernel
theorem dX7_count_22 : decode cX7_count 22 = .ok (.iload_n 3, 1) := by decide +kernel
theorem dX7_count_23 : decode cX7_count 23 = .ok (.imul, 1) := by decide +kernel
theorem dX7_count_24 : decode cX7_count 24 = .ok (.iconst 5, 1) := by decide +kernel
theorem dX7_count_25 : decode cX7_count 25 = .ok (.iadd, 1) := by decide +kernel
theorem dX7_count_26 : decode cX7_count 26 = .ok (.iaload, 1) := by decide +kernel
theorem dX7_count_27 : decode cX7_count 27 = .ok (.bipush (-9), 2) := by decide +kernel
theorem dX7_count_29 : decode cX7_count 29 = .ok (.if_icmp .ne 7, 3) := by decide +kernel
theorem dX7_count_32 : decode cX7_count 32 = .ok (.iconst 0, 1) := by decide +kernel
theorem dX7_count_33 : decode cX7_count 33 = .ok (.goto 6, 3) := by decide +kernel
theorem dX7_count_36 : decode cX7_count 36 = .ok (.iconst 1, 1) := by decide +kernel
theorem dX7_count_37 : decode cX7_count 37 = .ok (.iload_n 3, 1) := by decide +kernel
theorem dX7_count_38 : decode cX7_count 38 = .ok (.ishl, 1) := by decide +kernel
theorem dX7_count_39 : decode cX7_count 39 = .ok (.ior, 1) := by decide +kernel
theorem dX7_count_40 : decode cX7_count 40 = .ok (.istore_n 2, 1) := by decide +kernel
theorem dX7_count_41 : decode cX7_count 41 = .ok (.iinc 3 1, 3) := by decide +kernel
theorem dX7_count_44 : decode cX7_count 44 = .ok (.goto (-35), 3) := by decide +kernel
theorem dX7_count_47 : decode cX7_count 47 = .ok (.iload_n 1, 1) := by decide +kernel
theorem dX7_count_48 : decode cX7_count 48 = .ok (.ifCond .ne 10, 3) := by decide +kernel
theorem dX7_count_51 : decode cX7_count 51 = .ok (.aload_n 0, 1) := by decide +kernel
theorem dX7_count_52 : decode cX7_count 52 = .ok (.getfield 7, 3) := by decide +kernel
theorem dX7_count_55 : decode cX7_count 55 = .ok (.goto 53, 3) := by decide +kernel
theorem dX7_count_58 : decode cX7_count 58 = .ok (.iload_n 1, 1) := by decide +kernel
theorem dX7_count_59 : decode cX7_count 59 = .ok (.iconst 1, 1) := by decide +kernel
theorem dX7_count_60 : decode cX7_count 60 = .ok (.if_icmp .ne 10, 3) := by decide +kernel
theorem dX7_count_63 : decode cX7_count 63 = .ok (.aload_n 0, 1) := by decide +kernel
theorem dX7_count_64 : decode cX7_count 64 = .ok (.getfield 13, 3) := by decide +kernel
theorem dX7_count_67 : decode cX7_count 67 = .ok (.goto 41, 3) := by decide +kernel
theorem dX7_count_70 : decode cX7_count 70 = .ok (.iload_n 1, 1) := by decide +kernel
theorem dX7_count_71 : decode cX7_count 71 = .ok (.iconst 2, 1) := by decide +kernel
theorem dX7_count_72 : decode cX7_count 72 = .ok (.if_icmp .ne 14, 3) := by decide +kernel
theorem dX7_count_75 : decode cX7_count 75 = .ok (.aload_n 0, 1) := by decide +kernel
theorem dX7_count_76 : decode cX7_count 76 = .ok (.aload_n 0, 1) := by decide +kernel
theorem dX7_count_77 : decode cX7_count 77 = .ok (.getfield 19, 3) := by decide +kernel
theorem dX7_count_80 : decode cX7_count 80 = .ok (.invokevirtual 82, 3) := by decide +kernel
theorem dX7_count_83 : decode cX7_count 83 = .ok (.goto 25, 3) := by decide +kernel
theorem dX7_count_86 : decode cX7_count 86 = .ok (.iload_n 1, 1) := by decide +kernel
theorem dX7_count_87 : decode cX7_count 87 = .ok (.iconst 3, 1) := by decide +kernel
theorem dX7_count_88 : decode cX7_count 88 = .ok (.if_icmp .ne 10, 3) := by decide +kernel
theorem dX7_count_91 : decode cX7_count 91 = .ok (.aload_n 0, 1) := by decide +kernel
theorem dX7_count_92 : decode cX7_count 92 = .ok (.getfield 98, 3) := by decide +kernel
theorem dX7_count_95 : decode cX7_count 95 = .ok (.goto 13, 3) := by decide +kernel
theorem dX7_count_98 : decode cX7_count 98 = .ok (.iload_n 1, 1) := by decide +kernel
theorem dX7_count_99 : decode cX7_count 99 = .ok (.iconst 4, 1) := by decide +kernel
theorem dX7_count_100 : decode cX7_count 100 = .ok (.if_icmp .ne 7, 3) := by decide +kernel
theorem dX7_count_103 : decode cX7_count 103 = .ok (.iload_n 2, 1) := by decide +kernel
theorem dX7_count_104 : decode cX7_count 104 = .ok (.goto 4, 3) := by decide +kernel
theorem dX7_count_107 : decode cX7_count 107 = .ok (.iconst (-1), 1) := by decide +kernel
theorem dX7_count_108 : decode cX7_count 108 = .ok (.ireturn, 1) := by decide +kernel
theorem dJ6_bitCount_0f7a4_0 : decode cJ6_bitCount_0f7a4 0 = .ok (.iload_n 0, 1) := by decide +kernel
theorem dJ6_bitCount_0f7a4_1 : decode cJ6_bitCount_0f7a4 1 = .ok (.iload_n 0, 1) := by decide +kernel
theorem dJ6_bitCount_0f7a4_2 : decode cJ6_bitCount_0f7a4 2 = .ok (.iconst 1, 1) := by decide +kernel
theorem dJ6_bitCount_0f7a4_3 : decode cJ6_bitCount_0f7a4 3 = .ok (.iushr, 1) := by decide +kernel
theorem dJ6_bitCount_0f7a4_4 : decode cJ6_bitCount_0f7a4 4 = .ok (.ldc_w 265, 3) := by decide +kernel
theorem dJ6_bitCount_0f7a4_7 : decode cJ6_bitCount_0f7a4 7 = .ok (.iand, 1) := by decide +kernel
theorem dJ6_bitCount_0f7a4_8 : decode cJ6_bitCount_0f7a4 8 = .ok (.isub, 1) := by decide +kernel
theorem dJ6_bitCount_0f7a4_9 : decode cJ6_bitCount_0f7a4 9 = .ok (.istore_n 0, 1) := by decide +kernel
theorem dJ6_bitCount_0f7a4_10 : decode cJ6_bitCount_0f7a4 10 = .ok (.iload_n 0, 1) := by decide +kernel
theorem dJ6_bitCount_0f7a4_11 : decode cJ6_bitCount_0f7a4 11 = .ok (.ldc_w 266, 3) := by decide +kernel
theorem dJ6_bitCount_0f7a4_14 : decode cJ6_bitCount_0f7a4 14 = .ok (.iand, 1) := by decide +kernel
theorem dJ6_bitCount_0f7a4_15 : decode cJ6_bitCount_0f7a4 15 = .ok (.iload_n 0, 1) := by decide +kernel
theorem dJ6_bitCount_0f7a4_16 : decode cJ6_bitCount_0f7a4 16 = .ok (.iconst 2, 1) := by decide +kernel
theorem dJ6_bitCount_0f7a4_17 : decode cJ6_bitCount_0f7a4 17 = .ok (.iushr, 1) := by decide +kernel
theorem dJ6_bitCount_0f7a4_18 : decode cJ6_bitCount_0f7a4 18 = .ok (.ldc_w 266, 3) := by decide +kernel
theorem dJ6_bitCount_0f7a4_21 : decode cJ6_bitCount_0f7a4 21 = .ok (.iand, 1) := by decide +kernel
theorem dJ6_bitCount_0f7a4_22 : decode cJ6_bitCount_0f7a4 22 = .ok (.iadd, 1) := by decide +kernel
theorem dJ6_bitCount_0f7a4_23 : decode cJ6_bitCount_0f7a4 23 = .ok (.istore_n 0, 1) := by decide +kernel
theorem dJ6_bitCount_0f7a4_24 : decode cJ6_bitCount_0f7a4 24 = .ok (.iload_n 0, 1) := by decide +kernel
theorem dJ6_bitCount_0f7a4_25 : decode cJ6_bitCount_0f7a4 25 = .ok (.iload_n 0, 1) := by decide +kernel
theorem dJ6_bitCount_0f7a4_26 : decode cJ6_bitCount_0f7a4 26 = .ok (.iconst 4, 1) := by decide +kernel
theorem dJ6_bitCount_0f7a4_27 : decode cJ6_bitCount_0f7a4 27 = .ok (.iushr, 1) := by decide +kernel
theorem dJ6_bitCount_0f7a4_28 : decode cJ6_bitCount_0f7a4 28 = .ok (.iadd, 1) := by decide +kernel
theorem dJ6_bitCount_0f7a4_29 : decode cJ6_bitCount_0f7a4 29 = .ok (.ldc_w 267, 3) := by decide +kernel
theorem dJ6_bitCount_0f7a4_32 : decode cJ6_bitCount_0f7a4 32 = .ok (.iand, 1) := by decide +kernel
theorem dJ6_bitCount_0f7a4_33 : decode cJ6_bitCount_0f7a4 33 = .ok (.istore_n 0, 1) := by decide +kernel
theorem dJ6_bitCount_0f7a4_34 : decode cJ6_bitCount_0f7a4 34 = .ok (.iload_n 0, 1) := by decide +kernel
theorem dJ6_bitCount_0f7a4_35 : decode cJ6_bitCount_0f7a4 35 = .ok (.iload_n 0, 1) := by decide +kernel
theorem dJ6_bitCount_0f7a4_36 : decode cJ6_bitCount_0f7a4 36 = .ok (.bipush 8, 2) := by decide +kernel
theorem dJ6_bitCount_0f7a4_38 : decode cJ6_bitCount_0f7a4 38 = .ok (.iushr, 1) := by decide +kernel
theorem dJ6_bitCount_0f7a4_39 : decode cJ6_bitCount_0f7a4 39 = .ok (.iadd, 1) := by decide +kernel
theorem dJ6_bitCount_0f7a4_40 : decode cJ6_bitCount_0f7a4 40 = .ok (.istore_n 0, 1) := by decide +kernel
theorem dJ6_bitCount_0f7a4_41 : decode cJ6_bitCount_0f7a4 41 = .ok (.iload_n 0, 1) := by decide +kernel
theorem dJ6_bitCount_0f7a4_42 : decode cJ6_bitCount_0f7a4 42 = .ok (.iload_n 0, 1) := by decide +kernel
theorem dJ6_bitCount_0f7a4_43 : decode cJ6_bitCount_0f7a4 43 = .ok (.bipush 16, 2) := by decide +kernel
theorem dJ6_bitCount_0f7a4_45 : decode cJ6_bitCount_0f7a4 45 = .ok (.iushr, 1) := by decide +kernel
theorem dJ6_bitCount_0f7a4_46 : decode cJ6_bitCount_0f7a4 46 = .ok (.iadd, 1) := by decide +kernel
theorem dJ6_bitCount_0f7a4_47 : decode cJ6_bitCount_0f7a4 47 = .ok (.istore_n 0, 1) := by decide +kernel
theorem dJ6_bitCount_0f7a4_48 : decode cJ6_bitCount_0f7a4 48 = .ok (.iload_n 0, 1) := by decide +kernel
theorem dJ6_bitCount_0f7a4_49 : decode cJ6_bitCount_0f7a4 49 = .ok (.bipush 63, 2) := by decide +kernel
theorem dJ6_bitCount_0f7a4_51 : decode cJ6_bitCount_0f7a4 51 = .ok (.iand, 1) := by decide +kernel
theorem dJ6_bitCount_0f7a4_52 : decode cJ6_bitCount_0f7a4 52 = .ok (.ireturn, 1) := by decide +kernel
theorem dJ13_bitCount_95d88_0 : decode cJ13_bitCount_95d88 0 = .ok (.lload_n 0, 1) := by decide +kernel
theorem dJ13_bitCount_95d88_1 : decode cJ13_bitCount_95d88 1 = .ok (.lload_n 0, 1) := by decide +kernel
theorem dJ13_bitCount_95d88_2 : decode cJ13_bitCount_95d88 2 = .ok (.iconst 1, 1) := by decide +kernel
theorem dJ13_bitCount_95d88_3 : decode cJ13_bitCount_95d88 3 = .ok (.lushr, 1) := by decide +kernel
theorem dJ13_bitCount_95d88_4 : decode cJ13_bitCount_95d88 4 = .ok (.ldc2_w 314, 3) := by decide +kernel
theorem dJ13_bitCount_95d88_7 : decode cJ13_bitCount_95d88 7 = .ok (.land, 1) := by decide +kernel
theorem dJ13_bitCount_95d88_8 : decode cJ13_bitCount_95d88 8 = .ok (.lsub, 1) := by decide +kernel
theorem dJ13_bitCount_95d88_9 : decode cJ13_bitCount_95d88 9 = .ok (.lstore_n 0, 1) := by decide +kernel
theorem dJ13_bitCount_95d88_10 : decode cJ13_bitCount_95d88 10 = .ok (.lload_n 0, 1) := by decide +kernel
theorem dJ13_bitCount_95d88_11 : decode cJ13_bitCount_95d88 11 = .ok (.ldc2_w 316, 3) := by decide +kernel
theorem dJ13_bitCount_95d88_14 : decode cJ13_bitCount_95d88 14 = .ok (.land, 1) := by decide +kernel
theorem dJ13_bitCount_95d88_15 : decode cJ13_bitCount_95d88 15 = .ok (.lload_n 0, 1) := by decide +kernel
theorem dJ13_bitCount_95d88_16 : decode cJ13_bitCount_95d88 16 = .ok (.iconst 2, 1) := by decide +kernel
theorem dJ13_bitCount_95d88_17 : decode cJ13_bitCount_95d88 17 = .ok (.lushr, 1) := by decide +kernel
theorem dJ13_bitCount_95d88_18 : decode cJ13_bitCount_95d88 18 = .ok (.ldc2_w 316, 3) := by decide +kernel
theorem dJ13_bitCount_95d88_21 : decode cJ13_bitCount_95d88 21 = .ok (.land, 1) := by decide +kernel
theorem dJ13_bitCount_95d88_22 : decode cJ13_bitCount_95d88 22 = .ok (.ladd, 1) := by decide +kernel
theorem dJ13_bitCount_95d88_23 : decode cJ13_bitCount_95d88 23 = .ok (.lstore_n 0, 1) := by decide +kernel
theorem dJ13_bitCount_95d88_24 : decode cJ13_bitCount_95d88 24 = .ok (.lload_n 0, 1) := by decide +kernel
theorem dJ13_bitCount_95d88_25 : decode cJ13_bitCount_95d88 25 = .ok (.lload_n 0, 1) := by decide +kernel
theorem dJ13_bitCount_95d88_26 : decode cJ13_bitCount_95d88 26 = .ok (.iconst 4, 1) := by decide +kernel
theorem dJ13_bitCount_95d88_27 : decode cJ13_bitCount_95d88 27 = .ok (.lushr, 1) := by decide +kernel
theorem dJ13_bitCount_95d88_28 : decode cJ13_bitCount_95d88 28 = .ok (.ladd, 1) := by decide +kernel
theorem dJ13_bitCount_95d88_29 : decode cJ13_bitCount_95d88 29 = .ok (.ldc2_w 318, 3) := by decide +kernel
theorem dJ13_bitCount_95d88_32 : decode cJ13_bitCount_95d88 32 = .ok (.land, 1) := by decide +kernel
theorem dJ13_bitCount_95d88_33 : decode cJ13_bitCount_95d88 33 = .ok (.lstore_n 0, 1) := by decide +kernel
theorem dJ13_bitCount_95d88_34 : decode cJ13_bitCount_95d88 34 = .ok (.lload_n 0, 1) := by decide +kernel
theorem dJ13_bitCount_95d88_35 : decode cJ13_bitCount_95d88 35 = .ok (.lload_n 0, 1) := by decide +kernel
theorem dJ13_bitCount_95d88_36 : decode cJ13_bitCount_95d88 36 = .ok (.bipush 8, 2) := by decide +kernel
theorem dJ13_bitCount_95d88_38 : decode cJ13_bitCount_95d88 38 = .ok (.lushr, 1) := by decide +kernel
theorem dJ13_bitCount_95d88_39 : decode cJ13_bitCount_95d88 39 = .ok (.ladd, 1) := by decide +kernel
theorem dJ13_bitCount_95d88_40 : decode cJ13_bitCount_95d88 40 = .ok (.lstore_n 0, 1) := by decide +kernel
theorem dJ13_bitCount_95d88_41 : decode cJ13_bitCount_95d88 41 = .ok (.lload_n 0, 1) := by decide +kernel
theorem dJ13_bitCount_95d88_42 : decode cJ13_bitCount_95d88 42 = .ok (.lload_n 0, 1) := by decide +kernel
theorem dJ13_bitCount_95d88_43 : decode cJ13_bitCount_95d88 43 = .ok (.bipush 16, 2) := by decide +kernel
theorem dJ13_bitCount_95d88_45 : decode cJ13_bitCount_95d88 45 = .ok (.lushr, 1) := by decide +kernel
theorem dJ13_bitCount_95d88_46 : decode cJ13_bitCount_95d88 46 = .ok (.ladd, 1) := by decide +kernel
theorem dJ13_bitCount_95d88_47 : decode cJ13_bitCount_95d88 47 = .ok (.lstore_n 0, 1) := by decide +kernel
theorem dJ13_bitCount_95d88_48 : decode cJ13_bitCount_95d88 48 = .ok (.lload_n 0, 1) := by decide +kernel
theorem dJ13_bitCount_95d88_49 : decode cJ13_bitCount_95d88 49 = .ok (.lload_n 0, 1) := by decide +kernel
theorem dJ13_bitCount_95d88_50 : decode cJ13_bitCount_95d88 50 = .ok (.bipush 32, 2) := by decide +kernel
theorem dJ13_bitCount_95d88_52 : decode cJ13_bitCount_95d88 52 = .ok (.lushr, 1) := by decide +kernel
theorem dJ13_bitCount_95d88_53 : decode cJ13_bitCount_95d88 53 = .ok (.ladd, 1) := by decide +kernel
theorem dJ13_bitCount_95d88_54 : decode cJ13_bitCount_95d88 54 = .ok (.lstore_n 0, 1) := by decide +kernel
theorem dJ13_bitCount_95d88_55 : decode cJ13_bitCount_95d88 55 = .ok (.lload_n 0, 1) := by decide +kernel
theorem dJ13_bitCount_95d88_56 : decode cJ13_bitCount_95d88 56 = .ok (.l2i, 1) := by decide +kernel
theorem dJ13_bitCount_95d88_57 : decode cJ13_bitCount_95d88 57 = .ok (.bipush 127, 2) := by decide +kernel
theorem dJ13_bitCount_95d88_59 : decode cJ13_bitCount_95d88 59 = .ok (.iand, 1) := by decide +kernel
theorem dJ13_bitCount_95d88_60 : decode cJ13_bitCount_95d88 60 = .ok (.ireturn, 1) := by decide +kernel
theorem dJ9_max_7cf53_0 : decode cJ9_max_7cf53 0 = .ok (.iload_n 0, 1) := by decide +kernel
theorem dJ9_max_7cf53_1 : decode cJ9_max_7cf53 1 = .ok (.iload_n 1, 1) := by decide +kernel
theorem dJ9_max_7cf53_2 : decode cJ9_max_7cf53 2 = .ok (.if_icmp .lt 7, 3) := by decide +kernel
theorem dJ9_max_7cf53_5 : decode cJ9_max_7cf53 5 = .ok (.iload_n 0, 1) := by decide +kernel
theorem dJ9_max_7cf53_6 : decode cJ9_max_7cf53 6 = .ok (.goto 4, 3) := by decide +kernel
theorem dJ9_max_7cf53_9 : decode cJ9_max_7cf53 9 = .ok (.iload_n 1, 1) := by decide +kernel
theorem dJ9_max_7cf53_10 : decode cJ9_max_7cf53 10 = .ok (.ireturn, 1) := by decide +kernel
theorem dJ9_min_7cf53_0 : decode cJ9_min_7cf53 0 = .ok (.iload_n 0, 1) := by decide +kernel
theorem dJ9_min_7cf53_1 : decode cJ9_min_7cf53 1 = .ok (.iload_n 1, 1) := by decide +kernel
theorem dJ9_min_7cf53_2 : decode cJ9_min_7cf53 2 = .ok (.if_icmp .gt 7, 3) := by decide +kernel
theorem dJ9_min_7cf53_5 : decode cJ9_min_7cf53 5 = .ok (.iload_n 0, 1) := by decide +kernel
theorem dJ9_min_7cf53_6 : decode cJ9_min_7cf53 6 = .ok (.goto 4, 3) := by decide +kernel
theorem dJ9_min_7cf53_9 : decode cJ9_min_7cf53 9 = .ok (.iload_n 1, 1) := by decide +kernel
theorem dJ9_min_7cf53_10 : decode cJ9_min_7cf53 10 = .ok (.ireturn, 1) := by decide +kernel
theorem dL_law_0 : decode cL_law 0 = .ok (.new 7, 3) := by decide +kernel
theorem dL_law_3 : decode cL_law 3 = .ok (.dup, 1) := by decide +kernel
theorem dL_law_4 : decode cL_law 4 = .ok (.invokespecial 9, 3) := by decide +kernel
theorem dL_law_7 : decode cL_law 7 = .ok (.astore_n 1, 1) := by decide +kernel
theorem dL_law_8 : decode cL_law 8 = .ok (.new 10, 3) := by decide +kernel
theorem dL_law_11 : decode cL_law 11 = .ok (.dup, 1) := by decide +kernel
theorem dL_law_12 : decode cL_law 12 = .ok (.invokespecial 12, 3) := by decide +kernel
theorem dL_law_15 : decode cL_law 15 = .ok (.astore_n 2, 1) := by decide +kernel
theorem dL_law_16 : decode cL_law 16 = .ok (.iconst 0, 1) := by decide +kernel
theorem dL_law_17 : decode cL_law 17 = .ok (.istore_n 3, 1) := by decide +kernel
theorem dL_law_18 : decode cL_law 18 = .ok (.iload_n 3, 1) := by decide +kernel
theorem dL_law_19 : decode cL_law 19 = .ok (.aload_n 0, 1) := by decide +kernel
theorem dL_law_20 : decode cL_law 20 = .ok (.arraylength, 1) := by decide +kernel
theorem dL_law_21 : decode cL_law 21 = .ok (.bipush 6, 2) := by decide +kernel
theorem dL_law_23 : decode cL_law 23 = .ok (.isub, 1) := by decide +kernel
theorem dL_law_24 : decode cL_law 24 = .ok (.if_icmp .gt 858, 3) := by decide +kernel
theorem dL_law_27 : decode cL_law 27 = .ok (.aload_n 0, 1) := by decide +kernel
theorem dL_law_28 : decode cL_law 28 = .ok (.iload_n 3, 1) := by decide +kernel
theorem dL_law_29 : decode cL_law 29 = .ok (.iaload, 1) := by decide +kernel
theorem dL_law_30 : decode cL_law 30 = .ok (.bipush 31, 2) := by decide +kernel
theorem dL_law_32 : decode cL_law 32 = .ok (.iand, 1) := by decide +kernel
theorem dL_law_33 : decode cL_law 33 = .ok (.tableswitch 843 0 23 #[111, 134, 157, 170, 203, 226, 259, 322, 335, 358, 391, 414, 447, 480, 523, 546, 579, 602, 625, 648, 671, 724, 787, 820], 111) := by decide +kernel
theorem dL_law_144 : decode cL_law 144 = .ok (.aload_n 1, 1) := by decide +kernel
theorem dL_law_145 : decode cL_law 145 = .ok (.aload_n 0, 1) := by decide +kernel
theorem dL_law_146 : decode cL_law 146 = .ok (.iload_n 3, 1) := by decide +kernel
theorem dL_law_147 : decode cL_law 147 = .ok (.iconst 1, 1) := by decide +kernel
theorem dL_law_148 : decode cL_law 148 = .ok (.iadd, 1) := by decide +kernel
theorem dL_law_149 : decode cL_law 149 = .ok (.iaload, 1) := by decide +kernel
theorem dL_law_150 : decode cL_law 150 = .ok (.invokevirtual 13, 3) := by decide +kernel
theorem dL_law_153 : decode cL_law 153 = .ok (.aload_n 2, 1) := by decide +kernel
theorem dL_law_154 : decode cL_law 154 = .ok (.aload_n 0, 1) := by decide +kernel
theorem dL_law_155 : decode cL_law 155 = .ok (.iload_n 3, 1) := by decide +kernel
theorem dL_law_156 : decode cL_law 156 = .ok (.iconst 1, 1) := by decide +kernel
theorem dL_law_157 : decode cL_law 157 = .ok (.iadd, 1) := by decide +kernel
theorem dL_law_158 : decode cL_law 158 = .ok (.iaload, 1) := by decide +kernel
theorem dL_law_159 : decode cL_law 159 = .ok (.invokevirtual 17, 3) := by decide +kernel
theorem dL_law_162 : decode cL_law 162 = .ok (.if_icmp .eq 714, 3) := by decide +kernel
theorem dL_law_165 : decode cL_law 165 = .ok (.iconst 0, 1) := by decide +kernel
theorem dL_law_166 : decode cL_law 166 = .ok (.ireturn, 1) := by decide +kernel
theorem dL_law_167 : decode cL_law 167 = .ok (.aload_n 1, 1) := by decide +kernel
theorem dL_law_168 : decode cL_law 168 = .ok (.aload_n 0, 1) := by decide +kernel
theorem dL_law_169 : decode cL_law 169 = .ok (.iload_n 3, 1) := by decide +kernel
theorem dL_law_170 : decode cL_law 170 = .ok (.iconst 1, 1) := by decide +kernel
theorem dL_law_171 : decode cL_law 171 = .ok (.iadd, 1) := by decide +kernel
theorem dL_law_172 : decode cL_law 172 = .ok (.iaload, 1) := by decide +kernel
theorem dL_law_173 : decode cL_law 173 = .ok (.invokevirtual 18, 3) := by decide +kernel
theorem dL_law_176 : decode cL_law 176 = .ok (.aload_n 2, 1) := by decide +kernel
theorem dL_law_177 : decode cL_law 177 = .ok (.aload_n 0, 1) := by decide +kernel
theorem dL_law_178 : decode cL_law 178 = .ok (.iload_n 3, 1) := by decide +kernel
theorem dL_law_179 : decode cL_law 179 = .ok (.iconst 1, 1) := by decide +kernel
theorem dL_law_180 : decode cL_law 180 = .ok (.iadd, 1) := by decide +kernel
theorem dL_law_181 : decode cL_law 181 = .ok (.iaload, 1) := by decide +kernel
theorem dL_law_182 : decode cL_law 182 = .ok (.invokevirtual 21, 3) := by decide +kernel
theorem dL_law_185 : decode cL_law 185 = .ok (.if_icmp .eq 691, 3) := by decide +kernel
theorem dL_law_188 : decode cL_law 188 = .ok (.iconst 0, 1) := by decide +kernel
theorem dL_law_189 : decode cL_law 189 = .ok (.ireturn, 1) := by decide +kernel
theorem dL_law_190 : decode cL_law 190 = .ok (.aload_n 1, 1) := by decide +kernel
theorem dL_law_191 : decode cL_law 191 = .ok (.invokevirtual 22, 3) := by decide +kernel
theorem dL_law_194 : decode cL_law 194 = .ok (.aload_n 2, 1) := by decide +kernel
theorem dL_law_195 : decode cL_law 195 = .ok (.invokevirtual 26, 3) := by decide +kernel
theorem dL_law_198 : decode cL_law 198 = .ok (.if_icmp .eq 678, 3) := by decide +kernel
theorem dL_law_201 : decode cL_law 201 = .ok (.iconst 0, 1) := by decide +kernel
theorem dL_law_202 : decode cL_law 202 = .ok (.ireturn, 1) := by decide +kernel
theorem dL_law_203 : decode cL_law 203 = .ok (.aload_n 1, 1) := by decide +kernel
theorem dL_law_204 : decode cL_law 204 = .ok (.aload_n 0, 1) := by decide +kernel
theorem dL_law_205 : decode cL_law 205 = .ok (.iload_n 3, 1) := by decide +kernel
theorem dL_law_206 : decode cL_law 206 = .ok (.iconst 1, 1) := by decide +kernel
theorem dL_law_207 : decode cL_law 207 = .ok (.iadd, 1) := by decide +kernel
theorem dL_law_208 : decode cL_law 208 = .ok (.iaload, 1) := by decide +kernel
theorem dL_law_209 : decode cL_law 209 = .ok (.aload_n 0, 1) := by decide +kernel
theorem dL_law_210 : decode cL_law 210 = .ok (.iload_n 3, 1) := by decide +kernel
theorem dL_law_211 : decode cL_law 211 = .ok (.iconst 2, 1) := by decide +kernel
theorem dL_law_212 : decode cL_law 212 = .ok (.iadd, 1) := by decide +kernel
theorem dL_law_213 : decode cL_law 213 = .ok (.iaload, 1) := by decide +kernel
theorem dL_law_214 : decode cL_law 214 = .ok (.invokevirtual 27, 3) := by decide +kernel
theorem dL_law_217 : decode cL_law 217 = .ok (.aload_n 2, 1) := by decide +kernel
theorem dL_law_218 : decode cL_law 218 = .ok (.aload_n 0, 1) := by decide +kernel
theorem dL_law_219 : decode cL_law 219 = .ok (.iload_n 3, 1) := by decide +kernel
theorem dL_law_220 : decode cL_law 220 = .ok (.iconst 1, 1) := by decide +kernel
theorem dL_law_221 : decode cL_law 221 = .ok (.iadd, 1) := by decide +kernel
theorem dL_law_222 : decode cL_law 222 = .ok (.iaload, 1) := by decide +kernel
theorem dL_law_223 : decode cL_law 223 = .ok (.aload_n 0, 1) := by decide +kernel
theorem dL_law_224 : decode cL_law 224 = .ok (.iload_n 3, 1) := by decide +kernel
theorem dL_law_225 : decode cL_law 225 = .ok (.iconst 2, 1) := by decide +kernel
theorem dL_law_226 : decode cL_law 226 = .ok (.iadd, 1) := by decide +kernel
theorem dL_law_227 : decode cL_law 227 = .ok (.iaload, 1) := by decide +kernel
theorem dL_law_228 : decode cL_law 228 = .ok (.invokevirtual 31, 3) := by decide +kernel
theorem dL_law_231 : decode cL_law 231 = .ok (.if_icmp .eq 645, 3) := by decide +kernel
theorem dL_law_234 : decode cL_law 234 = .ok (.iconst 0, 1) := by decide +kernel
theorem dL_law_235 : decode cL_law 235 = .ok (.ireturn, 1) := by decide +kernel
theorem dL_law_236 : decode cL_law 236 = .ok (.aload_n 1, 1) := by decide +kernel
theorem dL_law_237 : decode cL_law 237 = .ok (.aload_n 0, 1) := by decide +kernel
theorem dL_law_238 : decode cL_law 238 = .ok (.iload_n 3, 1) := by decide +kernel
theorem dL_law_239 : decode cL_law 239 = .ok (.iconst 1, 1) := by decide +kernel
theorem dL_law_240 : decode cL_law 240 = .ok (.iadd, 1) := by decide +kernel
theorem dL_law_241 : decode cL_law 241 = .ok (.iaload, 1) := by decide +kernel
theorem dL_law_242 : decode cL_law 242 = .ok (.invokevirtual 32, 3) := by decide +kernel
theorem dL_law_245 : decode cL_law 245 = .ok (.aload_n 2, 1) := by decide +kernel
theorem dL_law_246 : decode cL_law 246 = .ok (.aload_n 0, 1) := by decide +kernel
theorem dL_law_247 : decode cL_law 247 = .ok (.iload_n 3, 1) := by decide +kernel
theorem dL_law_248 : decode cL_law 248 = .ok (.iconst 1, 1) := by decide +kernel
theorem dL_law_249 : decode cL_law 249 = .ok (.iadd, 1) := by decide +kernel
theorem dL_law_250 : decode cL_law 250 = .ok (.iaload, 1) := by decide +kernel
theorem dL_law_251 : decode cL_law 251 = .ok (.invokevirtual 35, 3) := by decide +kernel
theorem dL_law_254 : decode cL_law 254 = .ok (.if_icmp .eq 622, 3) := by decide +kernel
theorem dL_law_257 : decode cL_law 257 = .ok (.iconst 0, 1) := by decide +kernel
theorem dL_law_258 : decode cL_law 258 = .ok (.ireturn, 1) := by decide +kernel
theorem dL_law_259 : decode cL_law 259 = .ok (.aload_n 1, 1) := by decide +kernel
theorem dL_law_260 : decode cL_law 260 = .ok (.aload_n 0, 1) := by decide +kernel
theorem dL_law_261 : decode cL_law 261 = .ok (.iload_n 3, 1) := by decide +kernel
theorem dL_law_262 : decode cL_law 262 = .ok (.iconst 1, 1) := by decide +kernel
theorem dL_law_263 : decode cL_law 263 = .ok (.iadd, 1) := by decide +kernel
theorem dL_law_264 : decode cL_law 264 = .ok (.iaload, 1) := by decide +kernel
theorem dL_law_265 : decode cL_law 265 = .ok (.aload_n 0, 1) := by decide +kernel
theorem dL_law_266 : decode cL_law 266 = .ok (.iload_n 3, 1) := by decide +kernel
theorem dL_law_267 : decode cL_law 267 = .ok (.iconst 2, 1) := by decide +kernel
theorem dL_law_268 : decode cL_law 268 = .ok (.iadd, 1) := by decide +kernel
theorem dL_law_269 : decode cL_law 269 = .ok (.iaload, 1) := by decide +kernel
theorem dL_law_270 : decode cL_law 270 = .ok (.invokevirtual 36, 3) := by decide +kernel
theorem dL_law_273 : decode cL_law 273 = .ok (.aload_n 2, 1) := by decide +kernel
theorem dL_law_274 : decode cL_law 274 = .ok (.aload_n 0, 1) := by decide +kernel
theorem dL_law_275 : decode cL_law 275 = .ok (.iload_n 3, 1) := by decide +kernel
theorem dL_law_276 : decode cL_law 276 = .ok (.iconst 1, 1) := by decide +kernel
theorem dL_law_277 : decode cL_law 277 = .ok (.iadd, 1) := by decide +kernel
theorem dL_law_278 : decode cL_law 278 = .ok (.iaload, 1) := by decide +kernel
theorem dL_law_279 : decode cL_law 279 = .ok (.aload_n 0, 1) := by decide +kernel
theorem dL_law_280 : decode cL_law 280 = .ok (.iload_n 3, 1) := by decide +kernel
theorem dL_law_281 : decode cL_law 281 = .ok (.iconst 2, 1) := by decide +kernel
theorem dL_law_282 : decode cL_law 282 = .ok (.iadd, 1) := by decide +kernel
theorem dL_law_283 : decode cL_law 283 = .ok (.iaload, 1) := by decide +kernel
theorem dL_law_284 : decode cL_law 284 = .ok (.invokevirtual 39, 3) := by decide +kernel
theorem dL_law_287 : decode cL_law 287 = .ok (.if_icmp .eq 589, 3) := by decide +kernel
theorem dL_law_290 : decode cL_law 290 = .ok (.iconst 0, 1) := by decide +kernel
theorem dL_law_291 : decode cL_law 291 = .ok (.ireturn, 1) := by decide +kernel
theorem dL_law_292 : decode cL_law 292 = .ok (.aload_n 1, 1) := by decide +kernel
theorem dL_law_293 : decode cL_law 293 = .ok (.aload_n 0, 1) := by decide +kernel
theorem dL_law_294 : decode cL_law 294 = .ok (.iload_n 3, 1) := by decide +kernel
theorem dL_law_295 : decode cL_law 295 = .ok (.iconst 1, 1) := by decide +kernel
theorem dL_law_296 : decode cL_law 296 = .ok (.iadd, 1) := by decide +kernel
theorem dL_law_297 : decode cL_law 297 = .ok (.iaload, 1) := by decide +kernel
theorem dL_law_298 : decode cL_law 298 = .ok (.i2l, 1) := by decide +kernel
theorem dL_law_299 : decode cL_law 299 = .ok (.bipush 32, 2) := by decide +kernel
theorem dL_law_301 : decode cL_law 301 = .ok (.lshl, 1) := by decide +kernel
theorem dL_law_302 : decode cL_law 302 = .ok (.aload_n 0, 1) := by decide +kernel
theorem dL_law_303 : decode cL_law 303 = .ok (.iload_n 3, 1) := by decide +kernel
theorem dL_law_304 : decode cL_law 304 = .ok (.iconst 2, 1) := by decide +kernel
theorem dL_law_305 : decode cL_law 305 = .ok (.iadd, 1) := by decide +kernel
theorem dL_law_306 : decode cL_law 306 = .ok (.iaload, 1) := by decide +kernel
theorem dL_law_307 : decode cL_law 307 = .ok (.i2l, 1) := by decide +kernel
theorem dL_law_308 : decode cL_law 308 = .ok (.ldc2_w 40, 3) := by decide +kernel
theorem dL_law_311 : decode cL_law 311 = .ok (.land, 1) := by decide +kernel
theorem dL_law_312 : decode cL_law 312 = .ok (.lor, 1) := by decide +kernel
theorem dL_law_313 : decode cL_law 313 = .ok (.aload_n 0, 1) := by decide +kernel
theorem dL_law_314 : decode cL_law 314 = .ok (.iload_n 3, 1) := by decide +kernel
theorem dL_law_315 : decode cL_law 315 = .ok (.iconst 3, 1) := by decide +kernel
theorem dL_law_316 : decode cL_law 316 = .ok (.iadd, 1) := by decide +kernel
theorem dL_law_317 : decode cL_law 317 = .ok (.iaload, 1) := by decide +kernel
theorem dL_law_318 : decode cL_law 318 = .ok (.invokevirtual 42, 3) := by decide +kernel
theorem dL_law_321 : decode cL_law 321 = .ok (.aload_n 2, 1) := by decide +kernel
theorem dL_law_322 : decode cL_law 322 = .ok (.aload_n 0, 1) := by decide +kernel
theorem dL_law_323 : decode cL_law 323 = .ok (.iload_n 3, 1) := by decide +kernel
theorem dL_law_324 : decode cL_law 324 = .ok (.iconst 1, 1) := by decide +kernel
theorem dL_law_325 : decode cL_law 325 = .ok (.iadd, 1) := by decide +kernel
theorem dL_law_326 : decode cL_law 326 = .ok (.iaload, 1) := by decide +kernel
theorem dL_law_327 : decode cL_law 327 = .ok (.i2l, 1) := by decide +kernel
theorem dL_law_328 : decode cL_law 328 = .ok (.bipush 32, 2) := by decide +kernel
theorem dL_law_330 : decode cL_law 330 = .ok (.lshl, 1) := by decide +kernel
theorem dL_law_331 : decode cL_law 331 = .ok (.aload_n 0, 1) := by decide +kernel
theorem dL_law_332 : decode cL_law 332 = .ok (.iload_n 3, 1) := by decide +kernel
theorem dL_law_333 : decode cL_law 333 = .ok (.iconst 2, 1) := by decide +kernel
theorem dL_law_334 : decode cL_law 334 = .ok (.iadd, 1) := by decide +kernel
theorem dL_law_335 : decode cL_law 335 = .ok (.iaload, 1) := by decide +kernel
theorem dL_law_336 : decode cL_law 336 = .ok (.i2l, 1) := by decide +kernel
theorem dL_law_337 : decode cL_law 337 = .ok (.ldc2_w 40, 3) := by decide +kernel
theorem dL_law_340 : decode cL_law 340 = .ok (.land, 1) := by decide +kernel
theorem dL_law_341 : decode cL_law 341 = .ok (.lor, 1) := by decide +kernel
theorem dL_law_342 : decode cL_law 342 = .ok (.aload_n 0, 1) := by decide +kernel
theorem dL_law_343 : decode cL_law 343 = .ok (.iload_n 3, 1) := by decide +kernel
theorem dL_law_344 : decode cL_law 344 = .ok (.iconst 3, 1) := by decide +kernel
theorem dL_law_345 : decode cL_law 345 = .ok (.iadd, 1) := by decide +kernel
theorem dL_law_346 : decode cL_law 346 = .ok (.iaload, 1) := by decide +kernel
theorem dL_law_347 : decode cL_law 347 = .ok (.invokevirtual 46, 3) := by decide +kernel
theorem dL_law_350 : decode cL_law 350 = .ok (.if_icmp .eq 526, 3) := by decide +kernel
theorem dL_law_353 : decode cL_law 353 = .ok (.iconst 0, 1) := by decide +kernel
theorem dL_law_354 : decode cL_law 354 = .ok (.ireturn, 1) := by decide +kernel
theorem dL_law_355 : decode cL_law 355 = .ok (.aload_n 1, 1) := by decide +kernel
theorem dL_law_356 : decode cL_law 356 = .ok (.invokevirtual 47, 3) := by decide +kernel
theorem dL_law_359 : decode cL_law 359 = .ok (.aload_n 2, 1) := by decide +kernel
theorem dL_law_360 : decode cL_law 360 = .ok (.invokevirtual 50, 3) := by decide +kernel
theorem dL_law_363 : decode cL_law 363 = .ok (.if_icmp .eq 513, 3) := by decide +kernel
theorem dL_law_366 : decode cL_law 366 = .ok (.iconst 0, 1) := by decide +kernel
theorem dL_law_367 : decode cL_law 367 = .ok (.ireturn, 1) := by decide +kernel
theorem dL_law_368 : decode cL_law 368 = .ok (.aload_n 1, 1) := by decide +kernel
theorem dL_law_369 : decode cL_law 369 = .ok (.aload_n 0, 1) := by decide +kernel
theorem dL_law_370 : decode cL_law 370 = .ok (.iload_n 3, 1) := by decide +kernel
theorem dL_law_371 : decode cL_law 371 = .ok (.iconst 1, 1) := by decide +kernel
theorem dL_law_372 : decode cL_law 372 = .ok (.iadd, 1) := by decide +kernel
theorem dL_law_373 : decode cL_law 373 = .ok (.iaload, 1) := by decide +kernel
theorem dL_law_374 : decode cL_law 374 = .ok (.invokevirtual 51, 3) := by decide +kernel
theorem dL_law_377 : decode cL_law 377 = .ok (.aload_n 2, 1) := by decide +kernel
theorem dL_law_378 : decode cL_law 378 = .ok (.aload_n 0, 1) := by decide +kernel
theorem dL_law_379 : decode cL_law 379 = .ok (.iload_n 3, 1) := by decide +kernel
theorem dL_law_380 : decode cL_law 380 = .ok (.iconst 1, 1) := by decide +kernel
theorem dL_law_381 : decode cL_law 381 = .ok (.iadd, 1) := by decide +kernel
theorem dL_law_382 : decode cL_law 382 = .ok (.iaload, 1) := by decide +kernel
theorem dL_law_383 : decode cL_law 383 = .ok (.invokevirtual 54, 3) := by decide +kernel
theorem dL_law_386 : decode cL_law 386 = .ok (.if_icmp .eq 490, 3) := by decide +kernel
theorem dL_law_389 : decode cL_law 389 = .ok (.iconst 0, 1) := by decide +kernel
theorem dL_law_390 : decode cL_law 390 = .ok (.ireturn, 1) := by decide +kernel
theorem dL_law_391 : decode cL_law 391 = .ok (.aload_n 1, 1) := by decide +kernel
theorem dL_law_392 : decode cL_law 392 = .ok (.aload_n 0, 1) := by decide +kernel
theorem dL_law_393 : decode cL_law 393 = .ok (.iload_n 3, 1) := by decide +kernel
theorem dL_law_394 : decode cL_law 394 = .ok (.iconst 1, 1) := by decide +kernel
theorem dL_law_395 : decode cL_law 395 = .ok (.iadd, 1) := by decide +kernel
theorem dL_law_396 : decode cL_law 396 = .ok (.iaload, 1) := by decide +kernel
theorem dL_law_397 : decode cL_law 397 = .ok (.aload_n 0, 1) := by decide +kernel
theorem dL_law_398 : decode cL_law 398 = .ok (.iload_n 3, 1) := by decide +kernel
theorem dL_law_399 : decode cL_law 399 = .ok (.iconst 2, 1) := by decide +kernel
theorem dL_law_400 : decode cL_law 400 = .ok (.iadd, 1) := by decide +kernel
theorem dL_law_401 : decode cL_law 401 = .ok (.iaload, 1) := by decide +kernel
theorem dL_law_402 : decode cL_law 402 = .ok (.invokevirtual 55, 3) := by decide +kernel
theorem dL_law_405 : decode cL_law 405 = .ok (.aload_n 2, 1) := by decide +kernel
theorem dL_law_406 : decode cL_law 406 = .ok (.aload_n 0, 1) := by decide +kernel
theorem dL_law_407 : decode cL_law 407 = .ok (.iload_n 3, 1) := by decide +kernel
theorem dL_law_408 : decode cL_law 408 = .ok (.iconst 1, 1) := by decide +kernel
theorem dL_law_409 : decode cL_law 409 = .ok (.iadd, 1) := by decide +kernel
theorem dL_law_410 : decode cL_law 410 = .ok (.iaload, 1) := by decide +kernel
theorem dL_law_411 : decode cL_law 411 = .ok (.aload_n 0, 1) := by decide +kernel
theorem dL_law_412 : decode cL_law 412 = .ok (.iload_n 3, 1) := by decide +kernel
theorem dL_law_413 : decode cL_law 413 = .ok (.iconst 2, 1) := by decide +kernel
theorem dL_law_414 : decode cL_law 414 = .ok (.iadd, 1) := by decide +kernel
theorem dL_law_415 : decode cL_law 415 = .ok (.iaload, 1) := by decide +kernel
theorem dL_law_416 : decode cL_law 416 = .ok (.invokevirtual 58, 3) := by decide +kernel
theorem dL_law_419 : decode cL_law 419 = .ok (.if_icmp .eq 457, 3) := by decide +kernel
theorem dL_law_422 : decode cL_law 422 = .ok (.iconst 0, 1) := by decide +kernel
theorem dL_law_423 : decode cL_law 423 = .ok (.ireturn, 1) := by decide +kernel
theorem dL_law_424 : decode cL_law 424 = .ok (.aload_n 1, 1) := by decide +kernel
theorem dL_law_425 : decode cL_law 425 = .ok (.aload_n 0, 1) := by decide +kernel
theorem dL_law_426 : decode cL_law 426 = .ok (.iload_n 3, 1) := by decide +kernel
theorem dL_law_427 : decode cL_law 427 = .ok (.iconst 1, 1) := by decide +kernel
theorem dL_law_428 : decode cL_law 428 = .ok (.iadd, 1) := by decide +kernel
theorem dL_law_429 : decode cL_law 429 = .ok (.iaload, 1) := by decide +kernel
theorem dL_law_430 : decode cL_law 430 = .ok (.invokevirtual 59, 3) := by decide +kernel
theorem dL_law_433 : decode cL_law 433 = .ok (.aload_n 2, 1) := by decide +kernel
theorem dL_law_434 : decode cL_law 434 = .ok (.aload_n 0, 1) := by decide +kernel
theorem dL_law_435 : decode cL_law 435 = .ok (.iload_n 3, 1) := by decide +kernel
theorem dL_law_436 : decode cL_law 436 = .ok (.iconst 1, 1) := by decide +kernel
theorem dL_law_437 : decode cL_law 437 = .ok (.iadd, 1) := by decide +kernel
theorem dL_law_438 : decode cL_law 438 = .ok (.iaload, 1) := by decide +kernel
theorem dL_law_439 : decode cL_law 439 = .ok (.invokevirtual 62, 3) := by decide +kernel
theorem dL_law_442 : decode cL_law 442 = .ok (.if_icmp .eq 434, 3) := by decide +kernel
theorem dL_law_445 : decode cL_law 445 = .ok (.iconst 0, 1) := by decide +kernel
theorem dL_law_446 : decode cL_law 446 = .ok (.ireturn, 1) := by decide +kernel
theorem dL_law_447 : decode cL_law 447 = .ok (.aload_n 1, 1) := by decide +kernel
theorem dL_law_448 : decode cL_law 448 = .ok (.aload_n 0, 1) := by decide +kernel
theorem dL_law_449 : decode cL_law 449 = .ok (.iload_n 3, 1) := by decide +kernel
theorem dL_law_450 : decode cL_law 450 = .ok (.iconst 1, 1) := by decide +kernel
theorem dL_law_451 : decode cL_law 451 = .ok (.iadd, 1) := by decide +kernel
theorem dL_law_452 : decode cL_law 452 = .ok (.iaload, 1) := by decide +kernel
theorem dL_law_453 : decode cL_law 453 = .ok (.aload_n 0, 1) := by decide +kernel
theorem dL_law_454 : decode cL_law 454 = .ok (.iload_n 3, 1) := by decide +kernel
theorem dL_law_455 : decode cL_law 455 = .ok (.iconst 2, 1) := by decide +kernel
theorem dL_law_456 : decode cL_law 456 = .ok (.iadd, 1) := by decide +kernel
theorem dL_law_457 : decode cL_law 457 = .ok (.iaload, 1) := by decide +kernel
theorem dL_law_458 : decode cL_law 458 = .ok (.invokevirtual 63, 3) := by decide +kernel
theorem dL_law_461 : decode cL_law 461 = .ok (.aload_n 2, 1) := by decide +kernel
theorem dL_law_462 : decode cL_law 462 = .ok (.aload_n 0, 1) := by decide +kernel
theorem dL_law_463 : decode cL_law 463 = .ok (.iload_n 3, 1) := by decide +kernel
theorem dL_law_464 : decode cL_law 464 = .ok (.iconst 1, 1) := by decide +kernel
theorem dL_law_465 : decode cL_law 465 = .ok (.iadd, 1) := by decide +kernel
theorem dL_law_466 : decode cL_law 466 = .ok (.iaload, 1) := by decide +kernel
theorem dL_law_467 : decode cL_law 467 = .ok (.aload_n 0, 1) := by decide +kernel
theorem dL_law_468 : decode cL_law 468 = .ok (.iload_n 3, 1) := by decide +kernel
theorem dL_law_469 : decode cL_law 469 = .ok (.iconst 2, 1) := by decide +kernel
theorem dL_law_470 : decode cL_law 470 = .ok (.iadd, 1) := by decide +kernel
theorem dL_law_471 : decode cL_law 471 = .ok (.iaload, 1) := by decide +kernel
theorem dL_law_472 : decode cL_law 472 = .ok (.invokevirtual 66, 3) := by decide +kernel
theorem dL_law_475 : decode cL_law 475 = .ok (.if_icmp .eq 401, 3) := by decide +kernel
theorem dL_law_478 : decode cL_law 478 = .ok (.iconst 0, 1) := by decide +kernel
theorem dL_law_479 : decode cL_law 479 = .ok (.ireturn, 1) := by decide +kernel
theorem dL_law_480 : decode cL_law 480 = .ok (.aload_n 1, 1) := by decide +kernel
theorem dL_law_481 : decode cL_law 481 = .ok (.aload_n 0, 1) := by decide +kernel
theorem dL_law_482 : decode cL_law 482 = .ok (.iload_n 3, 1) := by decide +kernel
theorem dL_law_483 : decode cL_law 483 = .ok (.iconst 1, 1) := by decide +kernel
theorem dL_law_484 : decode cL_law 484 = .ok (.iadd, 1) := by decide +kernel
theorem dL_law_485 : decode cL_law 485 = .ok (.iaload, 1) := by decide +kernel
theorem dL_law_486 : decode cL_law 486 = .ok (.aload_n 0, 1) := by decide +kernel
theorem dL_law_487 : decode cL_law 487 = .ok (.iload_n 3, 1) := by decide +kernel
theorem dL_law_488 : decode cL_law 488 = .ok (.iconst 2, 1) := by decide +kernel
theorem dL_law_489 : decode cL_law 489 = .ok (.iadd, 1) := by decide +kernel
theorem dL_law_490 : decode cL_law 490 = .ok (.iaload, 1) := by decide +kernel
theorem dL_law_491 : decode cL_law 491 = .ok (.invokevirtual 67, 3) := by decide +kernel
theorem dL_law_494 : decode cL_law 494 = .ok (.aload_n 2, 1) := by decide +kernel
theorem dL_law_495 : decode cL_law 495 = .ok (.aload_n 0, 1) := by decide +kernel
theorem dL_law_496 : decode cL_law 496 = .ok (.iload_n 3, 1) := by decide +kernel
theorem dL_law_497 : decode cL_law 497 = .ok (.iconst 1, 1) := by decide +kernel
theorem dL_law_498 : decode cL_law 498 = .ok (.iadd, 1) := by decide +kernel
theorem dL_law_499 : decode cL_law 499 = .ok (.iaload, 1) := by decide +kernel
theorem dL_law_500 : decode cL_law 500 = .ok (.aload_n 0, 1) := by decide +kernel
theorem dL_law_501 : decode cL_law 501 = .ok (.iload_n 3, 1) := by decide +kernel
theorem dL_law_502 : decode cL_law 502 = .ok (.iconst 2, 1) := by decide +kernel
theorem dL_law_503 : decode cL_law 503 = .ok (.iadd, 1) := by decide +kernel
theorem dL_law_504 : decode cL_law 504 = .ok (.iaload, 1) := by decide +kernel
theorem dL_law_505 : decode cL_law 505 = .ok (.invokevirtual 70, 3) := by decide +kernel
theorem dL_law_508 : decode cL_law 508 = .ok (.if_icmp .eq 368, 3) := by decide +kernel
theorem dL_law_511 : decode cL_law 511 = .ok (.iconst 0, 1) := by decide +kernel
theorem dL_law_512 : decode cL_law 512 = .ok (.ireturn, 1) := by decide +kernel
theorem dL_law_513 : decode cL_law 513 = .ok (.aload_n 1, 1) := by decide +kernel
theorem dL_law_514 : decode cL_law 514 = .ok (.aload_n 0, 1) := by decide +kernel
theorem dL_law_515 : decode cL_law 515 = .ok (.iload_n 3, 1) := by decide +kernel
theorem dL_law_516 : decode cL_law 516 = .ok (.iconst 1, 1) := by decide +kernel
theorem dL_law_517 : decode cL_law 517 = .ok (.iadd, 1) := by decide +kernel
theorem dL_law_518 : decode cL_law 518 = .ok (.iaload, 1) := by decide +kernel
theorem dL_law_519 : decode cL_law 519 = .ok (.aload_n 0, 1) := by decide +kernel
theorem dL_law_520 : decode cL_law 520 = .ok (.iload_n 3, 1) := by decide +kernel
theorem dL_law_521 : decode cL_law 521 = .ok (.iconst 2, 1) := by decide +kernel
theorem dL_law_522 : decode cL_law 522 = .ok (.iadd, 1) := by decide +kernel
theorem dL_law_523 : decode cL_law 523 = .ok (.iaload, 1) := by decide +kernel
theorem dL_law_524 : decode cL_law 524 = .ok (.aload_n 0, 1) := by decide +kernel
theorem dL_law_525 : decode cL_law 525 = .ok (.iload_n 3, 1) := by decide +kernel
theorem dL_law_526 : decode cL_law 526 = .ok (.iconst 3, 1) := by decide +kernel
theorem dL_law_527 : decode cL_law 527 = .ok (.iadd, 1) := by decide +kernel
theorem dL_law_528 : decode cL_law 528 = .ok (.iaload, 1) := by decide +kernel
theorem dL_law_529 : decode cL_law 529 = .ok (.invokevirtual 71, 3) := by decide +kernel
theorem dL_law_532 : decode cL_law 532 = .ok (.aload_n 2, 1) := by decide +kernel
theorem dL_law_533 : decode cL_law 533 = .ok (.aload_n 0, 1) := by decide +kernel
theorem dL_law_534 : decode cL_law 534 = .ok (.iload_n 3, 1) := by decide +kernel
theorem dL_law_535 : decode cL_law 535 = .ok (.iconst 1, 1) := by decide +kernel
theorem dL_law_536 : decode cL_law 536 = .ok (.iadd, 1) := by decide +kernel
theorem dL_law_537 : decode cL_law 537 = .ok (.iaload, 1) := by decide +kernel
theorem dL_law_538 : decode cL_law 538 = .ok (.aload_n 0, 1) := by decide +kernel
theorem dL_law_539 : decode cL_law 539 = .ok (.iload_n 3, 1) := by decide +kernel
theorem dL_law_540 : decode cL_law 540 = .ok (.iconst 2, 1) := by decide +kernel
theorem dL_law_541 : decode cL_law 541 = .ok (.iadd, 1) := by decide +kernel
theorem dL_law_542 : decode cL_law 542 = .ok (.iaload, 1) := by decide +kernel
theorem dL_law_543 : decode cL_law 543 = .ok (.aload_n 0, 1) := by decide +kernel
theorem dL_law_544 : decode cL_law 544 = .ok (.iload_n 3, 1) := by decide +kernel
theorem dL_law_545 : decode cL_law 545 = .ok (.iconst 3, 1) := by decide +kernel
theorem dL_law_546 : decode cL_law 546 = .ok (.iadd, 1) := by decide +kernel
theorem dL_law_547 : decode cL_law 547 = .ok (.iaload, 1) := by decide +kernel
theorem dL_law_548 : decode cL_law 548 = .ok (.invokevirtual 75, 3) := by decide +kernel
theorem dL_law_551 : decode cL_law 551 = .ok (.if_icmp .eq 325, 3) := by decide +kernel
theorem dL_law_554 : decode cL_law 554 = .ok (.iconst 0, 1) := by decide +kernel
theorem dL_law_555 : decode cL_law 555 = .ok (.ireturn, 1) := by decide +kernel
theorem dL_law_556 : decode cL_law 556 = .ok (.aload_n 1, 1) := by decide +kernel
theorem dL_law_557 : decode cL_law 557 = .ok (.aload_n 0, 1) := by decide +kernel
theorem dL_law_558 : decode cL_law 558 = .ok (.iload_n 3, 1) := by decide +kernel
theorem dL_law_559 : decode cL_law 559 = .ok (.iconst 1, 1) := by decide +kernel
theorem dL_law_560 : decode cL_law 560 = .ok (.iadd, 1) := by decide +kernel
theorem dL_law_561 : decode cL_law 561 = .ok (.iaload, 1) := by decide +kernel
theorem dL_law_562 : decode cL_law 562 = .ok (.invokevirtual 76, 3) := by decide +kernel
theorem dL_law_565 : decode cL_law 565 = .ok (.aload_n 2, 1) := by decide +kernel
theorem dL_law_566 : decode cL_law 566 = .ok (.aload_n 0, 1) := by decide +kernel
theorem dL_law_567 : decode cL_law 567 = .ok (.iload_n 3, 1) := by decide +kernel
theorem dL_law_568 : decode cL_law 568 = .ok (.iconst 1, 1) := by decide +kernel
theorem dL_law_569 : decode cL_law 569 = .ok (.iadd, 1) := by decide +kernel
theorem dL_law_570 : decode cL_law 570 = .ok (.iaload, 1) := by decide +kernel
theorem dL_law_571 : decode cL_law 571 = .ok (.invokevirtual 79, 3) := by decide +kernel
theorem dL_law_574 : decode cL_law 574 = .ok (.if_icmp .eq 302, 3) := by decide +kernel
theorem dL_law_577 : decode cL_law 577 = .ok (.iconst 0, 1) := by decide +kernel
theorem dL_law_578 : decode cL_law 578 = .ok (.ireturn, 1) := by decide +kernel
theorem dL_law_579 : decode cL_law 579 = .ok (.aload_n 1, 1) := by decide +kernel
theorem dL_law_580 : decode cL_law 580 = .ok (.aload_n 0, 1) := by decide +kernel
theorem dL_law_581 : decode cL_law 581 = .ok (.iload_n 3, 1) := by decide +kernel
theorem dL_law_582 : decode cL_law 582 = .ok (.iconst 1, 1) := by decide +kernel
theorem dL_law_583 : decode cL_law 583 = .ok (.iadd, 1) := by decide +kernel
theorem dL_law_584 : decode cL_law 584 = .ok (.iaload, 1) := by decide +kernel
theorem dL_law_585 : decode cL_law 585 = .ok (.aload_n 0, 1) := by decide +kernel
theorem dL_law_586 : decode cL_law 586 = .ok (.iload_n 3, 1) := by decide +kernel
theorem dL_law_587 : decode cL_law 587 = .ok (.iconst 2, 1) := by decide +kernel
theorem dL_law_588 : decode cL_law 588 = .ok (.iadd, 1) := by decide +kernel
theorem dL_law_589 : decode cL_law 589 = .ok (.iaload, 1) := by decide +kernel
theorem dL_law_590 : decode cL_law 590 = .ok (.invokevirtual 80, 3) := by decide +kernel
theorem dL_law_593 : decode cL_law 593 = .ok (.aload_n 2, 1) := by decide +kernel
theorem dL_law_594 : decode cL_law 594 = .ok (.aload_n 0, 1) := by decide +kernel
theorem dL_law_595 : decode cL_law 595 = .ok (.iload_n 3, 1) := by decide +kernel
theorem dL_law_596 : decode cL_law 596 = .ok (.iconst 1, 1) := by decide +kernel
theorem dL_law_597 : decode cL_law 597 = .ok (.iadd, 1) := by decide +kernel
theorem dL_law_598 : decode cL_law 598 = .ok (.iaload, 1) := by decide +kernel
theorem dL_law_599 : decode cL_law 599 = .ok (.aload_n 0, 1) := by decide +kernel
theorem dL_law_600 : decode cL_law 600 = .ok (.iload_n 3, 1) := by decide +kernel
theorem dL_law_601 : decode cL_law 601 = .ok (.iconst 2, 1) := by decide +kernel
theorem dL_law_602 : decode cL_law 602 = .ok (.iadd, 1) := by decide +kernel
theorem dL_law_603 : decode cL_law 603 = .ok (.iaload, 1) := by decide +kernel
theorem dL_law_604 : decode cL_law 604 = .ok (.invokevirtual 83, 3) := by decide +kernel
theorem dL_law_607 : decode cL_law 607 = .ok (.if_icmp .eq 269, 3) := by decide +kernel
theorem dL_law_610 : decode cL_law 610 = .ok (.iconst 0, 1) := by decide +kernel
theorem dL_law_611 : decode cL_law 611 = .ok (.ireturn, 1) := by decide +kernel
theorem dL_law_612 : decode cL_law 612 = .ok (.aload_n 1, 1) := by decide +kernel
theorem dL_law_613 : decode cL_law 613 = .ok (.aload_n 0, 1) := by decide +kernel
theorem dL_law_614 : decode cL_law 614 = .ok (.iload_n 3, 1) := by decide +kernel
theorem dL_law_615 : decode cL_law 615 = .ok (.iconst 1, 1) := by decide +kernel
theorem dL_law_616 : decode cL_law 616 = .ok (.iadd, 1) := by decide +kernel
theorem dL_law_617 : decode cL_law 617 = .ok (.iaload, 1) := by decide +kernel
theorem dL_law_618 : decode cL_law 618 = .ok (.invokevirtual 84, 3) := by decide +kernel
theorem dL_law_621 : decode cL_law 621 = .ok (.aload_n 2, 1) := by decide +kernel
theorem dL_law_622 : decode cL_law 622 = .ok (.aload_n 0, 1) := by decide +kernel
theorem dL_law_623 : decode cL_law 623 = .ok (.iload_n 3, 1) := by decide +kernel
theorem dL_law_624 : decode cL_law 624 = .ok (.iconst 1, 1) := by decide +kernel
theorem dL_law_625 : decode cL_law 625 = .ok (.iadd, 1) := by decide +kernel
theorem dL_law_626 : decode cL_law 626 = .ok (.iaload, 1) := by decide +kernel
theorem dL_law_627 : decode cL_law 627 = .ok (.invokevirtual 87, 3) := by decide +kernel
theorem dL_law_630 : decode cL_law 630 = .ok (.if_icmp .eq 246, 3) := by decide +kernel
theorem dL_law_633 : decode cL_law 633 = .ok (.iconst 0, 1) := by decide +kernel
theorem dL_law_634 : decode cL_law 634 = .ok (.ireturn, 1) := by decide +kernel
theorem dL_law_635 : decode cL_law 635 = .ok (.aload_n 1, 1) := by decide +kernel
theorem dL_law_636 : decode cL_law 636 = .ok (.aload_n 0, 1) := by decide +kernel
theorem dL_law_637 : decode cL_law 637 = .ok (.iload_n 3, 1) := by decide +kernel
theorem dL_law_638 : decode cL_law 638 = .ok (.iconst 1, 1) := by decide +kernel
theorem dL_law_639 : decode cL_law 639 = .ok (.iadd, 1) := by decide +kernel
theorem dL_law_640 : decode cL_law 640 = .ok (.iaload, 1) := by decide +kernel
theorem dL_law_641 : decode cL_law 641 = .ok (.invokevirtual 88, 3) := by decide +kernel
theorem dL_law_644 : decode cL_law 644 = .ok (.aload_n 2, 1) := by decide +kernel
theorem dL_law_645 : decode cL_law 645 = .ok (.aload_n 0, 1) := by decide +kernel
theorem dL_law_646 : decode cL_law 646 = .ok (.iload_n 3, 1) := by decide +kernel
theorem dL_law_647 : decode cL_law 647 = .ok (.iconst 1, 1) := by decide +kernel
theorem dL_law_648 : decode cL_law 648 = .ok (.iadd, 1) := by decide +kernel
theorem dL_law_649 : decode cL_law 649 = .ok (.iaload, 1) := by decide +kernel
theorem dL_law_650 : decode cL_law 650 = .ok (.invokevirtual 91, 3) := by decide +kernel
theorem dL_law_653 : decode cL_law 653 = .ok (.if_icmp .eq 223, 3) := by decide +kernel
theorem dL_law_656 : decode cL_law 656 = .ok (.iconst 0, 1) := by decide +kernel
theorem dL_law_657 : decode cL_law 657 = .ok (.ireturn, 1) := by decide +kernel
theorem dL_law_658 : decode cL_law 658 = .ok (.aload_n 1, 1) := by decide +kernel
theorem dL_law_659 : decode cL_law 659 = .ok (.aload_n 0, 1) := by decide +kernel
theorem dL_law_660 : decode cL_law 660 = .ok (.iload_n 3, 1) := by decide +kernel
theorem dL_law_661 : decode cL_law 661 = .ok (.iconst 1, 1) := by decide +kernel
theorem dL_law_662 : decode cL_law 662 = .ok (.iadd, 1) := by decide +kernel
theorem dL_law_663 : decode cL_law 663 = .ok (.iaload, 1) := by decide +kernel
theorem dL_law_664 : decode cL_law 664 = .ok (.invokevirtual 92, 3) := by decide +kernel
theorem dL_law_667 : decode cL_law 667 = .ok (.aload_n 2, 1) := by decide +kernel
theorem dL_law_668 : decode cL_law 668 = .ok (.aload_n 0, 1) := by decide +kernel
theorem dL_law_669 : decode cL_law 669 = .ok (.iload_n 3, 1) := by decide +kernel
theorem dL_law_670 : decode cL_law 670 = .ok (.iconst 1, 1) := by decide +kernel
theorem dL_law_671 : decode cL_law 671 = .ok (.iadd, 1) := by decide +kernel
theorem dL_law_672 : decode cL_law 672 = .ok (.iaload, 1) := by decide +kernel
theorem dL_law_673 : decode cL_law 673 = .ok (.invokevirtual 95, 3) := by decide +kernel
theorem dL_law_676 : decode cL_law 676 = .ok (.if_icmp .eq 200, 3) := by decide +kernel
theorem dL_law_679 : decode cL_law 679 = .ok (.iconst 0, 1) := by decide +kernel
theorem dL_law_680 : decode cL_law 680 = .ok (.ireturn, 1) := by decide +kernel
theorem dL_law_681 : decode cL_law 681 = .ok (.aload_n 1, 1) := by decide +kernel
theorem dL_law_682 : decode cL_law 682 = .ok (.aload_n 0, 1) := by decide +kernel
theorem dL_law_683 : decode cL_law 683 = .ok (.iload_n 3, 1) := by decide +kernel
theorem dL_law_684 : decode cL_law 684 = .ok (.iconst 1, 1) := by decide +kernel
theorem dL_law_685 : decode cL_law 685 = .ok (.iadd, 1) := by decide +kernel
theorem dL_law_686 : decode cL_law 686 = .ok (.iaload, 1) := by decide +kernel
theorem dL_law_687 : decode cL_law 687 = .ok (.invokevirtual 96, 3) := by decide +kernel
theorem dL_law_690 : decode cL_law 690 = .ok (.aload_n 2, 1) := by decide +kernel
theorem dL_law_691 : decode cL_law 691 = .ok (.aload_n 0, 1) := by decide +kernel
theorem dL_law_692 : decode cL_law 692 = .ok (.iload_n 3, 1) := by decide +kernel
theorem dL_law_693 : decode cL_law 693 = .ok (.iconst 1, 1) := by decide +kernel
theorem dL_law_694 : decode cL_law 694 = .ok (.iadd, 1) := by decide +kernel
theorem dL_law_695 : decode cL_law 695 = .ok (.iaload, 1) := by decide +kernel
theorem dL_law_696 : decode cL_law 696 = .ok (.invokevirtual 99, 3) := by decide +kernel
theorem dL_law_699 : decode cL_law 699 = .ok (.if_icmp .eq 177, 3) := by decide +kernel
theorem dL_law_702 : decode cL_law 702 = .ok (.iconst 0, 1) := by decide +kernel
theorem dL_law_703 : decode cL_law 703 = .ok (.ireturn, 1) := by decide +kernel
theorem dL_law_704 : decode cL_law 704 = .ok (.aload_n 1, 1) := by decide +kernel
theorem dL_law_705 : decode cL_law 705 = .ok (.aload_n 0, 1) := by decide +kernel
theorem dL_law_706 : decode cL_law 706 = .ok (.iload_n 3, 1) := by decide +kernel
theorem dL_law_707 : decode cL_law 707 = .ok (.iconst 1, 1) := by decide +kernel
theorem dL_law_708 : decode cL_law 708 = .ok (.iadd, 1) := by decide +kernel
theorem dL_law_709 : decode cL_law 709 = .ok (.iaload, 1) := by decide +kernel
theorem dL_law_710 : decode cL_law 710 = .ok (.aload_n 0, 1) := by decide +kernel
theorem dL_law_711 : decode cL_law 711 = .ok (.iload_n 3, 1) := by decide +kernel
theorem dL_law_712 : decode cL_law 712 = .ok (.iconst 2, 1) := by decide +kernel
theorem dL_law_713 : decode cL_law 713 = .ok (.iadd, 1) := by decide +kernel
theorem dL_law_714 : decode cL_law 714 = .ok (.iaload, 1) := by decide +kernel
theorem dL_law_715 : decode cL_law 715 = .ok (.aload_n 0, 1) := by decide +kernel
theorem dL_law_716 : decode cL_law 716 = .ok (.iload_n 3, 1) := by decide +kernel
theorem dL_law_717 : decode cL_law 717 = .ok (.iconst 3, 1) := by decide +kernel
theorem dL_law_718 : decode cL_law 718 = .ok (.iadd, 1) := by decide +kernel
theorem dL_law_719 : decode cL_law 719 = .ok (.iaload, 1) := by decide +kernel
theorem dL_law_720 : decode cL_law 720 = .ok (.aload_n 0, 1) := by decide +kernel
theorem dL_law_721 : decode cL_law 721 = .ok (.iload_n 3, 1) := by decide +kernel
theorem dL_law_722 : decode cL_law 722 = .ok (.iconst 4, 1) := by decide +kernel
theorem dL_law_723 : decode cL_law 723 = .ok (.iadd, 1) := by decide +kernel
theorem dL_law_724 : decode cL_law 724 = .ok (.iaload, 1) := by decide +kernel
theorem dL_law_725 : decode cL_law 725 = .ok (.invokevirtual 100, 3) := by decide +kernel
theorem dL_law_728 : decode cL_law 728 = .ok (.aload_n 2, 1) := by decide +kernel
theorem dL_law_729 : decode cL_law 729 = .ok (.aload_n 0, 1) := by decide +kernel
theorem dL_law_730 : decode cL_law 730 = .ok (.iload_n 3, 1) := by decide +kernel
theorem dL_law_731 : decode cL_law 731 = .ok (.iconst 1, 1) := by decide +kernel
theorem dL_law_732 : decode cL_law 732 = .ok (.iadd, 1) := by decide +kernel
theorem dL_law_733 : decode cL_law 733 = .ok (.iaload, 1) := by decide +kernel
theorem dL_law_734 : decode cL_law 734 = .ok (.aload_n 0, 1) := by decide +kernel
theorem dL_law_735 : decode cL_law 735 = .ok (.iload_n 3, 1) := by decide +kernel
theorem dL_law_736 : decode cL_law 736 = .ok (.iconst 2, 1) := by decide +kernel
theorem dL_law_737 : decode cL_law 737 = .ok (.iadd, 1) := by decide +kernel
theorem dL_law_738 : decode cL_law 738 = .ok (.iaload, 1) := by decide +kernel
theorem dL_law_739 : decode cL_law 739 = .ok (.aload_n 0, 1) := by decide +kernel
theorem dL_law_740 : decode cL_law 740 = .ok (.iload_n 3, 1) := by decide +kernel
theorem dL_law_741 : decode cL_law 741 = .ok (.iconst 3, 1) := by decide +kernel
theorem dL_law_742 : decode cL_law 742 = .ok (.iadd, 1) := by decide +kernel
theorem dL_law_743 : decode cL_law 743 = .ok (.iaload, 1) := by decide +kernel
theorem dL_law_744 : decode cL_law 744 = .ok (.aload_n 0, 1) := by decide +kernel
theorem dL_law_745 : decode cL_law 745 = .ok (.iload_n 3, 1) := by decide +kernel
theorem dL_law_746 : decode cL_law 746 = .ok (.iconst 4, 1) := by decide +kernel
theorem dL_law_747 : decode cL_law 747 = .ok (.iadd, 1) := by decide +kernel
theorem dL_law_748 : decode cL_law 748 = .ok (.iaload, 1) := by decide +kernel
theorem dL_law_749 : decode cL_law 749 = .ok (.invokevirtual 104, 3) := by decide +kernel
theorem dL_law_752 : decode cL_law 752 = .ok (.if_icmp .eq 124, 3) := by decide +kernel
theorem dL_law_755 : decode cL_law 755 = .ok (.iconst 0, 1) := by decide +kernel
theorem dL_law_756 : decode cL_law 756 = .ok (.ireturn, 1) := by decide +kernel
theorem dL_law_757 : decode cL_law 757 = .ok (.aload_n 1, 1) := by decide +kernel
theorem dL_law_758 : decode cL_law 758 = .ok (.aload_n 0, 1) := by decide +kernel
theorem dL_law_759 : decode cL_law 759 = .ok (.iload_n 3, 1) := by decide +kernel
theorem dL_law_760 : decode cL_law 760 = .ok (.iconst 1, 1) := by decide +kernel
theorem dL_law_761 : decode cL_law 761 = .ok (.iadd, 1) := by decide +kernel
theorem dL_law_762 : decode cL_law 762 = .ok (.iaload, 1) := by decide +kernel
theorem dL_law_763 : decode cL_law 763 = .ok (.aload_n 0, 1) := by decide +kernel
theorem dL_law_764 : decode cL_law 764 = .ok (.iload_n 3, 1) := by decide +kernel
theorem dL_law_765 : decode cL_law 765 = .ok (.iconst 2, 1) := by decide +kernel
theorem dL_law_766 : decode cL_law 766 = .ok (.iadd, 1) := by decide +kernel
theorem dL_law_767 : decode cL_law 767 = .ok (.iaload, 1) := by decide +kernel
theorem dL_law_768 : decode cL_law 768 = .ok (.aload_n 0, 1) := by decide +kernel
theorem dL_law_769 : decode cL_law 769 = .ok (.iload_n 3, 1) := by decide +kernel
theorem dL_law_770 : decode cL_law 770 = .ok (.iconst 3, 1) := by decide +kernel
theorem dL_law_771 : decode cL_law 771 = .ok (.iadd, 1) := by decide +kernel
theorem dL_law_772 : decode cL_law 772 = .ok (.iaload, 1) := by decide +kernel
theorem dL_law_773 : decode cL_law 773 = .ok (.aload_n 0, 1) := by decide +kernel
theorem dL_law_774 : decode cL_law 774 = .ok (.iload_n 3, 1) := by decide +kernel
theorem dL_law_775 : decode cL_law 775 = .ok (.iconst 4, 1) := by decide +kernel
theorem dL_law_776 : decode cL_law 776 = .ok (.iadd, 1) := by decide +kernel
theorem dL_law_777 : decode cL_law 777 = .ok (.iaload, 1) := by decide +kernel
theorem dL_law_778 : decode cL_law 778 = .ok (.aload_n 0, 1) := by decide +kernel
theorem dL_law_779 : decode cL_law 779 = .ok (.iload_n 3, 1) := by decide +kernel
theorem dL_law_780 : decode cL_law 780 = .ok (.iconst 5, 1) := by decide +kernel
theorem dL_law_781 : decode cL_law 781 = .ok (.iadd, 1) := by decide +kernel
theorem dL_law_782 : decode cL_law 782 = .ok (.iaload, 1) := by decide +kernel
theorem dL_law_783 : decode cL_law 783 = .ok (.invokevirtual 105, 3) := by decide +kernel
theorem dL_law_786 : decode cL_law 786 = .ok (.aload_n 2, 1) := by decide +kernel
theorem dL_law_787 : decode cL_law 787 = .ok (.aload_n 0, 1) := by decide +kernel
theorem dL_law_788 : decode cL_law 788 = .ok (.iload_n 3, 1) := by decide +kernel
theorem dL_law_789 : decode cL_law 789 = .ok (.iconst 1, 1) := by decide +kernel
theorem dL_law_790 : decode cL_law 790 = .ok (.iadd, 1) := by decide +kernel
theorem dL_law_791 : decode cL_law 791 = .ok (.iaload, 1) := by decide +kernel
theorem dL_law_792 : decode cL_law 792 = .ok (.aload_n 0, 1) := by decide +kernel
theorem dL_law_793 : decode cL_law 793 = .ok (.iload_n 3, 1) := by decide +kernel
theorem dL_law_794 : decode cL_law 794 = .ok (.iconst 2, 1) := by decide +kernel
theorem dL_law_795 : decode cL_law 795 = .ok (.iadd, 1) := by decide +kernel
theorem dL_law_796 : decode cL_law 796 = .ok (.iaload, 1) := by decide +kernel
theorem dL_law_797 : decode cL_law 797 = .ok (.aload_n 0, 1) := by decide +kernel
theorem dL_law_798 : decode cL_law 798 = .ok (.iload_n 3, 1) := by decide +kernel
theorem dL_law_799 : decode cL_law 799 = .ok (.iconst 3, 1) := by decide +kernel
theorem dL_law_800 : decode cL_law 800 = .ok (.iadd, 1) := by decide +kernel
theorem dL_law_801 : decode cL_law 801 = .ok (.iaload, 1) := by decide +kernel
theorem dL_law_802 : decode cL_law 802 = .ok (.aload_n 0, 1) := by decide +kernel
theorem dL_law_803 : decode cL_law 803 = .ok (.iload_n 3, 1) := by decide +kernel
theorem dL_law_804 : decode cL_law 804 = .ok (.iconst 4, 1) := by decide +kernel
theorem dL_law_805 : decode cL_law 805 = .ok (.iadd, 1) := by decide +kernel
theorem dL_law_806 : decode cL_law 806 = .ok (.iaload, 1) := by decide +kernel
theorem dL_law_807 : decode cL_law 807 = .ok (.aload_n 0, 1) := by decide +kernel
theorem dL_law_808 : decode cL_law 808 = .ok (.iload_n 3, 1) := by decide +kernel
theorem dL_law_809 : decode cL_law 809 = .ok (.iconst 5, 1) := by decide +kernel
theorem dL_law_810 : decode cL_law 810 = .ok (.iadd, 1) := by decide +kernel
theorem dL_law_811 : decode cL_law 811 = .ok (.iaload, 1) := by decide +kernel
theorem dL_law_812 : decode cL_law 812 = .ok (.invokevirtual 109, 3) := by decide +kernel
theorem dL_law_815 : decode cL_law 815 = .ok (.if_icmp .eq 61, 3) := by decide +kernel
theorem dL_law_818 : decode cL_law 818 = .ok (.iconst 0, 1) := by decide +kernel
theorem dL_law_819 : decode cL_law 819 = .ok (.ireturn, 1) := by decide +kernel
theorem dL_law_820 : decode cL_law 820 = .ok (.aload_n 1, 1) := by decide +kernel
theorem dL_law_821 : decode cL_law 821 = .ok (.aload_n 0, 1) := by decide +kernel
theorem dL_law_822 : decode cL_law 822 = .ok (.iload_n 3, 1) := by decide +kernel
theorem dL_law_823 : decode cL_law 823 = .ok (.iconst 1, 1) := by decide +kernel
theorem dL_law_824 : decode cL_law 824 = .ok (.iadd, 1) := by decide +kernel
theorem dL_law_825 : decode cL_law 825 = .ok (.iaload, 1) := by decide +kernel
theorem dL_law_826 : decode cL_law 826 = .ok (.aload_n 0, 1) := by decide +kernel
theorem dL_law_827 : decode cL_law 827 = .ok (.iload_n 3, 1) := by decide +kernel
theorem dL_law_828 : decode cL_law 828 = .ok (.iconst 2, 1) := by decide +kernel
theorem dL_law_829 : decode cL_law 829 = .ok (.iadd, 1) := by decide +kernel
theorem dL_law_830 : decode cL_law 830 = .ok (.iaload, 1) := by decide +kernel
theorem dL_law_831 : decode cL_law 831 = .ok (.invokevirtual 110, 3) := by decide +kernel
theorem dL_law_834 : decode cL_law 834 = .ok (.aload_n 2, 1) := by decide +kernel
theorem dL_law_835 : decode cL_law 835 = .ok (.aload_n 0, 1) := by decide +kernel
theorem dL_law_836 : decode cL_law 836 = .ok (.iload_n 3, 1) := by decide +kernel
theorem dL_law_837 : decode cL_law 837 = .ok (.iconst 1, 1) := by decide +kernel
theorem dL_law_838 : decode cL_law 838 = .ok (.iadd, 1) := by decide +kernel
theorem dL_law_839 : decode cL_law 839 = .ok (.iaload, 1) := by decide +kernel
theorem dL_law_840 : decode cL_law 840 = .ok (.aload_n 0, 1) := by decide +kernel
theorem dL_law_841 : decode cL_law 841 = .ok (.iload_n 3, 1) := by decide +kernel
theorem dL_law_842 : decode cL_law 842 = .ok (.iconst 2, 1) := by decide +kernel
theorem dL_law_843 : decode cL_law 843 = .ok (.iadd, 1) := by decide +kernel
theorem dL_law_844 : decode cL_law 844 = .ok (.iaload, 1) := by decide +kernel
theorem dL_law_845 : decode cL_law 845 = .ok (.invokevirtual 113, 3) := by decide +kernel
theorem dL_law_848 : decode cL_law 848 = .ok (.if_icmp .eq 28, 3) := by decide +kernel
theorem dL_law_851 : decode cL_law 851 = .ok (.iconst 0, 1) := by decide +kernel
theorem dL_law_852 : decode cL_law 852 = .ok (.ireturn, 1) := by decide +kernel
theorem dL_law_853 : decode cL_law 853 = .ok (.aload_n 1, 1) := by decide +kernel
theorem dL_law_854 : decode cL_law 854 = .ok (.aload_n 0, 1) := by decide +kernel
theorem dL_law_855 : decode cL_law 855 = .ok (.iload_n 3, 1) := by decide +kernel
theorem dL_law_856 : decode cL_law 856 = .ok (.iconst 1, 1) := by decide +kernel
theorem dL_law_857 : decode cL_law 857 = .ok (.iadd, 1) := by decide +kernel
theorem dL_law_858 : decode cL_law 858 = .ok (.iaload, 1) := by decide +kernel
theorem dL_law_859 : decode cL_law 859 = .ok (.invokevirtual 114, 3) := by decide +kernel
theorem dL_law_862 : decode cL_law 862 = .ok (.aload_n 2, 1) := by decide +kernel
theorem dL_law_863 : decode cL_law 863 = .ok (.aload_n 0, 1) := by decide +kernel
theorem dL_law_864 : decode cL_law 864 = .ok (.iload_n 3, 1) := by decide +kernel
theorem dL_law_865 : decode cL_law 865 = .ok (.iconst 1, 1) := by decide +kernel
theorem dL_law_866 : decode cL_law 866 = .ok (.iadd, 1) := by decide +kernel
theorem dL_law_867 : decode cL_law 867 = .ok (.iaload, 1) := by decide +kernel
theorem dL_law_868 : decode cL_law 868 = .ok (.invokevirtual 117, 3) := by decide +kernel
theorem dL_law_871 : decode cL_law 871 = .ok (.if_icmp .eq 5, 3) := by decide +kernel
theorem dL_law_874 : decode cL_law 874 = .ok (.iconst 0, 1) := by decide +kernel
theorem dL_law_875 : decode cL_law 875 = .ok (.ireturn, 1) := by decide +kernel
theorem dL_law_876 : decode cL_law 876 = .ok (.iinc 3 6, 3) := by decide +kernel
theorem dL_law_879 : decode cL_law 879 = .ok (.goto (-861), 3) := by decide +kernel
theorem dL_law_882 : decode cL_law 882 = .ok (.iconst 1, 1) := by decide +kernel
theorem dL_law_883 : decode cL_law 883 = .ok (.ireturn, 1) := by decide +kernel
end
section
/-! One world for each side, held as a typed memory: int fields, long fields, int arrays, long arrays, by the number of the object. -/
abbrev Tau : Type := (Nat → Nat → Int32) × (Nat → Nat → Int64) × (Nat → Nat → Int32) × (Nat → Nat → Int64)
def tI (τ : Tau) (k j : Nat) : Int32 := τ.1 k j
def tL (τ : Tau) (k j : Nat) : Int64 := τ.2.1 k j
def tA (τ : Tau) (k j : Nat) : Int32 := τ.2.2.1 k j
def tB (τ : Tau) (k j : Nat) : Int64 := τ.2.2.2 k j
def up2 {α : Type} (f : Nat → Nat → α) (k j : Nat) (v : α) : Nat → Nat → α := fun a b => if a = k ∧ b = j then v else f a b
def sI (τ : Tau) (k j : Nat) (v : Int32) : Tau := (up2 τ.1 k j v, τ.2.1, τ.2.2.1, τ.2.2.2)
def sL (τ : Tau) (k j : Nat) (v : Int64) : Tau := (τ.1, up2 τ.2.1 k j v, τ.2.2.1, τ.2.2.2)
def sA (τ : Tau) (k j : Nat) (v : Int32) : Tau := (τ.1, τ.2.1, up2 τ.2.2.1 k j v, τ.2.2.2)
def sB (τ : Tau) (k j : Nat) (v : Int64) : Tau := (τ.1, τ.2.1, τ.2.2.1, up2 τ.2.2.2 k j v)
abbrev Lay : Type := Nat → Nat × Nat × List Nat
def adr (ad : Nat → Nat) (a k : Nat) : Nat := if k = 26 then a else ad k
def fval (ad : Nat → Nat) (a : Nat) (τ : Tau) (k j : Nat) : Nat → Value
  | 0 => .int (tI τ k j)
  | 1 => .long (tL τ k j)
  | t + 2 => .ref (adr ad a t)
def flds (ad : Nat → Nat) (a : Nat) (τ : Tau) (k : Nat) : Nat → List Nat → List Value
  | _, [] => []
  | j, t :: ts => fval ad a τ k j t :: flds ad a τ k (j + 1) ts
def alen (τ : Tau) (k : Nat) : List Nat → Nat
  | n :: _ => n
  | [] => (tI τ k 0).toNatClampNeg
def entOf (cA : Nat → ClassId) (ad : Nat → Nat) (a : Nat) (τ : Tau) (k : Nat) : Nat × Nat × List Nat → va_E
  | (0, ci, ts) => .inr (ci, flds ad a τ k 0 ts)
  | (1, t, o) => .inl (cA t, alen τ k o, .inl (tA τ k))
  | (2, t, o) => .inl (cA t, alen τ k o, .inr (.inl (tB τ k)))
  | (_, t, o) => .inl (cA t, alen τ k o, .inr (.inr (.inr (.inr (fun i => some (adr ad a (i + 2)))))))
def ent (Λ : Lay) (cA : Nat → ClassId) (ad : Nat → Nat) (a : Nat) (τ : Tau) (k : Nat) : va_E := entOf cA ad a τ k (Λ k)
def wl (Λ : Lay) (n : Nat) (cA : Nat → ClassId) (ad : Nat → Nat) (a : Nat) (τ : Tau) : va_W := (List.range n).map fun k => (adr ad a k, ent Λ cA ad a τ k)
theorem wl_get {Λ : Lay} {n : Nat} {cA : Nat → ClassId} {ad : Nat → Nat} {a : Nat} {τ : Tau} {k : Nat} (hk : k < n) : (wl Λ n cA ad a τ)[k]? = some (adr ad a k, ent Λ cA ad a τ k) := by
  simp [wl, hk]
theorem wl_set {Λ : Lay} {n : Nat} {cA : Nat → ClassId} {ad : Nat → Nat} {a : Nat} {τ τ' : Tau} {k : Nat} {e : va_E} (he : ent Λ cA ad a τ' k = e) (ho : ∀ j, j ≠ k → ent Λ cA ad a τ' j = ent Λ cA ad a τ j) : (wl Λ n cA ad a τ).set k (adr ad a k, e) = wl Λ n cA ad a τ' := by
  apply List.ext_getElem?
  intro j
  by_cases hj : j = k
  · subst hj
    by_cases hn : j < n
    · rw [List.getElem?_set_self (by simp [wl, hn]), wl_get hn, he]
    · rw [List.getElem?_eq_none (by simp [wl]; omega), List.getElem?_eq_none (by simp [wl]; omega)]
  · rw [List.getElem?_set_ne (Ne.symm hj)]
    by_cases hn : j < n
    · rw [wl_get hn, wl_get hn, ho j hj]
    · rw [List.getElem?_eq_none (by simp [wl]; omega), List.getElem?_eq_none (by simp [wl]; omega)]
theorem fval_c {ad : Nat → Nat} {a : Nat} {τ τ' : Tau} {k j : Nat} (h1 : tI τ' k j = tI τ k j) (h2 : tL τ' k j = tL τ k j) : ∀ t, fval ad a τ' k j t = fval ad a τ k j t
  | 0 => by simp [fval, h1]
  | 1 => by simp [fval, h2]
  | t + 2 => rfl
theorem flds_c {ad : Nat → Nat} {a : Nat} {τ τ' : Tau} {k : Nat} : ∀ (ts : List Nat) (j : Nat), (∀ i, j ≤ i → tI τ' k i = tI τ k i) → (∀ i, j ≤ i → tL τ' k i = tL τ k i) → flds ad a τ' k j ts = flds ad a τ k j ts
  | [], _, _, _ => rfl
  | t :: ts, j, h1, h2 => by
    rw [flds, flds, fval_c (h1 j (Nat.le_refl _)) (h2 j (Nat.le_refl _)), flds_c ts (j + 1) (fun i hi => h1 i (by omega)) (fun i hi => h2 i (by omega))]
theorem flds_get {ad : Nat → Nat} {a : Nat} {τ : Tau} {k : Nat} : ∀ (ts : List Nat) (j0 j t : Nat), ts[j]? = some t → (flds ad a τ k j0 ts)[j]? = some (fval ad a τ k (j0 + j) t)
  | [], _, _, _, h => by simp at h
  | u :: ts, j0, 0, t, h => by
    simp at h
    subst h
    simp [flds]
  | u :: ts, j0, j + 1, t, h => by
    rw [List.getElem?_cons_succ] at h
    rw [flds, List.getElem?_cons_succ, flds_get ts (j0 + 1) j t h]
    congr 2
    omega
theorem flds_len {ad : Nat → Nat} {a : Nat} {τ : Tau} {k : Nat} : ∀ (ts : List Nat) (j0 : Nat), (flds ad a τ k j0 ts).length = ts.length
  | [], _ => rfl
  | u :: ts, j0 => by rw [flds, List.length_cons, List.length_cons, flds_len ts]
theorem flds_set {ad : Nat → Nat} {a : Nat} {τ τ' : Tau} {k : Nat} : ∀ (ts : List Nat) (j0 j t : Nat), ts[j]? = some t → (∀ i, i ≠ j0 + j → tI τ' k i = tI τ k i) → (∀ i, i ≠ j0 + j → tL τ' k i = tL τ k i) → (flds ad a τ k j0 ts).set j (fval ad a τ' k (j0 + j) t) = flds ad a τ' k j0 ts
  | [], _, _, _, h, _, _ => by simp at h
  | u :: ts, j0, 0, t, h, h1, h2 => by
    simp at h
    subst h
    rw [flds, flds, List.set_cons_zero, flds_c ts (j0 + 1) (fun i hi => h1 i (by omega)) (fun i hi => h2 i (by omega))]
    rfl
  | u :: ts, j0, j + 1, t, h, h1, h2 => by
    rw [List.getElem?_cons_succ] at h
    rw [flds, flds, List.set_cons_succ, fval_c (h1 j0 (by omega)) (h2 j0 (by omega))]
    congr 1
    have e := flds_set (ad := ad) (a := a) (τ := τ) (τ' := τ') (k := k) ts (j0 + 1) j t h (fun i hi => h1 i (by omega)) (fun i hi => h2 i (by omega))
    rw [show j0 + (j + 1) = j0 + 1 + j by omega]
    exact e
theorem alen_c {τ τ' : Tau} {k : Nat} (h : tI τ' k 0 = tI τ k 0) : ∀ o, alen τ' k o = alen τ k o
  | [] => by simp [alen, h]
  | _ :: _ => rfl
theorem ent_c {Λ : Lay} {cA : Nat → ClassId} {ad : Nat → Nat} {a : Nat} {τ τ' : Tau} {k : Nat} (h1 : ∀ i, tI τ' k i = tI τ k i) (h2 : ∀ i, tL τ' k i = tL τ k i) (h3 : tA τ' k = tA τ k) (h4 : tB τ' k = tB τ k) : ent Λ cA ad a τ' k = ent Λ cA ad a τ k := by
  unfold ent
  generalize Λ k = x
  obtain ⟨g, ci, ts⟩ := x
  match g with
  | 0 => simp only [entOf]; rw [flds_c ts 0 (fun i _ => h1 i) (fun i _ => h2 i)]
  | 1 => simp only [entOf]; rw [alen_c (h1 0), h3]
  | 2 => simp only [entOf]; rw [alen_c (h1 0), h4]
  | g + 3 => simp only [entOf]; rw [alen_c (h1 0)]
-- what the four writers leave
theorem tI_sI (τ : Tau) (k j : Nat) (v : Int32) (a b : Nat) : tI (sI τ k j v) a b = if a = k ∧ b = j then v else tI τ a b := rfl
theorem tL_sI (τ : Tau) (k j : Nat) (v : Int32) (a b : Nat) : tL (sI τ k j v) a b = tL τ a b := rfl
theorem tA_sI (τ : Tau) (k j : Nat) (v : Int32) (a : Nat) : tA (sI τ k j v) a = tA τ a := rfl
theorem tB_sI (τ : Tau) (k j : Nat) (v : Int32) (a : Nat) : tB (sI τ k j v) a = tB τ a := rfl
theorem tI_sL (τ : Tau) (k j : Nat) (v : Int64) (a b : Nat) : tI (sL τ k j v) a b = tI τ a b := rfl
theorem tL_sL (τ : Tau) (k j : Nat) (v : Int64) (a b : Nat) : tL (sL τ k j v) a b = if a = k ∧ b = j then v else tL τ a b := rfl
theorem tA_sL (τ : Tau) (k j : Nat) (v : Int64) (a : Nat) : tA (sL τ k j v) a = tA τ a := rfl
theorem tB_sL (τ : Tau) (k j : Nat) (v : Int64) (a : Nat) : tB (sL τ k j v) a = tB τ a := rfl
theorem tI_sA (τ : Tau) (k j : Nat) (v : Int32) (a b : Nat) : tI (sA τ k j v) a b = tI τ a b := rfl
theorem tL_sA (τ : Tau) (k j : Nat) (v : Int32) (a b : Nat) : tL (sA τ k j v) a b = tL τ a b := rfl
theorem tA_sA (τ : Tau) (k j : Nat) (v : Int32) (a b : Nat) : tA (sA τ k j v) a b = if a = k ∧ b = j then v else tA τ a b := rfl
theorem tB_sA (τ : Tau) (k j : Nat) (v : Int32) (a : Nat) : tB (sA τ k j v) a = tB τ a := rfl
theorem tI_sB (τ : Tau) (k j : Nat) (v : Int64) (a b : Nat) : tI (sB τ k j v) a b = tI τ a b := rfl
theorem tL_sB (τ : Tau) (k j : Nat) (v : Int64) (a b : Nat) : tL (sB τ k j v) a b = tL τ a b := rfl
theorem tA_sB (τ : Tau) (k j : Nat) (v : Int64) (a : Nat) : tA (sB τ k j v) a = tA τ a := rfl
theorem tB_sB (τ : Tau) (k j : Nat) (v : Int64) (a b : Nat) : tB (sB τ k j v) a b = if a = k ∧ b = j then v else tB τ a b := rfl
theorem ent_sI {Λ : Lay} {cA : Nat → ClassId} {ad : Nat → Nat} {a : Nat} {τ : Tau} {k ci : Nat} {ts : List Nat} (hΛ : Λ k = (0, ci, ts)) {j : Nat} (hj : ts[j]? = some 0) (v : Int32) : ent Λ cA ad a (sI τ k j v) k = .inr (ci, (flds ad a τ k 0 ts).set j (.int v)) := by
  unfold ent
  rw [hΛ]
  simp only [entOf]
  have e := flds_set (ad := ad) (a := a) (τ := τ) (τ' := sI τ k j v) (k := k) ts 0 j 0 hj (fun i hi => by rw [tI_sI]; simp; omega) (fun i hi => rfl)
  rw [← e]
  simp [fval, tI_sI]
theorem ent_sL {Λ : Lay} {cA : Nat → ClassId} {ad : Nat → Nat} {a : Nat} {τ : Tau} {k ci : Nat} {ts : List Nat} (hΛ : Λ k = (0, ci, ts)) {j : Nat} (hj : ts[j]? = some 1) (v : Int64) : ent Λ cA ad a (sL τ k j v) k = .inr (ci, (flds ad a τ k 0 ts).set j (.long v)) := by
  unfold ent
  rw [hΛ]
  simp only [entOf]
  have e := flds_set (ad := ad) (a := a) (τ := τ) (τ' := sL τ k j v) (k := k) ts 0 j 1 hj (fun i hi => rfl) (fun i hi => by rw [tL_sL]; simp; omega)
  rw [← e]
  simp [fval, tL_sL]
theorem ent_oI {Λ : Lay} {cA : Nat → ClassId} {ad : Nat → Nat} {a : Nat} {τ : Tau} {k j : Nat} {v : Int32} (q : Nat) (hq : q ≠ k) : ent Λ cA ad a (sI τ k j v) q = ent Λ cA ad a τ q := ent_c (fun i => by rw [tI_sI]; simp [hq]) (fun _ => rfl) rfl rfl
theorem ent_oL {Λ : Lay} {cA : Nat → ClassId} {ad : Nat → Nat} {a : Nat} {τ : Tau} {k j : Nat} {v : Int64} (q : Nat) (hq : q ≠ k) : ent Λ cA ad a (sL τ k j v) q = ent Λ cA ad a τ q := ent_c (fun _ => rfl) (fun i => by rw [tL_sL]; simp [hq]) rfl rfl
theorem ent_oA {Λ : Lay} {cA : Nat → ClassId} {ad : Nat → Nat} {a : Nat} {τ : Tau} {k j : Nat} {v : Int32} (q : Nat) (hq : q ≠ k) : ent Λ cA ad a (sA τ k j v) q = ent Λ cA ad a τ q := ent_c (fun _ => rfl) (fun _ => rfl) (by funext i; rw [tA_sA]; simp [hq]) rfl
theorem ent_oB {Λ : Lay} {cA : Nat → ClassId} {ad : Nat → Nat} {a : Nat} {τ : Tau} {k j : Nat} {v : Int64} (q : Nat) (hq : q ≠ k) : ent Λ cA ad a (sB τ k j v) q = ent Λ cA ad a τ q := ent_c (fun _ => rfl) (fun _ => rfl) rfl (by funext i; rw [tB_sB]; simp [hq])
theorem ent_sA {Λ : Lay} {cA : Nat → ClassId} {ad : Nat → Nat} {a : Nat} {τ : Tau} {k t : Nat} {o : List Nat} (hΛ : Λ k = (1, t, o)) {j : Nat} (v : Int32) : ent Λ cA ad a (sA τ k j v) k = .inl (cA t, alen τ k o, .inl (upd (tA τ k) j v)) := by
  unfold ent
  rw [hΛ]
  simp only [entOf]
  rw [alen_c (τ := τ) (τ' := sA τ k j v) rfl, show tA (sA τ k j v) k = upd (tA τ k) j v by funext i; rw [tA_sA]; simp [upd]]
theorem ent_sB {Λ : Lay} {cA : Nat → ClassId} {ad : Nat → Nat} {a : Nat} {τ : Tau} {k t : Nat} {o : List Nat} (hΛ : Λ k = (2, t, o)) {j : Nat} (v : Int64) : ent Λ cA ad a (sB τ k j v) k = .inl (cA t, alen τ k o, .inr (.inl (vp_updL (tB τ k) j v))) := by
  unfold ent
  rw [hΛ]
  simp only [entOf]
  rw [alen_c (τ := τ) (τ' := sB τ k j v) rfl, show tB (sB τ k j v) k = vp_updL (tB τ k) j v by funext i; rw [tB_sB]; simp [vp_updL]]
end
section
/-! contracts and rows over the typed memory -/
abbrev classes : List vw_C := [(RX0, TX0, 10), (RX1, TX1, 8), (RX2, TX2, 6), (RX3, TX3, 6), (RX4, TX4, 7), (RX5, TX5, 6), (RX6, TX6, 8), (RX7, TX7, 29)]
def tyl (cA : Nat → ClassId) : List (ClassId × FieldType) := [(cA 0, .int), (cA 1, .long), (cA 2, .char), (cA 3, .object "KindSayings$Saying")]
def tyOf : Nat → FieldType
  | 0 => .int
  | 1 => .long
  | 2 => .char
  | _ => .object "KindSayings$Saying"
def vWORDS : Nat → Int64 := fun j => [6384748, 1936682341, 28271, 1836020596, 465557353332, 1786082164, 1836020325, 1702258030, 7237492].getD j 0
def vSHOWS : Nat → Int32 := fun j => [0, 2, 1, 3, 2, 1, 3, 0, 1].getD j 0
def vFIRST : Nat → Int32 := fun j => [0, 0, 1, 1, 2, 1, 3, -9, 0].getD j 0
def vSECOND : Nat → Int32 := fun j => [0, 2, 0, 2, -9, -9, 0, -9, -9].getD j 0
/-- the four static rows of numbers, that nobody writes -/
def ZT (st : Nat → Nat) (A : Nat → Prop) (U : State) (H : Heap) : Prop :=
  (va_Z "KindSayings" "WORDS" "[J" (.ref (st 0)) A U H ∧ va_T .long (st 0) 9 (fun j => .long (vWORDS j)) A U H) ∧
  (va_Z "KindSayings" "MOOD_SHOWS" "[I" (.ref (st 1)) A U H ∧ va_T .int (st 1) 9 (fun j => .int (vSHOWS j)) A U H) ∧
  (va_Z "KindSayings" "MOOD_FIRST" "[I" (.ref (st 2)) A U H ∧ va_T .int (st 2) 9 (fun j => .int (vFIRST j)) A U H) ∧
  (va_Z "KindSayings" "MOOD_SECOND" "[I" (.ref (st 3)) A U H ∧ va_T .int (st 3) 9 (fun j => .int (vSECOND j)) A U H)
theorem ZT.moved {st : Nat → Nat} {A : Nat → Prop} {u U : State} {H : Heap} (hvm : u.vm.Alike U.vm) (h : ZT st A u H) : ZT st A U H :=
  ⟨⟨h.1.1.moved hvm, h.1.2.moved hvm⟩, ⟨h.2.1.1.moved hvm, h.2.1.2.moved hvm⟩, ⟨h.2.2.1.1.moved hvm, h.2.2.1.2.moved hvm⟩, ⟨h.2.2.2.1.moved hvm, h.2.2.2.2.moved hvm⟩⟩
theorem ZT.kept {st : Nat → Nat} {A : Nat → Prop} {U : State} {H H1 : Heap} (h : ZT st A U H) (hq : ∀ a : Nat, a < H.size → ¬ A a → H1[a]? = H[a]?) : ZT st A U H1 :=
  ⟨⟨h.1.1.kept hq, h.1.2.kept hq⟩, ⟨h.2.1.1.kept hq, h.2.1.2.kept hq⟩, ⟨h.2.2.1.1.kept hq, h.2.2.1.2.kept hq⟩, ⟨h.2.2.2.1.kept hq, h.2.2.2.2.kept hq⟩⟩
theorem ZT.narrow {st : Nat → Nat} {A B : Nat → Prop} {U : State} {H : Heap} (h : ZT st A U H) (hq : ∀ q, B q → A q) : ZT st B U H :=
  ⟨⟨h.1.1.narrow hq, h.1.2.narrow hq⟩, ⟨h.2.1.1.narrow hq, h.2.1.2.narrow hq⟩, ⟨h.2.2.1.1.narrow hq, h.2.2.1.2.narrow hq⟩, ⟨h.2.2.2.1.narrow hq, h.2.2.2.2.narrow hq⟩⟩
/-- the words about nest mates -/
def nestM : List (String × Nat × MethodName) := [("KindSayings", 21, ⟨"KindSayings$Reader", "<init>", "()V"⟩), ("KindSayings$Reader", 11, ⟨"KindSayings$Tokens", "<init>", "()V"⟩), ("KindSayings$Reader", 20, ⟨"KindSayings$Saying", "<init>", "()V"⟩), ("KindSayings$Heaps", 11, ⟨"KindSayings$Walk", "<init>", "()V"⟩), ("KindSayings$Heaps", 40, ⟨"KindSayings", "has", "(II)Z"⟩), ("KindSayings$Heaps", 44, ⟨"KindSayings", "factNumber", "(III)I"⟩), ("KindSayings", 35, ⟨"KindSayings$Proof", "<init>", "()V"⟩), ("KindSayings", 50, ⟨"KindSayings$Saying", "<init>", "()V"⟩), ("KindSayings$Saying", 18, ⟨"KindSayings", "sortsOfKind", "(II)I"⟩), ("KindSayings$Saying", 28, ⟨"KindSayings", "factNumber", "(III)I"⟩), ("KindSayings$Reader", 107, ⟨"KindSayings", "sortsOfKind", "(II)I"⟩), ("KindSayings$Reader", 110, ⟨"KindSayings", "everySort", "(I)I"⟩), ("KindSayings$Reader", 116, ⟨"KindSayings", "factNumber", "(III)I"⟩), ("KindSayings$Proof", 29, ⟨"KindSayings", "has", "(II)Z"⟩), ("KindSayings$Proof", 79, ⟨"KindSayings", "factNumber", "(III)I"⟩)]
def nestF : List (String × Nat × String × String × String) := [("KindSayings$Tokens", 60, "KindSayings", "WORDS", "[J"), ("KindSayings$Proof", 66, "KindSayings", "MOOD_SHOWS", "[I"), ("KindSayings$Proof", 73, "KindSayings", "MOOD_FIRST", "[I"), ("KindSayings$Proof", 76, "KindSayings", "MOOD_SECOND", "[I")]
def NW (U : State) : Prop := (∀ q ∈ nestM, va_Nw (.methodLinkNest q.1 q.2.1 q.2.2 "KindSayings") U) ∧ (∀ q ∈ nestF, va_Nw (.fieldLinkNest q.1 q.2.1 q.2.2.1 q.2.2.2.1 q.2.2.2.2 "KindSayings") U)
theorem NW.warm {s U : State} (hW : s.WarmedH U.vm) (h : NW s) : NW U := ⟨fun q hq => va_Nw.warmM hW (h.1 q hq), fun q hq => va_Nw.warmF hW (h.2 q hq)⟩
theorem NW.same {u U : State} (e : u.vm = U.vm) (h : NW u) : NW U := ⟨fun q hq => va_Nw.same rfl e (h.1 q hq), fun q hq => va_Nw.same rfl e (h.2 q hq)⟩
section KC
variable (Λ : Lay) (n : Nat) (D : va_G) (cA : Nat → ClassId) (st ad : Nat → Nat)
def WQ (a : Nat) (τ : Tau) (A : Nat → Prop) (U : State) : Prop := va_P D classes (wl Λ n cA ad a τ) U.heap ∧ va_D A (wl Λ n cA ad a τ) ∧ va_K D classes (tyl cA) U
def KPre (A : Nat → Prop) (sz : Nat) (As : List Value) (a : Nat) (τ : Tau) : Array Value → State → Prop :=
  va_Pc As (fun U => U.heap.size = sz ∧ (∀ q, sz ≤ q → A q) ∧ WQ Λ n D cA ad a τ A U ∧ ZT st A U U.heap ∧ NW U)
def KPost (A : Nat → Prop) (post : Option Value → Nat → Tau → Prop) : Array Value → State → Outcome → State → Prop :=
  fun _ s oc t => (∃ (v : Option Value) (a' : Nat) (τ' : Tau), oc = .returned v ∧ post v a' τ' ∧ WQ Λ n D cA ad a' τ' A t) ∧ va_F A s t
/-- a contract: from every world that is this memory, the method returns, and 'post' holds of answer and memory -/
def KC (l : Launch) (y : MethodName) (b : ByteArray) (maxL : Nat) (ret : Option FieldType) (fr lo mc ms : Nat) (As : List Value) (a : Nat) (τ : Tau) (post : Option Value → Nat → Tau → Prop) : Prop :=
  ∀ (A : Nat → Prop) (sz : Nat), Met l y (Cond.code y b maxL ret :: Gd) { frames := fr, cells := mc, slots := ms, locals := lo } (KPre Λ n D cA st ad A sz As a τ) (KPost Λ n D cA ad A post) mc ms A
def Bd (p : Program) (s : State) (m : MethodId) (args : Array Value) (meth : Method) (c : Code) (cc : ByteArray) (nL : Nat) (own : String) (ret : Option FieldType) (A : Nat → Prop) : Prop :=
  p.tables.exec = Jvm.exec ∧ c.code = cc ∧ c.maxLocals = nL ∧ s.vm.findClass own = some m.cls ∧ (∀ w ∈ Gd, w.before args s = true) ∧ va_K D classes (tyl cA) s ∧ ZT st A s s.heap ∧ NW s ∧ (∀ q, s.heap.size ≤ q → A q) ∧ meth.locks = false ∧ meth.sig.returnType = ret
def Wd (A : Nat → Prop) (s : State) (a : Nat) (τ : Tau) (H : Heap) (locs : List Loc) : Prop :=
  va_P D classes (wl Λ n cA ad a τ) H ∧ va_D A (wl Λ n cA ad a τ) ∧ va_S A s.heap H locs
end KC
section KR
variable {Λ : Lay} {n : Nat} {D : va_G} {cA : Nat → ClassId} {st ad : Nat → Nat}
theorem KPre.blind {A : Nat → Prop} {sz : Nat} {As : List Value} {a : Nat} {τ : Tau} : FrameBlind (KPre Λ n D cA st ad A sz As a τ) := by
  intro x U g mk h
  obtain ⟨h1, h2, h3, h4, h5, h6⟩ := h
  exact ⟨h1, h2, h3, ⟨h4.1, h4.2.1, va_K.moved (u := U) (U := U.calling g mk x) (Vm.Alike.refl U.vm) h4.2.2⟩, ZT.moved (u := U) (U := U.calling g mk x) (Vm.Alike.refl U.vm) h5, NW.same (u := U) (U := U.calling g mk x) rfl h6⟩
theorem KC.of {l : Launch} {y : MethodName} {b : ByteArray} {maxL : Nat} {ret : Option FieldType} {fr lo mc ms : Nat} {As : List Value} {a : Nat} {τ : Tau} {post : Option Value → Nat → Tau → Prop}
    (hy : plainName y.cls = true) (hL : (lg_sl As).length ≤ maxL)
    (body : ∀ (p : Program) (e : Env) (s : State) (m : MethodId) (args : Array Value) (below : List Frame) (meth : Method) (c : Code) (A : Nat → Prop) (ls : Array Slot),
      Bd D cA st p s m args meth c b maxL y.cls ret A → Wd Λ n D cA ad A s a τ s.heap [] → lv_has ls maxL (lv_args 0 As) → (y.name = "<init>" → meth.name = "<init>") →
      W p l e { frames := fr, cells := mc, slots := ms, locals := lo } s m args below meth c s.heap [] 0 0 (MQ below (KPost Λ n D cA ad A post) args s mc ms A) (F0 m 0 ls [])) :
    KC Λ n D cA st ad l y b maxL ret fr lo mc ms As a τ post := by
  intro A sz
  refine Met.ofW (cc := b) (maxL := maxL) (ret := ret) hy rfl ?_
  intro p e s m args below meth c s₁ B hml hv
  obtain ⟨rfl, hsz, hA, hQ, hZ, hN⟩ := hv
  have hts := atoms_spec (ws := Cond.code y b maxL ret :: Gd) B.pre
  have hl := lv_entry As (n := maxL) hL
  rw [lg_entry_eq]
  subst hsz
  exact body p e s m As.toArray below meth c A _ ⟨B.exec, B.bytes, hml, findClass_of_methodNamed B.named, fun w hw => hts w (List.mem_cons_of_mem _ hw), hQ.2.2, hZ, hN, hA, B.notSynchronized, B.returns⟩ ⟨hQ.1, hQ.2.1, va_S.rf⟩ hl
    (fun h => (name_of_methodNamed B.named B.method).1.trans h)
end KR
section KW
variable {p : Program} {l : Launch} {e : Env} {R : Room} {s : State} {m : MethodId} {args : Array Value} {below : List Frame} {meth : Method} {c : Code} {H : Heap} {locs : List Loc} {cells slots : Nat} {Q : State → Prop}
variable {Λ : Lay} {n : Nat} {D : va_G} {cA : Nat → ClassId} {st ad : Nat → Nat} {cc : ByteArray} {nL : Nat} {own : String} {ret : Option FieldType} {A : Nat → Prop} {a : Nat} {τ : Tau} {pc : Nat} {ls : Array Slot} {rest : List Value}
/-- a field of a class of ours as the constant pool names it -/
def kFd (own : String) (idx ci j : Nat) : Prop := ∃ (C : String) (T : u_T) (N : Nat), classes[ci]? = some (C, T, N) ∧ j < N ∧ Cond.fieldLink own idx (T j).1 (T j).2.1 (T j).2.2.1 ∈ Gd ∧ (∀ w ∈ u_ws C T N, w ∈ Gd)
/-- the same, of a field that may be written -/
def kFw (own : String) (idx ci j : Nat) (ty : FieldType) : Prop := ∃ (C : String) (T : u_T) (N : Nat) (ty0 : Nat → FieldType), classes[ci]? = some (C, T, N) ∧ j < N ∧ Cond.fieldLink own idx (T j).1 (T j).2.1 (T j).2.2.1 ∈ Gd ∧ (∀ w ∈ u_ws C T N, w ∈ Gd) ∧ (∀ k, k < N → parseFieldDescriptor (T k).2.2.1 = some (ty0 k)) ∧ (∀ a, a < N → ∀ b, b < N → a ≠ b → (T a).2.1 ≠ (T b).2.1) ∧ (T j).2.2.2 = false ∧ parseFieldDescriptor (T j).2.2.1 = some ty
theorem ks_get (E : Bd D cA st p s m args meth c cc nL own ret A) (hw : Wd Λ n D cA ad A s a τ H locs) (k j : Nat) {ci idx t : Nat} {ts : List Nat} (hk : k < n) (hΛ : Λ k = (0, ci, ts)) (ht : ts[j]? = some t) (hf : kFd own idx ci j) (hdg : decode cc pc = .ok (.getfield idx, 3))
    (kk : W p l e R s m args below meth c H locs cells slots Q (F0 m (pc + 3) ls (fval ad a τ k j t :: rest))) : W p l e R s m args below meth c H locs cells slots Q (F0 m pc ls (.ref (adr ad a k) :: rest)) := by
  obtain ⟨hx, hb, hml, hown, hts, hK, -⟩ := E
  obtain ⟨C, T, N, hc, hj, hlk, hin⟩ := hf
  have he : (wl Λ n cA ad a τ)[k]? = some (adr ad a k, .inr (ci, flds ad a τ k 0 ts)) := by
    rw [wl_get hk]
    unfold ent
    rw [hΛ]
    rfl
  have hv : (flds ad a τ k 0 ts)[j]? = some (fval ad a τ k j t) := by rw [flds_get ts 0 j t ht, Nat.zero_add]
  exact va_get hx hb hts hin hown hK hw.1 k he hc j hj (hts _ hlk) (fun _ h => h) hv hdg kk
theorem ks_getI (E : Bd D cA st p s m args meth c cc nL own ret A) (hw : Wd Λ n D cA ad A s a τ H locs) (k j : Nat) {ci idx : Nat} {ts : List Nat} (hk : k < n) (hΛ : Λ k = (0, ci, ts)) (ht : ts[j]? = some 0) (hf : kFd own idx ci j) (hdg : decode cc pc = .ok (.getfield idx, 3))
    (kk : W p l e R s m args below meth c H locs cells slots Q (F0 m (pc + 3) ls (.int (tI τ k j) :: rest))) : W p l e R s m args below meth c H locs cells slots Q (F0 m pc ls (.ref (adr ad a k) :: rest)) := ks_get E hw k j hk hΛ ht hf hdg kk
theorem ks_getL (E : Bd D cA st p s m args meth c cc nL own ret A) (hw : Wd Λ n D cA ad A s a τ H locs) (k j : Nat) {ci idx : Nat} {ts : List Nat} (hk : k < n) (hΛ : Λ k = (0, ci, ts)) (ht : ts[j]? = some 1) (hf : kFd own idx ci j) (hdg : decode cc pc = .ok (.getfield idx, 3))
    (kk : W p l e R s m args below meth c H locs cells slots Q (F0 m (pc + 3) ls (.long (tL τ k j) :: rest))) : W p l e R s m args below meth c H locs cells slots Q (F0 m pc ls (.ref (adr ad a k) :: rest)) := ks_get E hw k j hk hΛ ht hf hdg kk
theorem ks_getR (E : Bd D cA st p s m args meth c cc nL own ret A) (hw : Wd Λ n D cA ad A s a τ H locs) (k j : Nat) {ci idx t : Nat} {ts : List Nat} (hk : k < n) (hΛ : Λ k = (0, ci, ts)) (ht : ts[j]? = some (t + 2)) (hf : kFd own idx ci j) (hdg : decode cc pc = .ok (.getfield idx, 3))
    (kk : W p l e R s m args below meth c H locs cells slots Q (F0 m (pc + 3) ls (.ref (adr ad a t) :: rest))) : W p l e R s m args below meth c H locs cells slots Q (F0 m pc ls (.ref (adr ad a k) :: rest)) := ks_get E hw k j hk hΛ ht hf hdg kk
theorem ks_putI (E : Bd D cA st p s m args meth c cc nL own ret A) (hw : Wd Λ n D cA ad A s a τ H locs) (k j : Nat) {ci idx : Nat} {ts : List Nat} {ty : FieldType} {v : Int32} (hk : k < n) (hΛ : Λ k = (0, ci, ts)) (ht : ts[j]? = some 0) (hf : kFw own idx ci j ty) (hn : narrow ty (.int v) = .int v) (hfit : fits ty (.int v) = true) (hdg : decode cc pc = .ok (.putfield idx, 3))
    (kk : ∀ H1 locs1, Wd Λ n D cA ad A s a (sI τ k j v) H1 locs1 → W p l e R s m args below meth c H1 locs1 cells slots Q (F0 m (pc + 3) ls rest)) : W p l e R s m args below meth c H locs cells slots Q (F0 m pc ls (.int v :: .ref (adr ad a k) :: rest)) := by
  obtain ⟨hx, hb, hml, hown, hts, hK, -⟩ := E
  obtain ⟨C, T, N, ty0, hc, hj, hlk, hin, hty, hnm, hfin, hd⟩ := hf
  have he : (wl Λ n cA ad a τ)[k]? = some (adr ad a k, .inr (ci, flds ad a τ k 0 ts)) := by
    rw [wl_get hk]
    unfold ent
    rw [hΛ]
    rfl
  have hlen : j < (flds ad a τ k 0 ts).length := by rw [flds_len]; exact (List.getElem?_eq_some_iff.mp ht).1
  refine va_put hx hb hts hin ty0 hty hnm hown hK hw.1 hw.2.1 hw.2.2 k he hc j hj (hts _ hlk) (fun _ h => h) hfin hd hn hfit hlen hdg (fun H1 locs1 hP hD hS => ?_)
  rw [wl_set (τ' := sI τ k j v) (ent_sI hΛ ht v) (fun q hq => ent_oI q hq)] at hP hD
  exact kk H1 locs1 ⟨hP, hD, hS⟩
theorem ks_putL (E : Bd D cA st p s m args meth c cc nL own ret A) (hw : Wd Λ n D cA ad A s a τ H locs) (k j : Nat) {ci idx : Nat} {ts : List Nat} {v : Int64} (hk : k < n) (hΛ : Λ k = (0, ci, ts)) (ht : ts[j]? = some 1) (hf : kFw own idx ci j .long) (hdg : decode cc pc = .ok (.putfield idx, 3))
    (kk : ∀ H1 locs1, Wd Λ n D cA ad A s a (sL τ k j v) H1 locs1 → W p l e R s m args below meth c H1 locs1 cells slots Q (F0 m (pc + 3) ls rest)) : W p l e R s m args below meth c H locs cells slots Q (F0 m pc ls (.long v :: .ref (adr ad a k) :: rest)) := by
  obtain ⟨hx, hb, hml, hown, hts, hK, -⟩ := E
  obtain ⟨C, T, N, ty0, hc, hj, hlk, hin, hty, hnm, hfin, hd⟩ := hf
  have he : (wl Λ n cA ad a τ)[k]? = some (adr ad a k, .inr (ci, flds ad a τ k 0 ts)) := by
    rw [wl_get hk]
    unfold ent
    rw [hΛ]
    rfl
  have hlen : j < (flds ad a τ k 0 ts).length := by rw [flds_len]; exact (List.getElem?_eq_some_iff.mp ht).1
  refine va_put hx hb hts hin ty0 hty hnm hown hK hw.1 hw.2.1 hw.2.2 k he hc j hj (hts _ hlk) (fun _ h => h) hfin hd rfl rfl hlen hdg (fun H1 locs1 hP hD hS => ?_)
  rw [wl_set (τ' := sL τ k j v) (ent_sL hΛ ht v) (fun q hq => ent_oL q hq)] at hP hD
  exact kk H1 locs1 ⟨hP, hD, hS⟩
end KW
end
section
/-! rows for arrays, tables, calls and ends over the typed memory -/
section KA
variable {p : Program} {l : Launch} {e : Env} {R : Room} {s : State} {m : MethodId} {args : Array Value} {below : List Frame} {meth : Method} {c : Code} {H : Heap} {locs : List Loc} {cells slots : Nat} {Q : State → Prop}
variable {Λ : Lay} {n : Nat} {D : va_G} {cA : Nat → ClassId} {st ad : Nat → Nat} {cc : ByteArray} {nL : Nat} {own : String} {ret : Option FieldType} {A : Nat → Prop} {a : Nat} {τ : Tau} {pc : Nat} {ls : Array Slot} {rest : List Value}
theorem wl_at1 {k t : Nat} {o : List Nat} (hk : k < n) (hΛ : Λ k = (1, t, o)) : (wl Λ n cA ad a τ)[k]? = some (adr ad a k, .inl (cA t, alen τ k o, .inl (tA τ k))) := by
  rw [wl_get hk]; unfold ent; rw [hΛ]; rfl
theorem wl_at2 {k t : Nat} {o : List Nat} (hk : k < n) (hΛ : Λ k = (2, t, o)) : (wl Λ n cA ad a τ)[k]? = some (adr ad a k, .inl (cA t, alen τ k o, .inr (.inl (tB τ k)))) := by
  rw [wl_get hk]; unfold ent; rw [hΛ]; rfl
theorem wl_at3 {k t : Nat} {o : List Nat} (hk : k < n) (hΛ : Λ k = (3, t, o)) : (wl Λ n cA ad a τ)[k]? = some (adr ad a k, .inl (cA t, alen τ k o, .inr (.inr (.inr (.inr (fun i => some (adr ad a (i + 2)))))))) := by
  rw [wl_get hk]; unfold ent; rw [hΛ]; rfl
theorem ks_iald (E : Bd D cA st p s m args meth c cc nL own ret A) (hw : Wd Λ n D cA ad A s a τ H locs) (k : Nat) {o : List Nat} (hk : k < n) (hΛ : Λ k = (1, 0, o)) {i : Int32} (hin : vp_in i (alen τ k o)) (hdg : decode cc pc = .ok (.iaload, 1))
    (kk : W p l e R s m args below meth c H locs cells slots Q (F0 m (pc + 1) ls (.int (tA τ k i.toNatClampNeg) :: rest))) : W p l e R s m args below meth c H locs cells slots Q (F0 m pc ls (.int i :: .ref (adr ad a k) :: rest)) :=
  va_iald E.1 E.2.1 E.2.2.2.2.2.1 hw.1 k 0 (wl_at1 hk hΛ) rfl hin hdg kk
theorem ks_cald (E : Bd D cA st p s m args meth c cc nL own ret A) (hw : Wd Λ n D cA ad A s a τ H locs) (k : Nat) {o : List Nat} (hk : k < n) (hΛ : Λ k = (1, 2, o)) {i : Int32} (hin : vp_in i (alen τ k o)) (hdg : decode cc pc = .ok (.caload, 1))
    (kk : W p l e R s m args below meth c H locs cells slots Q (F0 m (pc + 1) ls (.int (tA τ k i.toNatClampNeg) :: rest))) : W p l e R s m args below meth c H locs cells slots Q (F0 m pc ls (.int i :: .ref (adr ad a k) :: rest)) :=
  va_cald E.1 E.2.1 E.2.2.2.2.2.1 hw.1 k 2 (wl_at1 hk hΛ) rfl hin hdg kk
theorem ks_lald (E : Bd D cA st p s m args meth c cc nL own ret A) (hw : Wd Λ n D cA ad A s a τ H locs) (k : Nat) {o : List Nat} (hk : k < n) (hΛ : Λ k = (2, 1, o)) {i : Int32} (hin : vp_in i (alen τ k o)) (hdg : decode cc pc = .ok (.laload, 1))
    (kk : W p l e R s m args below meth c H locs cells slots Q (F0 m (pc + 1) ls (.long (tB τ k i.toNatClampNeg) :: rest))) : W p l e R s m args below meth c H locs cells slots Q (F0 m pc ls (.int i :: .ref (adr ad a k) :: rest)) :=
  va_lald E.1 E.2.1 E.2.2.2.2.2.1 hw.1 k 1 (wl_at2 hk hΛ) rfl hin hdg kk
theorem ks_aald (E : Bd D cA st p s m args meth c cc nL own ret A) (hw : Wd Λ n D cA ad A s a τ H locs) (k : Nat) {o : List Nat} (hk : k < n) (hΛ : Λ k = (3, 3, o)) {i : Int32} (hin : vp_in i (alen τ k o)) (hdg : decode cc pc = .ok (.aaload, 1))
    (kk : W p l e R s m args below meth c H locs cells slots Q (F0 m (pc + 1) ls (.ref (adr ad a (i.toNatClampNeg + 2)) :: rest))) : W p l e R s m args below meth c H locs cells slots Q (F0 m pc ls (.int i :: .ref (adr ad a k) :: rest)) :=
  va_aldq E.1 E.2.1 E.2.2.2.2.2.1 hw.1 k 3 (wl_at3 hk hΛ) rfl hin hdg kk
theorem ks_iast (E : Bd D cA st p s m args meth c cc nL own ret A) (hw : Wd Λ n D cA ad A s a τ H locs) (k : Nat) {o : List Nat} (hk : k < n) (hΛ : Λ k = (1, 0, o)) {i x : Int32} (hin : vp_in i (alen τ k o)) (hdg : decode cc pc = .ok (.iastore, 1))
    (kk : ∀ H1 locs1, Wd Λ n D cA ad A s a (sA τ k i.toNatClampNeg x) H1 locs1 → W p l e R s m args below meth c H1 locs1 cells slots Q (F0 m (pc + 1) ls rest)) : W p l e R s m args below meth c H locs cells slots Q (F0 m pc ls (.int x :: .int i :: .ref (adr ad a k) :: rest)) := by
  refine va_iast E.1 E.2.1 E.2.2.2.2.2.1 hw.1 hw.2.1 hw.2.2 k 0 (wl_at1 hk hΛ) rfl hin hdg (fun H1 locs1 hP hD hS => ?_)
  rw [wl_set (τ' := sA τ k i.toNatClampNeg x) (ent_sA hΛ x) (fun q hq => ent_oA q hq)] at hP hD
  exact kk H1 locs1 ⟨hP, hD, hS⟩
theorem ks_cast (E : Bd D cA st p s m args meth c cc nL own ret A) (hw : Wd Λ n D cA ad A s a τ H locs) (k : Nat) {o : List Nat} (hk : k < n) (hΛ : Λ k = (1, 2, o)) {i x : Int32} (hin : vp_in i (alen τ k o)) (hdg : decode cc pc = .ok (.castore, 1))
    (kk : ∀ H1 locs1, Wd Λ n D cA ad A s a (sA τ k i.toNatClampNeg (vp_nar .char x)) H1 locs1 → W p l e R s m args below meth c H1 locs1 cells slots Q (F0 m (pc + 1) ls rest)) : W p l e R s m args below meth c H locs cells slots Q (F0 m pc ls (.int x :: .int i :: .ref (adr ad a k) :: rest)) := by
  refine va_cast E.1 E.2.1 E.2.2.2.2.2.1 hw.1 hw.2.1 hw.2.2 k 2 (wl_at1 hk hΛ) rfl hin hdg (fun H1 locs1 hP hD hS => ?_)
  rw [wl_set (τ' := sA τ k i.toNatClampNeg (vp_nar .char x)) (ent_sA hΛ (vp_nar .char x)) (fun q hq => ent_oA q hq)] at hP hD
  exact kk H1 locs1 ⟨hP, hD, hS⟩
theorem ks_last (E : Bd D cA st p s m args meth c cc nL own ret A) (hw : Wd Λ n D cA ad A s a τ H locs) (k : Nat) {o : List Nat} (hk : k < n) (hΛ : Λ k = (2, 1, o)) {i : Int32} {x : Int64} (hin : vp_in i (alen τ k o)) (hdg : decode cc pc = .ok (.lastore, 1))
    (kk : ∀ H1 locs1, Wd Λ n D cA ad A s a (sB τ k i.toNatClampNeg x) H1 locs1 → W p l e R s m args below meth c H1 locs1 cells slots Q (F0 m (pc + 1) ls rest)) : W p l e R s m args below meth c H locs cells slots Q (F0 m pc ls (.long x :: .int i :: .ref (adr ad a k) :: rest)) := by
  refine va_last E.1 E.2.1 E.2.2.2.2.2.1 hw.1 hw.2.1 hw.2.2 k 1 (wl_at2 hk hΛ) rfl hin hdg (fun H1 locs1 hP hD hS => ?_)
  rw [wl_set (τ' := sB τ k i.toNatClampNeg x) (ent_sB hΛ x) (fun q hq => ent_oB q hq)] at hP hD
  exact kk H1 locs1 ⟨hP, hD, hS⟩
theorem ks_alen (E : Bd D cA st p s m args meth c cc nL own ret A) (hw : Wd Λ n D cA ad A s a τ H locs) (k : Nat) {g t : Nat} {o : List Nat} (hk : k < n) (hΛ : Λ k = (g + 1, t, o)) {ty : FieldType} (ht : (tyl cA)[t]? = some (cA t, ty)) (v : Int32) (hv : nI (alen τ k o) = v) (hdg : decode cc pc = .ok (.arraylength, 1))
    (kk : W p l e R s m args below meth c H locs cells slots Q (F0 m (pc + 1) ls (.int v :: rest))) : W p l e R s m args below meth c H locs cells slots Q (F0 m pc ls (.ref (adr ad a k) :: rest)) := by
  have h : ∃ x : vp_A, x.1 = alen τ k o ∧ (wl Λ n cA ad a τ)[k]? = some (adr ad a k, .inl (cA t, x)) := by
    rw [wl_get hk]
    unfold ent
    rw [hΛ]
    match g with
    | 0 => exact ⟨_, rfl, rfl⟩
    | 1 => exact ⟨_, rfl, rfl⟩
    | g + 2 => exact ⟨_, rfl, rfl⟩
  obtain ⟨x, hx, hw0⟩ := h
  exact va_alen E.1 E.2.1 E.2.2.2.2.2.1 hw.1 k t hw0 ht (by rw [hx]; exact hv) hdg kk
-- static rows of numbers
theorem ks_gs0 (E : Bd D cA st p s m args meth c cc nL own ret A) (hw : Wd Λ n D cA ad A s a τ H locs) {idx : Nat} (hf : (own, idx, "KindSayings", "WORDS", "[J") ∈ nestF) (hdg : decode cc pc = .ok (.getstatic idx, 3))
    (kk : W p l e R s m args below meth c H locs cells slots Q (F0 m (pc + 3) ls (.ref (st 0) :: rest))) : W p l e R s m args below meth c H locs cells slots Q (F0 m pc ls rest) := by
  obtain ⟨hx, hb, hml, hown, hts, hK, hZ, hN, -⟩ := E
  exact va_getsN hx hb hZ.1.1 hw.2.2 hown (va_Nw.use rfl (hN.2 _ hf)) (fun _ h => h) hdg kk
theorem ks_gs1 (E : Bd D cA st p s m args meth c cc nL own ret A) (hw : Wd Λ n D cA ad A s a τ H locs) {idx : Nat} (hf : (own, idx, "KindSayings", "MOOD_SHOWS", "[I") ∈ nestF) (hdg : decode cc pc = .ok (.getstatic idx, 3))
    (kk : W p l e R s m args below meth c H locs cells slots Q (F0 m (pc + 3) ls (.ref (st 1) :: rest))) : W p l e R s m args below meth c H locs cells slots Q (F0 m pc ls rest) := by
  obtain ⟨hx, hb, hml, hown, hts, hK, hZ, hN, -⟩ := E
  exact va_getsN hx hb hZ.2.1.1 hw.2.2 hown (va_Nw.use rfl (hN.2 _ hf)) (fun _ h => h) hdg kk
theorem ks_gs2 (E : Bd D cA st p s m args meth c cc nL own ret A) (hw : Wd Λ n D cA ad A s a τ H locs) {idx : Nat} (hf : (own, idx, "KindSayings", "MOOD_FIRST", "[I") ∈ nestF) (hdg : decode cc pc = .ok (.getstatic idx, 3))
    (kk : W p l e R s m args below meth c H locs cells slots Q (F0 m (pc + 3) ls (.ref (st 2) :: rest))) : W p l e R s m args below meth c H locs cells slots Q (F0 m pc ls rest) := by
  obtain ⟨hx, hb, hml, hown, hts, hK, hZ, hN, -⟩ := E
  exact va_getsN hx hb hZ.2.2.1.1 hw.2.2 hown (va_Nw.use rfl (hN.2 _ hf)) (fun _ h => h) hdg kk
theorem ks_gs3 (E : Bd D cA st p s m args meth c cc nL own ret A) (hw : Wd Λ n D cA ad A s a τ H locs) {idx : Nat} (hf : (own, idx, "KindSayings", "MOOD_SECOND", "[I") ∈ nestF) (hdg : decode cc pc = .ok (.getstatic idx, 3))
    (kk : W p l e R s m args below meth c H locs cells slots Q (F0 m (pc + 3) ls (.ref (st 3) :: rest))) : W p l e R s m args below meth c H locs cells slots Q (F0 m pc ls rest) := by
  obtain ⟨hx, hb, hml, hown, hts, hK, hZ, hN, -⟩ := E
  exact va_getsN hx hb hZ.2.2.2.1 hw.2.2 hown (va_Nw.use rfl (hN.2 _ hf)) (fun _ h => h) hdg kk
theorem ks_ts0 (E : Bd D cA st p s m args meth c cc nL own ret A) (hw : Wd Λ n D cA ad A s a τ H locs) {i : Int32} (hin : vp_in i 9) (hdg : decode cc pc = .ok (.laload, 1))
    (kk : W p l e R s m args below meth c H locs cells slots Q (F0 m (pc + 1) ls (.long (vWORDS i.toNatClampNeg) :: rest))) : W p l e R s m args below meth c H locs cells slots Q (F0 m pc ls (.int i :: .ref (st 0) :: rest)) :=
  va_tl E.1 E.2.1 E.2.2.2.2.2.2.1.1.2 hw.2.2 hin rfl hdg kk
theorem ks_ts1 (E : Bd D cA st p s m args meth c cc nL own ret A) (hw : Wd Λ n D cA ad A s a τ H locs) {i : Int32} (hin : vp_in i 9) (hdg : decode cc pc = .ok (.iaload, 1))
    (kk : W p l e R s m args below meth c H locs cells slots Q (F0 m (pc + 1) ls (.int (vSHOWS i.toNatClampNeg) :: rest))) : W p l e R s m args below meth c H locs cells slots Q (F0 m pc ls (.int i :: .ref (st 1) :: rest)) :=
  va_ti E.1 E.2.1 E.2.2.2.2.2.2.1.2.1.2 hw.2.2 hin rfl hdg kk
theorem ks_ts2 (E : Bd D cA st p s m args meth c cc nL own ret A) (hw : Wd Λ n D cA ad A s a τ H locs) {i : Int32} (hin : vp_in i 9) (hdg : decode cc pc = .ok (.iaload, 1))
    (kk : W p l e R s m args below meth c H locs cells slots Q (F0 m (pc + 1) ls (.int (vFIRST i.toNatClampNeg) :: rest))) : W p l e R s m args below meth c H locs cells slots Q (F0 m pc ls (.int i :: .ref (st 2) :: rest)) :=
  va_ti E.1 E.2.1 E.2.2.2.2.2.2.1.2.2.1.2 hw.2.2 hin rfl hdg kk
theorem ks_ts3 (E : Bd D cA st p s m args meth c cc nL own ret A) (hw : Wd Λ n D cA ad A s a τ H locs) {i : Int32} (hin : vp_in i 9) (hdg : decode cc pc = .ok (.iaload, 1))
    (kk : W p l e R s m args below meth c H locs cells slots Q (F0 m (pc + 1) ls (.int (vSECOND i.toNatClampNeg) :: rest))) : W p l e R s m args below meth c H locs cells slots Q (F0 m pc ls (.int i :: .ref (st 3) :: rest)) :=
  va_ti E.1 E.2.1 E.2.2.2.2.2.2.1.2.2.2.2 hw.2.2 hin rfl hdg kk
theorem ks_tlen0 (E : Bd D cA st p s m args meth c cc nL own ret A) (hw : Wd Λ n D cA ad A s a τ H locs) (hdg : decode cc pc = .ok (.arraylength, 1))
    (kk : W p l e R s m args below meth c H locs cells slots Q (F0 m (pc + 1) ls (.int 9 :: rest))) : W p l e R s m args below meth c H locs cells slots Q (F0 m pc ls (.ref (st 0) :: rest)) := va_tlen E.1 E.2.1 E.2.2.2.2.2.2.1.1.2 hw.2.2 rfl hdg kk
theorem ks_tlen1 (E : Bd D cA st p s m args meth c cc nL own ret A) (hw : Wd Λ n D cA ad A s a τ H locs) (hdg : decode cc pc = .ok (.arraylength, 1))
    (kk : W p l e R s m args below meth c H locs cells slots Q (F0 m (pc + 1) ls (.int 9 :: rest))) : W p l e R s m args below meth c H locs cells slots Q (F0 m pc ls (.ref (st 1) :: rest)) := va_tlen E.1 E.2.1 E.2.2.2.2.2.2.1.2.1.2 hw.2.2 rfl hdg kk
theorem ks_tlen2 (E : Bd D cA st p s m args meth c cc nL own ret A) (hw : Wd Λ n D cA ad A s a τ H locs) (hdg : decode cc pc = .ok (.arraylength, 1))
    (kk : W p l e R s m args below meth c H locs cells slots Q (F0 m (pc + 1) ls (.int 9 :: rest))) : W p l e R s m args below meth c H locs cells slots Q (F0 m pc ls (.ref (st 2) :: rest)) := va_tlen E.1 E.2.1 E.2.2.2.2.2.2.1.2.2.1.2 hw.2.2 rfl hdg kk
theorem ks_tlen3 (E : Bd D cA st p s m args meth c cc nL own ret A) (hw : Wd Λ n D cA ad A s a τ H locs) (hdg : decode cc pc = .ok (.arraylength, 1))
    (kk : W p l e R s m args below meth c H locs cells slots Q (F0 m (pc + 1) ls (.int 9 :: rest))) : W p l e R s m args below meth c H locs cells slots Q (F0 m pc ls (.ref (st 3) :: rest)) := va_tlen E.1 E.2.1 E.2.2.2.2.2.2.1.2.2.2.2 hw.2.2 rfl hdg kk
-- ends
theorem KPost.to {post : Option Value → Nat → Tau → Prop} (E : Bd D cA st p s m args meth c cc nL own ret A) (hw : Wd Λ n D cA ad A s a τ H locs) {v : Option Value} (h : post v a τ) : ∀ t : State, t.heap = H → s.WarmedH t.vm → KPost Λ n D cA ad A post args s (.returned v) t := by
  intro t ht hW
  exact ⟨⟨v, a, τ, rfl, h, by rw [ht]; exact hw.1, hw.2.1, va_K.moved hW.alike E.2.2.2.2.2.1⟩, hw.2.2.F ht⟩
theorem ks_iret {post : Option Value → Nat → Tau → Prop} (E : Bd D cA st p s m args meth c cc nL own (some .int) A) (hw : Wd Λ n D cA ad A s a τ H locs) {v : Int32} (hdg : decode cc pc = .ok (.ireturn, 1)) (h : post (some (.int v)) a τ) :
    W p l e R s m args below meth c H locs cells slots (MQ below (KPost Λ n D cA ad A post) args s cells slots A) (F0 m pc ls [.int v]) :=
  W.iret (v := v) E.1 E.2.1 E.2.2.2.2.2.2.2.2.2.2 (KPost.to E hw h) hw.2.2.2.2 hdg E.2.2.2.2.2.2.2.2.2.1
theorem ks_zret {post : Option Value → Nat → Tau → Prop} (E : Bd D cA st p s m args meth c cc nL own (some .boolean) A) (hw : Wd Λ n D cA ad A s a τ H locs) {v : Int32} (hn : narrow .boolean (.int v) = .int v) (hdg : decode cc pc = .ok (.ireturn, 1)) (h : post (some (.int v)) a τ) :
    W p l e R s m args below meth c H locs cells slots (MQ below (KPost Λ n D cA ad A post) args s cells slots A) (F0 m pc ls [.int v]) :=
  W.zret (v := v) E.1 E.2.1 E.2.2.2.2.2.2.2.2.2.2 hn (KPost.to E hw h) hw.2.2.2.2 hdg E.2.2.2.2.2.2.2.2.2.1
theorem ks_lret {post : Option Value → Nat → Tau → Prop} (E : Bd D cA st p s m args meth c cc nL own (some .long) A) (hw : Wd Λ n D cA ad A s a τ H locs) {v : Int64} (hdg : decode cc pc = .ok (.lreturn, 1)) (h : post (some (.long v)) a τ) :
    W p l e R s m args below meth c H locs cells slots (MQ below (KPost Λ n D cA ad A post) args s cells slots A) (F0 m pc ls [.long v]) :=
  W.lret (v := v) E.1 E.2.1 E.2.2.2.2.2.2.2.2.2.2 (KPost.to E hw h) hw.2.2.2.2 hdg E.2.2.2.2.2.2.2.2.2.1
theorem ks_vret {post : Option Value → Nat → Tau → Prop} (E : Bd D cA st p s m args meth c cc nL own none A) (hw : Wd Λ n D cA ad A s a τ H locs) (hdg : decode cc pc = .ok (.return_, 1)) (h : post none a τ) :
    W p l e R s m args below meth c H locs cells slots (MQ below (KPost Λ n D cA ad A post) args s cells slots A) (F0 m pc ls []) :=
  W.vret E.1 E.2.1 E.2.2.2.2.2.2.2.2.2.2 (KPost.to E hw h) hw.2.2.2.2 hdg E.2.2.2.2.2.2.2.2.2.1
theorem ks_aret {post : Option Value → Nat → Tau → Prop} {C : String} (E : Bd D cA st p s m args meth c cc nL own (some (.object C)) A) (hw : Wd Λ n D cA ad A s a τ H locs) {v : Value} (hv : v = .null ∨ ∃ q, v = .ref q) (hdg : decode cc pc = .ok (.areturn, 1)) (h : post (some v) a τ) :
    W p l e R s m args below meth c H locs cells slots (MQ below (KPost Λ n D cA ad A post) args s cells slots A) (F0 m pc ls [v]) :=
  W.aret (v := v) E.1 E.2.1 E.2.2.2.2.2.2.2.2.2.2 (Or.inl ⟨C, rfl⟩) hv (KPost.to E hw h) hw.2.2.2.2 hdg E.2.2.2.2.2.2.2.2.2.1
-- calls
theorem ks_back {mc ms : Nat} {st0 : List Value} {x : Array Value} {post : Option Value → Nat → Tau → Prop}
    (hr : va_Run p l e R s m args below meth c H locs cells slots mc ms (F0 m pc ls st0) rest (KPost Λ n D cA ad A post x) A) (hw : Wd Λ n D cA ad A s a τ H locs)
    (kk : ∀ (v : Option Value) (a' : Nat) (τ' : Tau) H1 locs1, post v a' τ' → Wd Λ n D cA ad A s a' τ' H1 locs1 → W p l e R s m args below meth c H1 locs1 (cells + mc) (slots + ms) Q (F0 m (pc + 3) ls (v.toList ++ rest))) : W p l e R s m args below meth c H locs cells slots Q (F0 m pc ls st0) := by
  intro T hT X
  obtain ⟨v, st₀, t, T', L, h0, X', hL, e1, e2, ⟨⟨v', a', τ', hv, hp, hP, hD, hK⟩, hz, hk⟩, stp⟩ := hr T hT X
  cases hv
  rw [h0] at hz hk
  have hS := hw.2.2
  obtain ⟨t2, a1, b1⟩ := kk v a' τ' T'.heap (locs ++ L) hp ⟨by rw [e1]; exact hP, hD, Nat.le_trans hS.1 (by rw [e1]; exact hz), fun q h1 h2 => by rw [e1, hk q (Nat.lt_of_lt_of_le h1 hS.1) h2]; exact hS.2.1 q h1 h2, fun q hq => by
      rcases List.mem_append.mp hq with h | h
      · exact hS.2.2 q h
      · exact hL q h⟩ T' rfl X'
  exact ⟨t2, stp t2 a1, b1⟩
theorem ks_pre (E : Bd D cA st p s m args meth c cc nL own ret A) (hw : Wd Λ n D cA ad A s a τ H locs) (As : List Value) : PreS s H (KPre Λ n D cA st ad A H.size As a τ) As :=
  ⟨KPre.blind, fun U hU hW => ⟨rfl, by rw [hU], fun q h => E.2.2.2.2.2.2.2.2.1 q (Nat.le_trans hw.2.2.1 h), ⟨by rw [hU]; exact hw.1, hw.2.1, va_K.moved hW.alike E.2.2.2.2.2.1⟩, by rw [hU]; exact ZT.moved hW.alike (E.2.2.2.2.2.2.1.kept (fun q h1 h2 => hw.2.2.2.1 q h1 h2)), NW.warm hW E.2.2.2.2.2.2.2.1⟩⟩
/-- a static method of ours or of the JDK, by its words -/
def kCs (own : String) (idx : Nat) (y : MethodName) (b : ByteArray) (maxL : Nat) (ret : Option FieldType) (np : Nat) : Prop :=
  Cond.methodLink own idx y ∈ Gd ∧ Cond.static y ∈ Gd ∧ Cond.initialized y.cls ∈ Gd ∧ Cond.code y b maxL ret ∈ Gd ∧ y.cls ≠ "java/lang/invoke/MethodHandle" ∧ y.cls ≠ "java/lang/invoke/VarHandle" ∧ (parseMethodDescriptor y.desc).map (fun d => d.parameters.length) = some np
def kCsN (own : String) (idx : Nat) (y : MethodName) (b : ByteArray) (maxL : Nat) (ret : Option FieldType) (np : Nat) : Prop :=
  (own, idx, y) ∈ nestM ∧ Cond.static y ∈ Gd ∧ Cond.initialized y.cls ∈ Gd ∧ Cond.code y b maxL ret ∈ Gd ∧ y.cls ≠ "java/lang/invoke/MethodHandle" ∧ y.cls ≠ "java/lang/invoke/VarHandle" ∧ (parseMethodDescriptor y.desc).map (fun d => d.parameters.length) = some np
def kCv (own : String) (idx : Nat) (y : MethodName) (b : ByteArray) (maxL : Nat) (ret : Option FieldType) (np : Nat) : Prop :=
  Cond.methodLink own idx y ∈ Gd ∧ Cond.instanceMethod y ∈ Gd ∧ Cond.selects y.cls y y ∈ Gd ∧ Cond.initialized y.cls ∈ Gd ∧ Cond.code y b maxL ret ∈ Gd ∧ y.cls ≠ "java/lang/invoke/MethodHandle" ∧ y.cls ≠ "java/lang/invoke/VarHandle" ∧ (parseMethodDescriptor y.desc).map (fun d => d.parameters.length) = some np
theorem Gd_cons {w : Cond} : GoodIn (w :: Gd) Gd := fun v hv => ⟨List.mem_cons_of_mem _ hv, good_of_word (Gd_good v hv)⟩
theorem Gd_code {y : MethodName} {b : ByteArray} {maxL : Nat} {r : Option FieldType} (h : Cond.code y b maxL r ∈ Gd) : GoodIn Gd (Cond.code y b maxL r :: Gd) := fun v hv => by
  rcases List.mem_cons.mp hv with e | e
  · exact ⟨by rw [e]; exact h, good_of_word (Gd_good v (by rw [e]; exact h))⟩
  · exact ⟨e, good_of_word (Gd_good v e)⟩
theorem Gd_app {ws vs : List Cond} (h : ∀ w ∈ ws, w ∈ Gd) (h2 : GoodIn Gd vs) : GoodIn Gd (ws ++ vs) := fun v hv => by
  rcases List.mem_append.mp hv with e | e
  · exact ⟨h v e, good_of_word (Gd_good v (h v e))⟩
  · exact h2 v e
theorem ks_callS {y : MethodName} {b : ByteArray} {maxL np fr lo mc ms idx : Nat} {rt : Option FieldType} {post : Option Value → Nat → Tau → Prop} (E : Bd D cA st p s m args meth c cc nL own ret A) (hw : Wd Λ n D cA ad A s a τ H locs) (hls : ls.size = nL) (hc : kCs own idx y b maxL rt np) (As : List Value) (hM : KC Λ n D cA st ad l y b maxL rt fr lo mc ms As a τ post)
    (hn : As.length = np) (hR : fr + 1 ≤ R.frames ∧ 8 + (maxL + 11) + lo ≤ R.locals) (hf : cells + mc ≤ R.cells ∧ slots + ms ≤ R.slots) (hcat : (rest.map fun v => v.category).sum ≤ 8) {st0 : List Value} (hst : st0 = As.reverse ++ rest) (hdg : decode cc pc = .ok (.invokestatic idx, 3))
    (kk : ∀ (v : Option Value) (a' : Nat) (τ' : Tau) H1 locs1, post v a' τ' → Wd Λ n D cA ad A s a' τ' H1 locs1 → W p l e R s m args below meth c H1 locs1 (cells + mc) (slots + ms) Q (F0 m (pc + 3) ls (v.toList ++ rest))) : W p l e R s m args below meth c H locs cells slots Q (F0 m pc ls st0) := by
  obtain ⟨hx, hb, hml, hown, hts, -⟩ := id E
  obtain ⟨h1, h2, h3, h4, h5⟩ := hc
  exact ks_back (va_runS (As := As) (rest := rest) ⟨hx, hb, hml, hown, hts⟩ (hM A H.size) (va_cwS np hts (Gd_app (fun w hw => by simp only [List.mem_cons, List.not_mem_nil, or_false] at hw; rcases hw with rfl | rfl | rfl <;> assumption) (Gd_code h4)) rfl rfl rfl h5 hR) (ks_pre E hw As) rfl hn hls hst (lv_room hcat) hdg hf) hw kk
theorem ks_callSN {y : MethodName} {b : ByteArray} {maxL np fr lo mc ms idx : Nat} {rt : Option FieldType} {post : Option Value → Nat → Tau → Prop} (E : Bd D cA st p s m args meth c cc nL own ret A) (hw : Wd Λ n D cA ad A s a τ H locs) (hls : ls.size = nL) (hc : kCsN own idx y b maxL rt np) (As : List Value) (hM : KC Λ n D cA st ad l y b maxL rt fr lo mc ms As a τ post)
    (hn : As.length = np) (hR : fr + 1 ≤ R.frames ∧ 8 + (maxL + 11) + lo ≤ R.locals) (hf : cells + mc ≤ R.cells ∧ slots + ms ≤ R.slots) (hcat : (rest.map fun v => v.category).sum ≤ 8) {st0 : List Value} (hst : st0 = As.reverse ++ rest) (hdg : decode cc pc = .ok (.invokestatic idx, 3))
    (kk : ∀ (v : Option Value) (a' : Nat) (τ' : Tau) H1 locs1, post v a' τ' → Wd Λ n D cA ad A s a' τ' H1 locs1 → W p l e R s m args below meth c H1 locs1 (cells + mc) (slots + ms) Q (F0 m (pc + 3) ls (v.toList ++ rest))) : W p l e R s m args below meth c H locs cells slots Q (F0 m pc ls st0) := by
  obtain ⟨hx, hb, hml, hown, hts, -, -, hN, -⟩ := id E
  obtain ⟨h1, h2, h3, h4, h5⟩ := hc
  exact ks_back (va_runSN (As := As) (rest := rest) ⟨hx, hb, hml, hown, hts⟩ (hM A H.size) ⟨va_cnB np hts (Gd_code h4) rfl rfl rfl (hN.1 _ h1) (hts _ h3) h5 hR, hts _ h2, trivial⟩ (ks_pre E hw As) rfl hn hls hst (lv_room hcat) hdg hf) hw kk
theorem ks_callV {y : MethodName} {b : ByteArray} {maxL np fr lo mc ms idx : Nat} {rt : Option FieldType} {post : Option Value → Nat → Tau → Prop} (E : Bd D cA st p s m args meth c cc nL own ret A) (hw : Wd Λ n D cA ad A s a τ H locs) (hls : ls.size = nL) (hc : kCv own idx y b maxL rt np) (k : Nat) {ci : Nat} {ts : List Nat} (hk : k < n) (hΛ : Λ k = (0, ci, ts)) {T : u_T} {N : Nat} (hci : classes[ci]? = some (y.cls, T, N))
    (As : List Value) (hM : KC Λ n D cA st ad l y b maxL rt fr lo mc ms (.ref (adr ad a k) :: As) a τ post)
    (hn : As.length = np) (hR : fr + 1 ≤ R.frames ∧ 8 + (maxL + 11) + lo ≤ R.locals) (hf : cells + mc ≤ R.cells ∧ slots + ms ≤ R.slots) (hcat : (rest.map fun v => v.category).sum ≤ 8) {st0 : List Value} (hst : st0 = As.reverse ++ .ref (adr ad a k) :: rest) (hdg : decode cc pc = .ok (.invokevirtual idx, 3))
    (kk : ∀ (v : Option Value) (a' : Nat) (τ' : Tau) H1 locs1, post v a' τ' → Wd Λ n D cA ad A s a' τ' H1 locs1 → W p l e R s m args below meth c H1 locs1 (cells + mc) (slots + ms) Q (F0 m (pc + 3) ls (v.toList ++ rest))) : W p l e R s m args below meth c H locs cells slots Q (F0 m pc ls st0) := by
  obtain ⟨hx, hb, hml, hown, hts, hK, -, hN, -⟩ := id E
  obtain ⟨h1, h2, h3, h4, h5, h6⟩ := hc
  have he : (wl Λ n cA ad a τ)[k]? = some (adr ad a k, .inr (ci, flds ad a τ k 0 ts)) := by
    rw [wl_get hk]
    unfold ent
    rw [hΛ]
    rfl
  exact ks_back (va_runV (As := As) (rest := rest) ⟨hx, hb, hml, hown, hts⟩ (hM A H.size) (cwV np hts (Gd_app (fun w hw => by simp only [List.mem_cons, List.not_mem_nil, or_false] at hw; rcases hw with rfl | rfl | rfl | rfl <;> assumption) (Gd_code h5)) rfl rfl rfl ⟨rfl, h6⟩ hR) ⟨KPre.blind, va_recv hK hw.1 hci he, (ks_pre E hw (.ref (adr ad a k) :: As)).2⟩ rfl hn hls hst (lv_room hcat) hdg hf) hw kk
end KA
-- the pure side's small words
def nm {α β : Type} (x : α) (f : α → β) : β := f x
theorem ks_nm {α β : Type} {x : α} {f : α → β} {r : β} (h : nm x f = r) : ∃ y, y = x ∧ f y = r := ⟨x, rfl, h⟩
theorem ks_bind {α β : Type} {x : Option α} {f : α → Option β} {r : β} (h : x.bind f = some r) : ∃ y, x = some y ∧ f y = some r := by
  cases x with
  | none => cases h
  | some y => exact ⟨y, rfl, h⟩
theorem ks_ok {c : Prop} [Decidable c] {α : Type} {x : Option α} {r : α} (h : (if c then none else x) = some r) : ¬ c ∧ x = some r := by
  by_cases hc : c
  · rw [if_pos hc] at h; cases h
  · rw [if_neg hc] at h; exact ⟨hc, h⟩
theorem ks_need {c : Prop} [Decidable c] {α : Type} {x : Option α} {r : α} (h : (if c then x else none) = some r) : c ∧ x = some r := by
  by_cases hc : c
  · rw [if_pos hc] at h; exact ⟨hc, h⟩
  · rw [if_neg hc] at h; cases h
theorem nar_bool {x : Int32} (h : x = 0 ∨ x = 1) : narrow .boolean (.int x) = .int x ∧ fits .boolean (.int x) = true := by
  rcases h with rfl | rfl <;> exact ⟨by decide +kernel, by decide +kernel⟩
end
section
/-! the usual contract (nothing made, the memory behind it is one that is told), its start, its calls, its ends -/
section KE
variable {Λ : Lay} {n : Nat} {D : va_G} {cA : Nat → ClassId} {st ad : Nat → Nat}
/-- returns v0, the memory is τ0 then, nothing made -/
def KE (Λ : Lay) (n : Nat) (D : va_G) (cA : Nat → ClassId) (st ad : Nat → Nat) (l : Launch) (y : MethodName) (b : ByteArray) (maxL : Nat) (ret : Option FieldType) (fr lo : Nat) (As : List Value) (a : Nat) (τ : Tau) (v0 : Option Value) (τ0 : Tau) : Prop :=
  KC Λ n D cA st ad l y b maxL ret fr lo 0 0 As a τ (fun v a' τ' => v = v0 ∧ a' = a ∧ τ' = τ0)
theorem KE.of {l : Launch} {y : MethodName} {b : ByteArray} {maxL : Nat} {ret : Option FieldType} {fr lo : Nat} {As : List Value} {a : Nat} {τ τ0 : Tau} {v0 : Option Value} (own : String) (ho : y.cls = own)
    (hy : plainName y.cls = true) (hL : (lg_sl As).length ≤ maxL)
    (body : ∀ (p : Program) (e : Env) (s : State) (m : MethodId) (args : Array Value) (below : List Frame) (meth : Method) (c : Code) (A : Nat → Prop) (ls : Array Slot) (Rm : Room) (Q : State → Prop),
      Bd D cA st p s m args meth c b maxL own ret A → Rm.frames = fr ∧ Rm.locals = lo → Q = MQ below (KPost Λ n D cA ad A (fun v a' τ' => v = v0 ∧ a' = a ∧ τ' = τ0)) args s 0 0 A → Wd Λ n D cA ad A s a τ s.heap [] → lv_has ls maxL (lv_args 0 As) →
      W p l e Rm s m args below meth c s.heap [] 0 0 Q (F0 m 0 ls [])) :
    KE Λ n D cA st ad l y b maxL ret fr lo As a τ v0 τ0 := by
  subst ho
  exact KC.of hy hL (fun p e s m args below meth c A ls E hw hl _ => body p e s m args below meth c A ls _ _ E ⟨rfl, rfl⟩ rfl hw hl)
end KE
section KEr
variable {p : Program} {l : Launch} {e : Env} {R : Room} {s : State} {m : MethodId} {args : Array Value} {below : List Frame} {meth : Method} {c : Code} {H : Heap} {locs : List Loc} {cells slots : Nat} {Q : State → Prop}
variable {Λ : Lay} {n : Nat} {D : va_G} {cA : Nat → ClassId} {st ad : Nat → Nat} {cc : ByteArray} {nL : Nat} {own : String} {ret : Option FieldType} {A : Nat → Prop} {a : Nat} {τ : Tau} {pc : Nat} {ls : Array Slot} {rest : List Value}
theorem ke_room {Rm : Room} {F L fr lo maxL : Nat} (h : Rm.frames = F ∧ Rm.locals = L) (h1 : Nat.ble (fr + 1) F = true) (h2 : Nat.ble (8 + (maxL + 11) + lo) L = true) : fr + 1 ≤ Rm.frames ∧ 8 + (maxL + 11) + lo ≤ Rm.locals := by
  rw [h.1, h.2]
  exact ⟨Nat.le_of_ble_eq_true h1, Nat.le_of_ble_eq_true h2⟩
theorem ke_iret {v : Int32} {v0 : Option Value} {τ0 : Tau} (E : Bd D cA st p s m args meth c cc nL own (some .int) A) (hw : Wd Λ n D cA ad A s a τ H locs) (hQ : Q = MQ below (KPost Λ n D cA ad A (fun v a' τ' => v = v0 ∧ a' = a ∧ τ' = τ0)) args s 0 0 A) (hdg : decode cc pc = .ok (.ireturn, 1)) (hv : some (.int v) = v0) (ht : τ = τ0) :
    W p l e R s m args below meth c H locs 0 0 Q (F0 m pc ls [.int v]) := by
  rw [hQ]; exact ks_iret E hw hdg ⟨hv, rfl, ht⟩
theorem ke_zret {v : Int32} {v0 : Option Value} {τ0 : Tau} (E : Bd D cA st p s m args meth c cc nL own (some .boolean) A) (hw : Wd Λ n D cA ad A s a τ H locs) (hQ : Q = MQ below (KPost Λ n D cA ad A (fun v a' τ' => v = v0 ∧ a' = a ∧ τ' = τ0)) args s 0 0 A) (hz : v = 0 ∨ v = 1) (hdg : decode cc pc = .ok (.ireturn, 1)) (hv : some (.int v) = v0) (ht : τ = τ0) :
    W p l e R s m args below meth c H locs 0 0 Q (F0 m pc ls [.int v]) := by
  rw [hQ]; exact ks_zret E hw (nar_bool hz).1 hdg ⟨hv, rfl, ht⟩
theorem ke_lret {v : Int64} {v0 : Option Value} {τ0 : Tau} (E : Bd D cA st p s m args meth c cc nL own (some .long) A) (hw : Wd Λ n D cA ad A s a τ H locs) (hQ : Q = MQ below (KPost Λ n D cA ad A (fun v a' τ' => v = v0 ∧ a' = a ∧ τ' = τ0)) args s 0 0 A) (hdg : decode cc pc = .ok (.lreturn, 1)) (hv : some (.long v) = v0) (ht : τ = τ0) :
    W p l e R s m args below meth c H locs 0 0 Q (F0 m pc ls [.long v]) := by
  rw [hQ]; exact ks_lret E hw hdg ⟨hv, rfl, ht⟩
theorem ke_vret {τ0 : Tau} (E : Bd D cA st p s m args meth c cc nL own none A) (hw : Wd Λ n D cA ad A s a τ H locs) (hQ : Q = MQ below (KPost Λ n D cA ad A (fun v a' τ' => v = none ∧ a' = a ∧ τ' = τ0)) args s 0 0 A) (hdg : decode cc pc = .ok (.return_, 1)) (ht : τ = τ0) :
    W p l e R s m args below meth c H locs 0 0 Q (F0 m pc ls []) := by
  rw [hQ]; exact ks_vret E hw hdg ⟨rfl, rfl, ht⟩
theorem ke_aret {C : String} {v : Value} {v0 : Option Value} {τ0 : Tau} (E : Bd D cA st p s m args meth c cc nL own (some (.object C)) A) (hw : Wd Λ n D cA ad A s a τ H locs) (hQ : Q = MQ below (KPost Λ n D cA ad A (fun v a' τ' => v = v0 ∧ a' = a ∧ τ' = τ0)) args s 0 0 A) (hz : v = .null ∨ ∃ q, v = .ref q) (hdg : decode cc pc = .ok (.areturn, 1)) (hv : some v = v0) (ht : τ = τ0) :
    W p l e R s m args below meth c H locs 0 0 Q (F0 m pc ls [v]) := by
  rw [hQ]; exact ks_aret E hw hz hdg ⟨hv, rfl, ht⟩
theorem ke_S {y : MethodName} {b : ByteArray} {maxL np fr lo idx : Nat} {rt : Option FieldType} {v0 : Option Value} {τ0 : Tau} (E : Bd D cA st p s m args meth c cc nL own ret A) (hw : Wd Λ n D cA ad A s a τ H locs) (hls : ls.size = nL) (hc : kCs own idx y b maxL rt np) (As : List Value) (hM : KE Λ n D cA st ad l y b maxL rt fr lo As a τ v0 τ0)
    (hn : As.length = np) (hR : fr + 1 ≤ R.frames ∧ 8 + (maxL + 11) + lo ≤ R.locals) (hf : cells ≤ R.cells ∧ slots ≤ R.slots) (hcat : (rest.map fun v => v.category).sum ≤ 8) {st0 : List Value} (hst : st0 = As.reverse ++ rest) (hdg : decode cc pc = .ok (.invokestatic idx, 3))
    (kk : ∀ H1 locs1, Wd Λ n D cA ad A s a τ0 H1 locs1 → W p l e R s m args below meth c H1 locs1 cells slots Q (F0 m (pc + 3) ls (v0.toList ++ rest))) : W p l e R s m args below meth c H locs cells slots Q (F0 m pc ls st0) :=
  ks_callS E hw hls hc As hM hn hR hf hcat hst hdg (fun v a' τ' H1 locs1 hp hw1 => by obtain ⟨h1, h2, h3⟩ := hp; subst h1; subst h2; subst h3; exact kk H1 locs1 hw1)
theorem ke_SN {y : MethodName} {b : ByteArray} {maxL np fr lo idx : Nat} {rt : Option FieldType} {v0 : Option Value} {τ0 : Tau} (E : Bd D cA st p s m args meth c cc nL own ret A) (hw : Wd Λ n D cA ad A s a τ H locs) (hls : ls.size = nL) (hc : kCsN own idx y b maxL rt np) (As : List Value) (hM : KE Λ n D cA st ad l y b maxL rt fr lo As a τ v0 τ0)
    (hn : As.length = np) (hR : fr + 1 ≤ R.frames ∧ 8 + (maxL + 11) + lo ≤ R.locals) (hf : cells ≤ R.cells ∧ slots ≤ R.slots) (hcat : (rest.map fun v => v.category).sum ≤ 8) {st0 : List Value} (hst : st0 = As.reverse ++ rest) (hdg : decode cc pc = .ok (.invokestatic idx, 3))
    (kk : ∀ H1 locs1, Wd Λ n D cA ad A s a τ0 H1 locs1 → W p l e R s m args below meth c H1 locs1 cells slots Q (F0 m (pc + 3) ls (v0.toList ++ rest))) : W p l e R s m args below meth c H locs cells slots Q (F0 m pc ls st0) :=
  ks_callSN E hw hls hc As hM hn hR hf hcat hst hdg (fun v a' τ' H1 locs1 hp hw1 => by obtain ⟨h1, h2, h3⟩ := hp; subst h1; subst h2; subst h3; exact kk H1 locs1 hw1)
theorem ke_V {y : MethodName} {b : ByteArray} {maxL np fr lo idx : Nat} {rt : Option FieldType} {v0 : Option Value} {τ0 : Tau} (E : Bd D cA st p s m args meth c cc nL own ret A) (hw : Wd Λ n D cA ad A s a τ H locs) (hls : ls.size = nL) (hc : kCv own idx y b maxL rt np) (k : Nat) {ci : Nat} {ts : List Nat} (hk : k < n) (hΛ : Λ k = (0, ci, ts)) {T : u_T} {N : Nat} (hci : classes[ci]? = some (y.cls, T, N))
    (As : List Value) (hM : KE Λ n D cA st ad l y b maxL rt fr lo (.ref (adr ad a k) :: As) a τ v0 τ0)
    (hn : As.length = np) (hR : fr + 1 ≤ R.frames ∧ 8 + (maxL + 11) + lo ≤ R.locals) (hf : cells ≤ R.cells ∧ slots ≤ R.slots) (hcat : (rest.map fun v => v.category).sum ≤ 8) {st0 : List Value} (hst : st0 = As.reverse ++ .ref (adr ad a k) :: rest) (hdg : decode cc pc = .ok (.invokevirtual idx, 3))
    (kk : ∀ H1 locs1, Wd Λ n D cA ad A s a τ0 H1 locs1 → W p l e R s m args below meth c H1 locs1 cells slots Q (F0 m (pc + 3) ls (v0.toList ++ rest))) : W p l e R s m args below meth c H locs cells slots Q (F0 m pc ls st0) :=
  ks_callV E hw hls hc k hk hΛ hci As hM hn hR hf hcat hst hdg (fun v a' τ' H1 locs1 hp hw1 => by obtain ⟨h1, h2, h3⟩ := hp; subst h1; subst h2; subst h3; exact kk H1 locs1 hw1)
theorem ke_cnt {R : Room} : 0 ≤ R.cells ∧ 0 ≤ R.slots := ⟨Nat.zero_le _, Nat.zero_le _⟩
theorem ks_sw {x : Int32} {k : Int} {y : Int32} (h : ¬ x = y) (hy : y.toInt = k) : x.toInt ≠ k := fun e => h (Int32.toInt_inj.mp (e.trans hy.symm))
end KEr
/-! the two layouts -/
def ΛXl : List (Nat × Nat × List Nat) := [(0, 6, [3, 14, 15, 19, 29, 0, 0, 0]), (3, 3, [10]),
  (0, 3, [0, 0, 0, 0, 0, 0]), (0, 3, [0, 0, 0, 0, 0, 0]), (0, 3, [0, 0, 0, 0, 0, 0]), (0, 3, [0, 0, 0, 0, 0, 0]), (0, 3, [0, 0, 0, 0, 0, 0]),
  (0, 3, [0, 0, 0, 0, 0, 0]), (0, 3, [0, 0, 0, 0, 0, 0]), (0, 3, [0, 0, 0, 0, 0, 0]), (0, 3, [0, 0, 0, 0, 0, 0]), (0, 3, [0, 0, 0, 0, 0, 0]),
  (1, 0, [16]), (0, 2, [16, 18, 0, 0, 0, 0]), (0, 4, [17, 0, 0, 0, 0, 0, 0]), (1, 2, [80]), (0, 3, [0, 0, 0, 0, 0, 0]),
  (0, 0, [20, 24, 25, 26, 27, 28, 0, 0, 0, 0]), (0, 5, [21, 22, 23, 0, 0, 0]), (1, 0, [6]), (1, 0, [16]), (1, 0, [7]),
  (1, 0, [1024]), (1, 0, [1024]), (1, 0, [1024]), (2, 1, [16]), (1, 2, []), (0, 1, [30, 1, 1, 0, 0, 0, 0, 0]), (1, 0, [64])]
def ΛX : Lay := fun k => ΛXl.getD k (0, 99, [])
def ΛMl : List (Nat × Nat × List Nat) := [(0, 7, [0, 0, 0, 0, 3, 4, 0, 0, 0, 0, 0, 0, 0, 5, 6, 7, 0, 0, 0, 8, 9, 10, 11, 12, 13, 0, 0, 0, 0]),
  (1, 0, [16]), (1, 0, [80]), (1, 0, [60]), (1, 0, [60]), (1, 0, [60]), (1, 0, [16]), (1, 0, [1024]), (1, 0, [1024]), (1, 0, [16384]), (2, 1, [1024]), (1, 0, [64])]
def ΛM : Lay := fun k => ΛMl.getD k (0, 99, [])
/-- one of the ten sayings, or the draft -/
def isSay (q : Nat) : Prop := (2 ≤ q ∧ q < 12) ∨ q = 16
theorem say_lay {q : Nat} (h : isSay q) : ΛX q = (0, 3, [0, 0, 0, 0, 0, 0]) := by
  rcases h with h | h
  · have : q = 2 ∨ q = 3 ∨ q = 4 ∨ q = 5 ∨ q = 6 ∨ q = 7 ∨ q = 8 ∨ q = 9 ∨ q = 10 ∨ q = 11 := by omega
    rcases this with rfl | rfl | rfl | rfl | rfl | rfl | rfl | rfl | rfl | rfl <;> rfl
  · subst h; rfl
theorem say_lt {q : Nat} (h : isSay q) : q < 29 := by rcases h with h | h <;> omega
theorem say_16 : isSay 16 := Or.inr rfl
theorem say_at {i : Int32} (h : ¬ (i < 0 ∨ 10 ≤ i.toNatClampNeg)) : isSay (i.toNatClampNeg + 2) := Or.inl (by omega)
/-- the reference's rows of things by sorts -/
def isRow (q : Nat) : Prop := q = 1 ∨ q = 6
theorem row_lay {q : Nat} (h : isRow q) : ΛM q = (1, 0, [16]) := by rcases h with rfl | rfl <;> rfl
theorem row_lt {q : Nat} (h : isRow q) : q < 12 := by rcases h with rfl | rfl <;> omega
theorem row_1 : isRow 1 := Or.inl rfl
theorem row_6 : isRow 6 := Or.inr rfl
end
section
theorem lyX_0 : ΛX 0 = (0, 6, [3, 14, 15, 19, 29, 0, 0, 0]) := rfl
theorem ltX_0 : 0 < 29 := by decide
theorem lyX_1 : ΛX 1 = (3, 3, [10]) := rfl
theorem ltX_1 : 1 < 29 := by decide
theorem lyX_2 : ΛX 2 = (0, 3, [0, 0, 0, 0, 0, 0]) := rfl
theorem ltX_2 : 2 < 29 := by decide
theorem lyX_3 : ΛX 3 = (0, 3, [0, 0, 0, 0, 0, 0]) := rfl
theorem ltX_3 : 3 < 29 := by decide
theorem lyX_4 : ΛX 4 = (0, 3, [0, 0, 0, 0, 0, 0]) := rfl
theorem ltX_4 : 4 < 29 := by decide
theorem lyX_5 : ΛX 5 = (0, 3, [0, 0, 0, 0, 0, 0]) := rfl
theorem ltX_5 : 5 < 29 := by decide
theorem lyX_6 : ΛX 6 = (0, 3, [0, 0, 0, 0, 0, 0]) := rfl
theorem ltX_6 : 6 < 29 := by decide
theorem lyX_7 : ΛX 7 = (0, 3, [0, 0, 0, 0, 0, 0]) := rfl
theorem ltX_7 : 7 < 29 := by decide
theorem lyX_8 : ΛX 8 = (0, 3, [0, 0, 0, 0, 0, 0]) := rfl
theorem ltX_8 : 8 < 29 := by decide
theorem lyX_9 : ΛX 9 = (0, 3, [0, 0, 0, 0, 0, 0]) := rfl
theorem ltX_9 : 9 < 29 := by decide
theorem lyX_10 : ΛX 10 = (0, 3, [0, 0, 0, 0, 0, 0]) := rfl
theorem ltX_10 : 10 < 29 := by decide
theorem lyX_11 : ΛX 11 = (0, 3, [0, 0, 0, 0, 0, 0]) := rfl
theorem ltX_11 : 11 < 29 := by decide
theorem lyX_12 : ΛX 12 = (1, 0, [16]) := rfl
theorem ltX_12 : 12 < 29 := by decide
theorem lyX_13 : ΛX 13 = (0, 2, [16, 18, 0, 0, 0, 0]) := rfl
theorem ltX_13 : 13 < 29 := by decide
theorem lyX_14 : ΛX 14 = (0, 4, [17, 0, 0, 0, 0, 0, 0]) := rfl
theorem ltX_14 : 14 < 29 := by decide
theorem lyX_15 : ΛX 15 = (1, 2, [80]) := rfl
theorem ltX_15 : 15 < 29 := by decide
theorem lyX_16 : ΛX 16 = (0, 3, [0, 0, 0, 0, 0, 0]) := rfl
theorem ltX_16 : 16 < 29 := by decide
theorem lyX_17 : ΛX 17 = (0, 0, [20, 24, 25, 26, 27, 28, 0, 0, 0, 0]) := rfl
theorem ltX_17 : 17 < 29 := by decide
theorem lyX_18 : ΛX 18 = (0, 5, [21, 22, 23, 0, 0, 0]) := rfl
theorem ltX_18 : 18 < 29 := by decide
theorem lyX_19 : ΛX 19 = (1, 0, [6]) := rfl
theorem ltX_19 : 19 < 29 := by decide
theorem lyX_20 : ΛX 20 = (1, 0, [16]) := rfl
theorem ltX_20 : 20 < 29 := by decide
theorem lyX_21 : ΛX 21 = (1, 0, [7]) := rfl
theorem ltX_21 : 21 < 29 := by decide
theorem lyX_22 : ΛX 22 = (1, 0, [1024]) := rfl
theorem ltX_22 : 22 < 29 := by decide
theorem lyX_23 : ΛX 23 = (1, 0, [1024]) := rfl
theorem ltX_23 : 23 < 29 := by decide
theorem lyX_24 : ΛX 24 = (1, 0, [1024]) := rfl
theorem ltX_24 : 24 < 29 := by decide
theorem lyX_25 : ΛX 25 = (2, 1, [16]) := rfl
theorem ltX_25 : 25 < 29 := by decide
theorem lyX_26 : ΛX 26 = (1, 2, []) := rfl
theorem ltX_26 : 26 < 29 := by decide
theorem lyX_27 : ΛX 27 = (0, 1, [30, 1, 1, 0, 0, 0, 0, 0]) := rfl
theorem ltX_27 : 27 < 29 := by decide
theorem lyX_28 : ΛX 28 = (1, 0, [64]) := rfl
theorem ltX_28 : 28 < 29 := by decide
theorem lyM_0 : ΛM 0 = (0, 7, [0, 0, 0, 0, 3, 4, 0, 0, 0, 0, 0, 0, 0, 5, 6, 7, 0, 0, 0, 8, 9, 10, 11, 12, 13, 0, 0, 0, 0]) := rfl
theorem ltM_0 : 0 < 12 := by decide
theorem lyM_1 : ΛM 1 = (1, 0, [16]) := rfl
theorem ltM_1 : 1 < 12 := by decide
theorem lyM_2 : ΛM 2 = (1, 0, [80]) := rfl
theorem ltM_2 : 2 < 12 := by decide
theorem lyM_3 : ΛM 3 = (1, 0, [60]) := rfl
theorem ltM_3 : 3 < 12 := by decide
theorem lyM_4 : ΛM 4 = (1, 0, [60]) := rfl
theorem ltM_4 : 4 < 12 := by decide
theorem lyM_5 : ΛM 5 = (1, 0, [60]) := rfl
theorem ltM_5 : 5 < 12 := by decide
theorem lyM_6 : ΛM 6 = (1, 0, [16]) := rfl
theorem ltM_6 : 6 < 12 := by decide
theorem lyM_7 : ΛM 7 = (1, 0, [1024]) := rfl
theorem ltM_7 : 7 < 12 := by decide
theorem lyM_8 : ΛM 8 = (1, 0, [1024]) := rfl
theorem ltM_8 : 8 < 12 := by decide
theorem lyM_9 : ΛM 9 = (1, 0, [16384]) := rfl
theorem ltM_9 : 9 < 12 := by decide
theorem lyM_10 : ΛM 10 = (2, 1, [1024]) := rfl
theorem ltM_10 : 10 < 12 := by decide
theorem lyM_11 : ΛM 11 = (1, 0, [64]) := rfl
theorem ltM_11 : 11 < 12 := by decide
theorem fd_X6_11 : kFd "KindSayings" 11 6 0 := ⟨RX6, TX6, 8, rfl, by decide, w_320, inG6⟩
theorem fd_X6_15 : kFd "KindSayings" 15 6 1 := ⟨RX6, TX6, 8, rfl, by decide, w_321, inG6⟩
theorem fd_X6_22 : kFd "KindSayings" 22 6 2 := ⟨RX6, TX6, 8, rfl, by decide, w_322, inG6⟩
theorem fd_X6_29 : kFd "KindSayings" 29 6 3 := ⟨RX6, TX6, 8, rfl, by decide, w_323, inG6⟩
theorem fd_X6_36 : kFd "KindSayings" 36 6 4 := ⟨RX6, TX6, 8, rfl, by decide, w_324, inG6⟩
theorem fd_X6_40 : kFd "KindSayings" 40 6 5 := ⟨RX6, TX6, 8, rfl, by decide, w_325, inG6⟩
theorem fw_X6_40 : kFw "KindSayings" 40 6 5 .int := ⟨RX6, TX6, 8, tyX6, rfl, by decide, w_325, inG6, tyX6_ok, nmX6, rfl, by decide +kernel⟩
theorem fd_X6_44 : kFd "KindSayings" 44 6 6 := ⟨RX6, TX6, 8, rfl, by decide, w_326, inG6⟩
theorem fw_X6_44 : kFw "KindSayings" 44 6 6 .int := ⟨RX6, TX6, 8, tyX6, rfl, by decide, w_326, inG6, tyX6_ok, nmX6, rfl, by decide +kernel⟩
theorem fd_X6_47 : kFd "KindSayings" 47 6 7 := ⟨RX6, TX6, 8, rfl, by decide, w_327, inG6⟩
theorem fw_X6_47 : kFw "KindSayings" 47 6 7 .int := ⟨RX6, TX6, 8, tyX6, rfl, by decide, w_327, inG6, tyX6_ok, nmX6, rfl, by decide +kernel⟩
theorem fd_X6_62 : kFd "KindSayings" 62 0 8 := ⟨RX0, TX0, 10, rfl, by decide, w_235, inG0⟩
theorem fw_X6_62 : kFw "KindSayings" 62 0 8 .int := ⟨RX0, TX0, 10, tyX0, rfl, by decide, w_235, inG0, tyX0_ok, nmX0, rfl, by decide +kernel⟩
theorem fd_X6_87 : kFd "KindSayings" 87 2 0 := ⟨RX2, TX2, 6, rfl, by decide, w_166, inG2⟩
theorem fd_X6_91 : kFd "KindSayings" 91 4 1 := ⟨RX4, TX4, 7, rfl, by decide, w_101, inG4⟩
theorem fw_X6_91 : kFw "KindSayings" 91 4 1 .int := ⟨RX4, TX4, 7, tyX4, rfl, by decide, w_101, inG4, tyX4_ok, nmX4, rfl, by decide +kernel⟩
theorem fd_X6_104 : kFd "KindSayings" 104 2 1 := ⟨RX2, TX2, 6, rfl, by decide, w_168, inG2⟩
theorem fd_X6_112 : kFd "KindSayings" 112 0 9 := ⟨RX0, TX0, 10, rfl, by decide, w_237, inG0⟩
theorem fw_X6_112 : kFw "KindSayings" 112 0 9 .int := ⟨RX0, TX0, 10, tyX0, rfl, by decide, w_237, inG0, tyX0_ok, nmX0, rfl, by decide +kernel⟩
theorem fd_X6_115 : kFd "KindSayings" 115 3 0 := ⟨RX3, TX3, 6, rfl, by decide, w_136, inG3⟩
theorem fw_X6_115 : kFw "KindSayings" 115 3 0 .int := ⟨RX3, TX3, 6, tyX3, rfl, by decide, w_136, inG3, tyX3_ok, nmX3, rfl, by decide +kernel⟩
theorem fd_X6_118 : kFd "KindSayings" 118 3 2 := ⟨RX3, TX3, 6, rfl, by decide, w_142, inG3⟩
theorem fw_X6_118 : kFw "KindSayings" 118 3 2 .int := ⟨RX3, TX3, 6, tyX3, rfl, by decide, w_142, inG3, tyX3_ok, nmX3, rfl, by decide +kernel⟩
theorem fd_X6_121 : kFd "KindSayings" 121 3 3 := ⟨RX3, TX3, 6, rfl, by decide, w_145, inG3⟩
theorem fw_X6_121 : kFw "KindSayings" 121 3 3 .int := ⟨RX3, TX3, 6, tyX3, rfl, by decide, w_145, inG3, tyX3_ok, nmX3, rfl, by decide +kernel⟩
theorem fd_X6_124 : kFd "KindSayings" 124 3 1 := ⟨RX3, TX3, 6, rfl, by decide, w_139, inG3⟩
theorem fw_X6_124 : kFw "KindSayings" 124 3 1 .int := ⟨RX3, TX3, 6, tyX3, rfl, by decide, w_139, inG3, tyX3_ok, nmX3, rfl, by decide +kernel⟩
theorem fd_X6_127 : kFd "KindSayings" 127 3 5 := ⟨RX3, TX3, 6, rfl, by decide, w_151, inG3⟩
theorem fw_X6_127 : kFw "KindSayings" 127 3 5 .boolean := ⟨RX3, TX3, 6, tyX3, rfl, by decide, w_151, inG3, tyX3_ok, nmX3, rfl, by decide +kernel⟩
theorem fd_X6_131 : kFd "KindSayings" 131 3 4 := ⟨RX3, TX3, 6, rfl, by decide, w_148, inG3⟩
theorem fw_X6_131 : kFw "KindSayings" 131 3 4 .int := ⟨RX3, TX3, 6, tyX3, rfl, by decide, w_148, inG3, tyX3_ok, nmX3, rfl, by decide +kernel⟩
theorem fd_X6_204 : kFd "KindSayings" 204 1 7 := ⟨RX1, TX1, 8, rfl, by decide, w_274, inG1⟩
theorem fw_X6_204 : kFw "KindSayings" 204 1 7 .int := ⟨RX1, TX1, 8, tyX1, rfl, by decide, w_274, inG1, tyX1_ok, nmX1, rfl, by decide +kernel⟩
theorem fd_X0_12 : kFd "KindSayings$Heaps" 12 0 0 := ⟨RX0, TX0, 10, rfl, by decide, w_226, inG0⟩
theorem fd_X0_18 : kFd "KindSayings$Heaps" 18 0 1 := ⟨RX0, TX0, 10, rfl, by decide, w_227, inG0⟩
theorem fd_X0_22 : kFd "KindSayings$Heaps" 22 0 2 := ⟨RX0, TX0, 10, rfl, by decide, w_228, inG0⟩
theorem fd_X0_25 : kFd "KindSayings$Heaps" 25 0 3 := ⟨RX0, TX0, 10, rfl, by decide, w_229, inG0⟩
theorem fd_X0_28 : kFd "KindSayings$Heaps" 28 0 4 := ⟨RX0, TX0, 10, rfl, by decide, w_230, inG0⟩
theorem fd_X0_32 : kFd "KindSayings$Heaps" 32 0 5 := ⟨RX0, TX0, 10, rfl, by decide, w_231, inG0⟩
theorem fd_X0_48 : kFd "KindSayings$Heaps" 48 0 6 := ⟨RX0, TX0, 10, rfl, by decide, w_232, inG0⟩
theorem fw_X0_48 : kFw "KindSayings$Heaps" 48 0 6 .int := ⟨RX0, TX0, 10, tyX0, rfl, by decide, w_232, inG0, tyX0_ok, nmX0, rfl, by decide +kernel⟩
theorem fd_X0_52 : kFd "KindSayings$Heaps" 52 0 7 := ⟨RX0, TX0, 10, rfl, by decide, w_233, inG0⟩
theorem fw_X0_52 : kFw "KindSayings$Heaps" 52 0 7 .int := ⟨RX0, TX0, 10, tyX0, rfl, by decide, w_233, inG0, tyX0_ok, nmX0, rfl, by decide +kernel⟩
theorem fd_X0_59 : kFd "KindSayings$Heaps" 59 0 8 := ⟨RX0, TX0, 10, rfl, by decide, w_234, inG0⟩
theorem fw_X0_59 : kFw "KindSayings$Heaps" 59 0 8 .int := ⟨RX0, TX0, 10, tyX0, rfl, by decide, w_234, inG0, tyX0_ok, nmX0, rfl, by decide +kernel⟩
theorem fd_X0_62 : kFd "KindSayings$Heaps" 62 0 9 := ⟨RX0, TX0, 10, rfl, by decide, w_236, inG0⟩
theorem fw_X0_62 : kFw "KindSayings$Heaps" 62 0 9 .int := ⟨RX0, TX0, 10, tyX0, rfl, by decide, w_236, inG0, tyX0_ok, nmX0, rfl, by decide +kernel⟩
theorem fd_X1_9 : kFd "KindSayings$Proof" 9 1 0 := ⟨RX1, TX1, 8, rfl, by decide, w_266, inG1⟩
theorem fd_X1_15 : kFd "KindSayings$Proof" 15 1 1 := ⟨RX1, TX1, 8, rfl, by decide, w_267, inG1⟩
theorem fw_X1_15 : kFw "KindSayings$Proof" 15 1 1 .long := ⟨RX1, TX1, 8, tyX1, rfl, by decide, w_267, inG1, tyX1_ok, nmX1, rfl, by decide +kernel⟩
theorem fd_X1_19 : kFd "KindSayings$Proof" 19 1 3 := ⟨RX1, TX1, 8, rfl, by decide, w_269, inG1⟩
theorem fw_X1_19 : kFw "KindSayings$Proof" 19 1 3 .int := ⟨RX1, TX1, 8, tyX1, rfl, by decide, w_269, inG1, tyX1_ok, nmX1, rfl, by decide +kernel⟩
theorem fd_X1_23 : kFd "KindSayings$Proof" 23 1 4 := ⟨RX1, TX1, 8, rfl, by decide, w_270, inG1⟩
theorem fw_X1_23 : kFw "KindSayings$Proof" 23 1 4 .int := ⟨RX1, TX1, 8, tyX1, rfl, by decide, w_270, inG1, tyX1_ok, nmX1, rfl, by decide +kernel⟩
theorem fd_X1_26 : kFd "KindSayings$Proof" 26 1 7 := ⟨RX1, TX1, 8, rfl, by decide, w_273, inG1⟩
theorem fw_X1_26 : kFw "KindSayings$Proof" 26 1 7 .int := ⟨RX1, TX1, 8, tyX1, rfl, by decide, w_273, inG1, tyX1_ok, nmX1, rfl, by decide +kernel⟩
theorem fd_X1_44 : kFd "KindSayings$Proof" 44 1 2 := ⟨RX1, TX1, 8, rfl, by decide, w_268, inG1⟩
theorem fw_X1_44 : kFw "KindSayings$Proof" 44 1 2 .long := ⟨RX1, TX1, 8, tyX1, rfl, by decide, w_268, inG1, tyX1_ok, nmX1, rfl, by decide +kernel⟩
theorem fd_X1_60 : kFd "KindSayings$Proof" 60 1 5 := ⟨RX1, TX1, 8, rfl, by decide, w_271, inG1⟩
theorem fw_X1_60 : kFw "KindSayings$Proof" 60 1 5 .int := ⟨RX1, TX1, 8, tyX1, rfl, by decide, w_271, inG1, tyX1_ok, nmX1, rfl, by decide +kernel⟩
theorem fd_X1_63 : kFd "KindSayings$Proof" 63 1 6 := ⟨RX1, TX1, 8, rfl, by decide, w_272, inG1⟩
theorem fw_X1_63 : kFw "KindSayings$Proof" 63 1 6 .int := ⟨RX1, TX1, 8, tyX1, rfl, by decide, w_272, inG1, tyX1_ok, nmX1, rfl, by decide +kernel⟩
theorem fd_X2_12 : kFd "KindSayings$Reader" 12 2 0 := ⟨RX2, TX2, 6, rfl, by decide, w_165, inG2⟩
theorem fd_X2_21 : kFd "KindSayings$Reader" 21 2 1 := ⟨RX2, TX2, 6, rfl, by decide, w_167, inG2⟩
theorem fd_X2_25 : kFd "KindSayings$Reader" 25 2 2 := ⟨RX2, TX2, 6, rfl, by decide, w_169, inG2⟩
theorem fw_X2_25 : kFw "KindSayings$Reader" 25 2 2 .int := ⟨RX2, TX2, 6, tyX2, rfl, by decide, w_169, inG2, tyX2_ok, nmX2, rfl, by decide +kernel⟩
theorem fd_X2_29 : kFd "KindSayings$Reader" 29 2 3 := ⟨RX2, TX2, 6, rfl, by decide, w_170, inG2⟩
theorem fw_X2_29 : kFw "KindSayings$Reader" 29 2 3 .int := ⟨RX2, TX2, 6, tyX2, rfl, by decide, w_170, inG2, tyX2_ok, nmX2, rfl, by decide +kernel⟩
theorem fd_X2_32 : kFd "KindSayings$Reader" 32 2 4 := ⟨RX2, TX2, 6, rfl, by decide, w_171, inG2⟩
theorem fw_X2_32 : kFw "KindSayings$Reader" 32 2 4 .int := ⟨RX2, TX2, 6, tyX2, rfl, by decide, w_171, inG2, tyX2_ok, nmX2, rfl, by decide +kernel⟩
theorem fd_X2_45 : kFd "KindSayings$Reader" 45 3 2 := ⟨RX3, TX3, 6, rfl, by decide, w_141, inG3⟩
theorem fw_X2_45 : kFw "KindSayings$Reader" 45 3 2 .int := ⟨RX3, TX3, 6, tyX3, rfl, by decide, w_141, inG3, tyX3_ok, nmX3, rfl, by decide +kernel⟩
theorem fd_X2_48 : kFd "KindSayings$Reader" 48 2 5 := ⟨RX2, TX2, 6, rfl, by decide, w_172, inG2⟩
theorem fw_X2_48 : kFw "KindSayings$Reader" 48 2 5 .int := ⟨RX2, TX2, 6, tyX2, rfl, by decide, w_172, inG2, tyX2_ok, nmX2, rfl, by decide +kernel⟩
theorem fd_X2_55 : kFd "KindSayings$Reader" 55 3 3 := ⟨RX3, TX3, 6, rfl, by decide, w_144, inG3⟩
theorem fw_X2_55 : kFw "KindSayings$Reader" 55 3 3 .int := ⟨RX3, TX3, 6, tyX3, rfl, by decide, w_144, inG3, tyX3_ok, nmX3, rfl, by decide +kernel⟩
theorem fd_X2_62 : kFd "KindSayings$Reader" 62 3 4 := ⟨RX3, TX3, 6, rfl, by decide, w_147, inG3⟩
theorem fw_X2_62 : kFw "KindSayings$Reader" 62 3 4 .int := ⟨RX3, TX3, 6, tyX3, rfl, by decide, w_147, inG3, tyX3_ok, nmX3, rfl, by decide +kernel⟩
theorem fd_X2_65 : kFd "KindSayings$Reader" 65 4 2 := ⟨RX4, TX4, 7, rfl, by decide, w_102, inG4⟩
theorem fw_X2_65 : kFw "KindSayings$Reader" 65 4 2 .int := ⟨RX4, TX4, 7, tyX4, rfl, by decide, w_102, inG4, tyX4_ok, nmX4, rfl, by decide +kernel⟩
theorem fd_X2_68 : kFd "KindSayings$Reader" 68 4 3 := ⟨RX4, TX4, 7, rfl, by decide, w_104, inG4⟩
theorem fw_X2_68 : kFw "KindSayings$Reader" 68 4 3 .int := ⟨RX4, TX4, 7, tyX4, rfl, by decide, w_104, inG4, tyX4_ok, nmX4, rfl, by decide +kernel⟩
theorem fd_X2_71 : kFd "KindSayings$Reader" 71 3 5 := ⟨RX3, TX3, 6, rfl, by decide, w_150, inG3⟩
theorem fw_X2_71 : kFw "KindSayings$Reader" 71 3 5 .boolean := ⟨RX3, TX3, 6, tyX3, rfl, by decide, w_150, inG3, tyX3_ok, nmX3, rfl, by decide +kernel⟩
theorem fd_X2_78 : kFd "KindSayings$Reader" 78 3 0 := ⟨RX3, TX3, 6, rfl, by decide, w_135, inG3⟩
theorem fw_X2_78 : kFw "KindSayings$Reader" 78 3 0 .int := ⟨RX3, TX3, 6, tyX3, rfl, by decide, w_135, inG3, tyX3_ok, nmX3, rfl, by decide +kernel⟩
theorem fd_X2_81 : kFd "KindSayings$Reader" 81 3 1 := ⟨RX3, TX3, 6, rfl, by decide, w_138, inG3⟩
theorem fw_X2_81 : kFw "KindSayings$Reader" 81 3 1 .int := ⟨RX3, TX3, 6, tyX3, rfl, by decide, w_138, inG3, tyX3_ok, nmX3, rfl, by decide +kernel⟩
theorem fd_X2_90 : kFd "KindSayings$Reader" 90 4 5 := ⟨RX4, TX4, 7, rfl, by decide, w_109, inG4⟩
theorem fw_X2_90 : kFw "KindSayings$Reader" 90 4 5 .int := ⟨RX4, TX4, 7, tyX4, rfl, by decide, w_109, inG4, tyX4_ok, nmX4, rfl, by decide +kernel⟩
theorem fd_X2_113 : kFd "KindSayings$Reader" 113 4 4 := ⟨RX4, TX4, 7, rfl, by decide, w_107, inG4⟩
theorem fw_X2_113 : kFw "KindSayings$Reader" 113 4 4 .int := ⟨RX4, TX4, 7, tyX4, rfl, by decide, w_107, inG4, tyX4_ok, nmX4, rfl, by decide +kernel⟩
theorem fd_X3_9 : kFd "KindSayings$Saying" 9 3 0 := ⟨RX3, TX3, 6, rfl, by decide, w_134, inG3⟩
theorem fw_X3_9 : kFw "KindSayings$Saying" 9 3 0 .int := ⟨RX3, TX3, 6, tyX3, rfl, by decide, w_134, inG3, tyX3_ok, nmX3, rfl, by decide +kernel⟩
theorem fd_X3_15 : kFd "KindSayings$Saying" 15 3 1 := ⟨RX3, TX3, 6, rfl, by decide, w_137, inG3⟩
theorem fw_X3_15 : kFw "KindSayings$Saying" 15 3 1 .int := ⟨RX3, TX3, 6, tyX3, rfl, by decide, w_137, inG3, tyX3_ok, nmX3, rfl, by decide +kernel⟩
theorem fd_X3_22 : kFd "KindSayings$Saying" 22 3 2 := ⟨RX3, TX3, 6, rfl, by decide, w_140, inG3⟩
theorem fw_X3_22 : kFw "KindSayings$Saying" 22 3 2 .int := ⟨RX3, TX3, 6, tyX3, rfl, by decide, w_140, inG3, tyX3_ok, nmX3, rfl, by decide +kernel⟩
theorem fd_X3_25 : kFd "KindSayings$Saying" 25 3 3 := ⟨RX3, TX3, 6, rfl, by decide, w_143, inG3⟩
theorem fw_X3_25 : kFw "KindSayings$Saying" 25 3 3 .int := ⟨RX3, TX3, 6, tyX3, rfl, by decide, w_143, inG3, tyX3_ok, nmX3, rfl, by decide +kernel⟩
theorem fd_X3_32 : kFd "KindSayings$Saying" 32 3 4 := ⟨RX3, TX3, 6, rfl, by decide, w_146, inG3⟩
theorem fw_X3_32 : kFw "KindSayings$Saying" 32 3 4 .int := ⟨RX3, TX3, 6, tyX3, rfl, by decide, w_146, inG3, tyX3_ok, nmX3, rfl, by decide +kernel⟩
theorem fd_X3_35 : kFd "KindSayings$Saying" 35 3 5 := ⟨RX3, TX3, 6, rfl, by decide, w_149, inG3⟩
theorem fw_X3_35 : kFw "KindSayings$Saying" 35 3 5 .boolean := ⟨RX3, TX3, 6, tyX3, rfl, by decide, w_149, inG3, tyX3_ok, nmX3, rfl, by decide +kernel⟩
theorem fd_X4_9 : kFd "KindSayings$Tokens" 9 4 0 := ⟨RX4, TX4, 7, rfl, by decide, w_99, inG4⟩
theorem fd_X4_15 : kFd "KindSayings$Tokens" 15 4 1 := ⟨RX4, TX4, 7, rfl, by decide, w_100, inG4⟩
theorem fw_X4_15 : kFw "KindSayings$Tokens" 15 4 1 .int := ⟨RX4, TX4, 7, tyX4, rfl, by decide, w_100, inG4, tyX4_ok, nmX4, rfl, by decide +kernel⟩
theorem fd_X4_21 : kFd "KindSayings$Tokens" 21 4 6 := ⟨RX4, TX4, 7, rfl, by decide, w_110, inG4⟩
theorem fw_X4_21 : kFw "KindSayings$Tokens" 21 4 6 .int := ⟨RX4, TX4, 7, tyX4, rfl, by decide, w_110, inG4, tyX4_ok, nmX4, rfl, by decide +kernel⟩
theorem fd_X4_24 : kFd "KindSayings$Tokens" 24 4 5 := ⟨RX4, TX4, 7, rfl, by decide, w_108, inG4⟩
theorem fw_X4_24 : kFw "KindSayings$Tokens" 24 4 5 .int := ⟨RX4, TX4, 7, tyX4, rfl, by decide, w_108, inG4, tyX4_ok, nmX4, rfl, by decide +kernel⟩
theorem fd_X4_34 : kFd "KindSayings$Tokens" 34 4 4 := ⟨RX4, TX4, 7, rfl, by decide, w_106, inG4⟩
theorem fw_X4_34 : kFw "KindSayings$Tokens" 34 4 4 .int := ⟨RX4, TX4, 7, tyX4, rfl, by decide, w_106, inG4, tyX4_ok, nmX4, rfl, by decide +kernel⟩
theorem fd_X4_37 : kFd "KindSayings$Tokens" 37 4 3 := ⟨RX4, TX4, 7, rfl, by decide, w_105, inG4⟩
theorem fw_X4_37 : kFw "KindSayings$Tokens" 37 4 3 .int := ⟨RX4, TX4, 7, tyX4, rfl, by decide, w_105, inG4, tyX4_ok, nmX4, rfl, by decide +kernel⟩
theorem fd_X4_40 : kFd "KindSayings$Tokens" 40 4 2 := ⟨RX4, TX4, 7, rfl, by decide, w_103, inG4⟩
theorem fw_X4_40 : kFw "KindSayings$Tokens" 40 4 2 .int := ⟨RX4, TX4, 7, tyX4, rfl, by decide, w_103, inG4, tyX4_ok, nmX4, rfl, by decide +kernel⟩
theorem fd_X5_9 : kFd "KindSayings$Walk" 9 5 0 := ⟨RX5, TX5, 6, rfl, by decide, w_198, inG5⟩
theorem fd_X5_15 : kFd "KindSayings$Walk" 15 5 1 := ⟨RX5, TX5, 6, rfl, by decide, w_199, inG5⟩
theorem fd_X5_18 : kFd "KindSayings$Walk" 18 5 2 := ⟨RX5, TX5, 6, rfl, by decide, w_200, inG5⟩
theorem fd_X5_33 : kFd "KindSayings$Walk" 33 5 3 := ⟨RX5, TX5, 6, rfl, by decide, w_201, inG5⟩
theorem fw_X5_33 : kFw "KindSayings$Walk" 33 5 3 .int := ⟨RX5, TX5, 6, tyX5, rfl, by decide, w_201, inG5, tyX5_ok, nmX5, rfl, by decide +kernel⟩
theorem fd_X5_37 : kFd "KindSayings$Walk" 37 5 4 := ⟨RX5, TX5, 6, rfl, by decide, w_202, inG5⟩
theorem fw_X5_37 : kFw "KindSayings$Walk" 37 5 4 .int := ⟨RX5, TX5, 6, tyX5, rfl, by decide, w_202, inG5, tyX5_ok, nmX5, rfl, by decide +kernel⟩
theorem fd_X5_40 : kFd "KindSayings$Walk" 40 5 5 := ⟨RX5, TX5, 6, rfl, by decide, w_203, inG5⟩
theorem fw_X5_40 : kFw "KindSayings$Walk" 40 5 5 .int := ⟨RX5, TX5, 6, tyX5, rfl, by decide, w_203, inG5, tyX5_ok, nmX5, rfl, by decide +kernel⟩
theorem fd_X7_7 : kFd "KindSayingsModel" 7 7 1 := ⟨RX7, TX7, 29, rfl, by decide, w_771, inG7⟩
theorem fw_X7_7 : kFw "KindSayingsModel" 7 7 1 .int := ⟨RX7, TX7, 29, tyX7, rfl, by decide, w_771, inG7, tyX7_ok, nmX7, rfl, by decide +kernel⟩
theorem fd_X7_13 : kFd "KindSayingsModel" 13 7 2 := ⟨RX7, TX7, 29, rfl, by decide, w_772, inG7⟩
theorem fw_X7_13 : kFw "KindSayingsModel" 13 7 2 .int := ⟨RX7, TX7, 29, tyX7, rfl, by decide, w_772, inG7, tyX7_ok, nmX7, rfl, by decide +kernel⟩
theorem fd_X7_16 : kFd "KindSayingsModel" 16 7 3 := ⟨RX7, TX7, 29, rfl, by decide, w_773, inG7⟩
theorem fw_X7_16 : kFw "KindSayingsModel" 16 7 3 .int := ⟨RX7, TX7, 29, tyX7, rfl, by decide, w_773, inG7, tyX7_ok, nmX7, rfl, by decide +kernel⟩
theorem fd_X7_19 : kFd "KindSayingsModel" 19 7 4 := ⟨RX7, TX7, 29, rfl, by decide, w_774, inG7⟩
theorem fd_X7_23 : kFd "KindSayingsModel" 23 7 5 := ⟨RX7, TX7, 29, rfl, by decide, w_775, inG7⟩
theorem fd_X7_26 : kFd "KindSayingsModel" 26 7 13 := ⟨RX7, TX7, 29, rfl, by decide, w_783, inG7⟩
theorem fd_X7_29 : kFd "KindSayingsModel" 29 7 14 := ⟨RX7, TX7, 29, rfl, by decide, w_784, inG7⟩
theorem fd_X7_32 : kFd "KindSayingsModel" 32 7 15 := ⟨RX7, TX7, 29, rfl, by decide, w_785, inG7⟩
theorem fd_X7_35 : kFd "KindSayingsModel" 35 7 19 := ⟨RX7, TX7, 29, rfl, by decide, w_789, inG7⟩
theorem fd_X7_38 : kFd "KindSayingsModel" 38 7 20 := ⟨RX7, TX7, 29, rfl, by decide, w_790, inG7⟩
theorem fd_X7_41 : kFd "KindSayingsModel" 41 7 21 := ⟨RX7, TX7, 29, rfl, by decide, w_791, inG7⟩
theorem fd_X7_44 : kFd "KindSayingsModel" 44 7 22 := ⟨RX7, TX7, 29, rfl, by decide, w_792, inG7⟩
theorem fd_X7_47 : kFd "KindSayingsModel" 47 7 23 := ⟨RX7, TX7, 29, rfl, by decide, w_793, inG7⟩
theorem fd_X7_51 : kFd "KindSayingsModel" 51 7 24 := ⟨RX7, TX7, 29, rfl, by decide, w_794, inG7⟩
theorem fd_X7_57 : kFd "KindSayingsModel" 57 7 0 := ⟨RX7, TX7, 29, rfl, by decide, w_770, inG7⟩
theorem fw_X7_57 : kFw "KindSayingsModel" 57 7 0 .int := ⟨RX7, TX7, 29, tyX7, rfl, by decide, w_770, inG7, tyX7_ok, nmX7, rfl, by decide +kernel⟩
theorem fd_X7_68 : kFd "KindSayingsModel" 68 7 17 := ⟨RX7, TX7, 29, rfl, by decide, w_787, inG7⟩
theorem fw_X7_68 : kFw "KindSayingsModel" 68 7 17 .boolean := ⟨RX7, TX7, 29, tyX7, rfl, by decide, w_787, inG7, tyX7_ok, nmX7, rfl, by decide +kernel⟩
theorem fd_X7_79 : kFd "KindSayingsModel" 79 7 18 := ⟨RX7, TX7, 29, rfl, by decide, w_788, inG7⟩
theorem fw_X7_79 : kFw "KindSayingsModel" 79 7 18 .int := ⟨RX7, TX7, 29, tyX7, rfl, by decide, w_788, inG7, tyX7_ok, nmX7, rfl, by decide +kernel⟩
theorem fd_X7_98 : kFd "KindSayingsModel" 98 7 6 := ⟨RX7, TX7, 29, rfl, by decide, w_776, inG7⟩
theorem fw_X7_98 : kFw "KindSayingsModel" 98 7 6 .int := ⟨RX7, TX7, 29, tyX7, rfl, by decide, w_776, inG7, tyX7_ok, nmX7, rfl, by decide +kernel⟩
theorem fd_X7_113 : kFd "KindSayingsModel" 113 7 7 := ⟨RX7, TX7, 29, rfl, by decide, w_777, inG7⟩
theorem fw_X7_113 : kFw "KindSayingsModel" 113 7 7 .int := ⟨RX7, TX7, 29, tyX7, rfl, by decide, w_777, inG7, tyX7_ok, nmX7, rfl, by decide +kernel⟩
theorem fd_X7_119 : kFd "KindSayingsModel" 119 7 9 := ⟨RX7, TX7, 29, rfl, by decide, w_779, inG7⟩
theorem fw_X7_119 : kFw "KindSayingsModel" 119 7 9 .int := ⟨RX7, TX7, 29, tyX7, rfl, by decide, w_779, inG7, tyX7_ok, nmX7, rfl, by decide +kernel⟩
theorem fd_X7_122 : kFd "KindSayingsModel" 122 7 8 := ⟨RX7, TX7, 29, rfl, by decide, w_778, inG7⟩
theorem fw_X7_122 : kFw "KindSayingsModel" 122 7 8 .int := ⟨RX7, TX7, 29, tyX7, rfl, by decide, w_778, inG7, tyX7_ok, nmX7, rfl, by decide +kernel⟩
theorem fd_X7_129 : kFd "KindSayingsModel" 129 7 10 := ⟨RX7, TX7, 29, rfl, by decide, w_780, inG7⟩
theorem fw_X7_129 : kFw "KindSayingsModel" 129 7 10 .int := ⟨RX7, TX7, 29, tyX7, rfl, by decide, w_780, inG7, tyX7_ok, nmX7, rfl, by decide +kernel⟩
theorem fd_X7_132 : kFd "KindSayingsModel" 132 7 11 := ⟨RX7, TX7, 29, rfl, by decide, w_781, inG7⟩
theorem fw_X7_132 : kFw "KindSayingsModel" 132 7 11 .int := ⟨RX7, TX7, 29, tyX7, rfl, by decide, w_781, inG7, tyX7_ok, nmX7, rfl, by decide +kernel⟩
theorem fd_X7_139 : kFd "KindSayingsModel" 139 7 16 := ⟨RX7, TX7, 29, rfl, by decide, w_786, inG7⟩
theorem fw_X7_139 : kFw "KindSayingsModel" 139 7 16 .int := ⟨RX7, TX7, 29, tyX7, rfl, by decide, w_786, inG7, tyX7_ok, nmX7, rfl, by decide +kernel⟩
theorem fd_X7_148 : kFd "KindSayingsModel" 148 7 12 := ⟨RX7, TX7, 29, rfl, by decide, w_782, inG7⟩
theorem fw_X7_148 : kFw "KindSayingsModel" 148 7 12 .int := ⟨RX7, TX7, 29, tyX7, rfl, by decide, w_782, inG7, tyX7_ok, nmX7, rfl, by decide +kernel⟩
theorem fd_X7_198 : kFd "KindSayingsModel" 198 7 26 := ⟨RX7, TX7, 29, rfl, by decide, w_796, inG7⟩
theorem fw_X7_198 : kFw "KindSayingsModel" 198 7 26 .int := ⟨RX7, TX7, 29, tyX7, rfl, by decide, w_796, inG7, tyX7_ok, nmX7, rfl, by decide +kernel⟩
theorem fd_X7_201 : kFd "KindSayingsModel" 201 7 27 := ⟨RX7, TX7, 29, rfl, by decide, w_797, inG7⟩
theorem fw_X7_201 : kFw "KindSayingsModel" 201 7 27 .int := ⟨RX7, TX7, 29, tyX7, rfl, by decide, w_797, inG7, tyX7_ok, nmX7, rfl, by decide +kernel⟩
theorem fd_X7_204 : kFd "KindSayingsModel" 204 7 28 := ⟨RX7, TX7, 29, rfl, by decide, w_798, inG7⟩
theorem fw_X7_204 : kFw "KindSayingsModel" 204 7 28 .int := ⟨RX7, TX7, 29, tyX7, rfl, by decide, w_798, inG7, tyX7_ok, nmX7, rfl, by decide +kernel⟩
theorem fd_X7_213 : kFd "KindSayingsModel" 213 7 25 := ⟨RX7, TX7, 29, rfl, by decide, w_795, inG7⟩
theorem fw_X7_213 : kFw "KindSayingsModel" 213 7 25 .int := ⟨RX7, TX7, 29, tyX7, rfl, by decide, w_795, inG7, tyX7_ok, nmX7, rfl, by decide +kernel⟩
theorem cl_X6_51 : kCv "KindSayings" 51 yX6_startOver cX6_startOver 3 none 0 := ⟨w_293, w_295, w_0, w_66, w_296, by decide, by decide, by decide +kernel⟩
theorem cl_X6_54 : kCv "KindSayings" 54 yX6_sortCount cX6_sortCount 1 (some .int) 0 := ⟨w_309, w_311, w_1, w_66, w_312, by decide, by decide, by decide +kernel⟩
theorem cl_X6_58 : kCv "KindSayings" 58 yX0_shape cX0_shape 3 none 2 := ⟨w_313, w_314, w_315, w_70, w_316, by decide, by decide, by decide +kernel⟩
theorem cl_X6_65 : kCv "KindSayings" 65 yX6_isSort cX6_isSort 2 (some .boolean) 1 := ⟨w_361, w_363, w_2, w_66, w_364, by decide, by decide, by decide +kernel⟩
theorem cl_X6_69 : kCv "KindSayings" 69 yX6_thingsAtHand cX6_thingsAtHand 3 (some .int) 0 := ⟨w_365, w_367, w_3, w_66, w_368, by decide, by decide, by decide +kernel⟩
theorem cl_X6_72 : kCv "KindSayings" 72 yX6_sayingAt cX6_sayingAt 2 (some (.object "KindSayings$Saying")) 1 := ⟨w_373, w_375, w_4, w_66, w_376, by decide, by decide, by decide +kernel⟩
theorem cl_X6_76 : kCv "KindSayings" 76 yX6_sumAtHand cX6_sumAtHand 4 (some .int) 1 := ⟨w_377, w_379, w_5, w_66, w_380, by decide, by decide, by decide +kernel⟩
theorem cl_X6_80 : kCv "KindSayings" 80 yX3_isTrue cX3_isTrue 2 (some .boolean) 1 := ⟨w_385, w_386, w_387, w_69, w_388, by decide, by decide, by decide +kernel⟩
theorem cl_X6_83 : kCs "KindSayings" 83 yX6_bit cX6_bit 1 (some .int) 1 := ⟨w_393, w_394, w_66, w_395, by decide, by decide, by decide +kernel⟩
theorem cl_X6_96 : kCv "KindSayings" 96 yX4_append cX4_append 5 none 2 := ⟨w_404, w_405, w_406, w_68, w_407, by decide, by decide, by decide +kernel⟩
theorem cl_X6_100 : kCv "KindSayings" 100 yX2_readDraft cX2_readDraft 4 (some .int) 1 := ⟨w_417, w_418, w_419, w_67, w_420, by decide, by decide, by decide +kernel⟩
theorem cl_X6_108 : kCv "KindSayings" 108 yX3_become cX3_become 2 none 1 := ⟨w_500, w_501, w_502, w_69, w_503, by decide, by decide, by decide +kernel⟩
theorem cl_X6_134 : kCs "KindSayings" 134 yX6_isSet cX6_isSet 1 (some .boolean) 1 := ⟨w_512, w_513, w_66, w_514, by decide, by decide, by decide +kernel⟩
theorem cl_X6_137 : kCv "KindSayings" 137 yX6_freshHeaps cX6_freshHeaps 1 (some (.object "KindSayings$Heaps")) 0 := ⟨w_515, w_517, w_21, w_66, w_518, by decide, by decide, by decide +kernel⟩
theorem cl_X6_141 : kCv "KindSayings" 141 yX0_worldsOf cX0_worldsOf 2 (some .int) 1 := ⟨w_561, w_562, w_563, w_70, w_564, by decide, by decide, by decide +kernel⟩
theorem cl_X6_144 : kCv "KindSayings" 144 yX6_isSortOrEvery cX6_isSortOrEvery 2 (some .boolean) 1 := ⟨w_569, w_571, w_26, w_66, w_572, by decide, by decide, by decide +kernel⟩
theorem cl_X6_147 : kCv "KindSayings" 147 yX0_firstWorld cX0_firstWorld 6 (some .int) 2 := ⟨w_573, w_574, w_575, w_70, w_576, by decide, by decide, by decide +kernel⟩
theorem cl_X6_151 : kCv "KindSayings" 151 yX0_thingsIn cX0_thingsIn 7 (some .int) 2 := ⟨w_577, w_578, w_579, w_70, w_580, by decide, by decide, by decide +kernel⟩
theorem cl_X6_154 : kCv "KindSayings" 154 yX0_isFollowing cX0_isFollowing 3 (some .boolean) 2 := ⟨w_588, w_589, w_590, w_70, w_591, by decide, by decide, by decide +kernel⟩
theorem cl_X6_158 : kCs "KindSayings" 158 yX6_has cX6_has 2 (some .boolean) 2 := ⟨w_304, w_221, w_66, w_222, by decide, by decide, by decide +kernel⟩
theorem cl_X6_161 : kCv "KindSayings" 161 yX0_fewestClashing cX0_fewestClashing 5 (some .int) 1 := ⟨w_605, w_606, w_607, w_70, w_608, by decide, by decide, by decide +kernel⟩
theorem cl_X6_164 : kCs "KindSayings" 164 yJ6_bitCount_0f7a4 cJ6_bitCount_0f7a4 1 (some .int) 1 := ⟨w_615, w_610, w_75, w_611, by decide, by decide, by decide +kernel⟩
theorem cl_X6_169 : kCs "KindSayings" 169 yJ9_max_7cf53 cJ9_max_7cf53 2 (some .int) 2 := ⟨w_620, w_621, w_74, w_622, by decide, by decide, by decide +kernel⟩
theorem cl_X6_174 : kCv "KindSayings" 174 yX0_heapsOf cX0_heapsOf 4 (some .int) 1 := ⟨w_627, w_628, w_629, w_70, w_630, by decide, by decide, by decide +kernel⟩
theorem cl_X6_177 : kCv "KindSayings" 177 yX6_isFact cX6_isFact 4 (some .boolean) 3 := ⟨w_643, w_645, w_27, w_66, w_646, by decide, by decide, by decide +kernel⟩
theorem cl_X6_181 : kCv "KindSayings" 181 yX6_work cX6_work 6 none 1 := ⟨w_647, w_649, w_28, w_66, w_650, by decide, by decide, by decide +kernel⟩
theorem cl_X6_185 : kCs "KindSayings" 185 yX6_factNumber cX6_factNumber 3 (some .int) 3 := ⟨w_695, w_224, w_66, w_225, by decide, by decide, by decide +kernel⟩
theorem cl_X6_189 : kCv "KindSayings" 189 yX1_roundAt cX1_roundAt 2 (some .int) 1 := ⟨w_696, w_697, w_698, w_72, w_699, by decide, by decide, by decide +kernel⟩
theorem cl_X6_192 : kCv "KindSayings" 192 yX1_step cX1_step 5 (some .int) 2 := ⟨w_704, w_705, w_706, w_72, w_707, by decide, by decide, by decide +kernel⟩
theorem cl_X6_195 : kCv "KindSayings" 195 yX1_facts cX1_facts 1 (some .long) 0 := ⟨w_713, w_714, w_715, w_72, w_716, by decide, by decide, by decide +kernel⟩
theorem cl_X6_199 : kCs "KindSayings" 199 yJ13_bitCount_95d88 cJ13_bitCount_95d88 2 (some .int) 1 := ⟨w_717, w_718, w_76, w_719, by decide, by decide, by decide +kernel⟩
theorem cl_X6_207 : kCs "KindSayings" 207 yX6_isQuarrel cX6_isQuarrel 10 (some .boolean) 1 := ⟨w_723, w_724, w_66, w_725, by decide, by decide, by decide +kernel⟩
theorem cl_X6_211 : kCv "KindSayings" 211 yX0_factsOf cX0_factsOf 11 (some .long) 1 := ⟨w_727, w_728, w_729, w_70, w_730, by decide, by decide, by decide +kernel⟩
theorem cl_X6_215 : kCv "KindSayings" 215 yX6_everyFact cX6_everyFact 6 (some .long) 0 := ⟨w_739, w_741, w_37, w_66, w_742, by decide, by decide, by decide +kernel⟩
theorem cl_X6_220 : kCv "KindSayings" 220 yX6_plainSayings cX6_plainSayings 4 (some .int) 0 := ⟨w_748, w_750, w_38, w_66, w_751, by decide, by decide, by decide +kernel⟩
theorem cl_X6_223 : kCv "KindSayings" 223 yX3_becomeFirst cX3_becomeFirst 2 none 1 := ⟨w_297, w_298, w_299, w_69, w_300, by decide, by decide, by decide +kernel⟩
theorem cl_X6_226 : kCv "KindSayings" 226 yX3_weight cX3_weight 4 (some .int) 1 := ⟨w_381, w_382, w_383, w_69, w_384, by decide, by decide, by decide +kernel⟩
theorem cl_X6_229 : kCv "KindSayings" 229 yX0_refresh cX0_refresh 5 none 1 := ⟨w_519, w_520, w_521, w_70, w_522, by decide, by decide, by decide +kernel⟩
theorem cl_X6_233 : kCv "KindSayings" 233 yX1_work cX1_work 7 none 3 := ⟨w_651, w_652, w_653, w_72, w_654, by decide, by decide, by decide +kernel⟩
theorem cl_X6_238 : kCs "KindSayings" 238 yX6_everySort cX6_everySort 1 (some .int) 1 := ⟨w_305, w_306, w_66, w_307, by decide, by decide, by decide +kernel⟩
theorem cl_X0_36 : kCs "KindSayings$Heaps" 36 yX0_witnessOf cX0_witnessOf 5 (some .long) 1 := ⟨w_217, w_218, w_70, w_219, by decide, by decide, by decide +kernel⟩
theorem cl_X0_55 : kCs "KindSayings$Heaps" 55 yX0_choose cX0_choose 4 (some .int) 2 := ⟨w_317, w_318, w_70, w_319, by decide, by decide, by decide +kernel⟩
theorem cl_X0_65 : kCs "KindSayings$Heaps" 65 yX0_likes cX0_likes 5 (some .int) 2 := ⟨w_523, w_524, w_70, w_525, by decide, by decide, by decide +kernel⟩
theorem cl_X0_69 : kCv "KindSayings$Heaps" 69 yX0_mark cX0_mark 6 none 2 := ⟨w_530, w_532, w_22, w_70, w_533, by decide, by decide, by decide +kernel⟩
theorem cl_X0_73 : kCv "KindSayings$Heaps" 73 yX0_fillHeaps cX0_fillHeaps 3 none 0 := ⟨w_553, w_555, w_24, w_70, w_556, by decide, by decide, by decide +kernel⟩
theorem cl_X0_76 : kCv "KindSayings$Heaps" 76 yX0_addTogether cX0_addTogether 4 none 0 := ⟨w_557, w_559, w_25, w_70, w_560, by decide, by decide, by decide +kernel⟩
theorem cl_X0_79 : kCv "KindSayings$Heaps" 79 yX3_isLike cX3_isLike 2 (some .boolean) 1 := ⟨w_526, w_527, w_528, w_69, w_529, by decide, by decide, by decide +kernel⟩
theorem cl_X0_85 : kCv "KindSayings$Heaps" 85 yX5_begin cX5_begin 5 none 3 := ⟨w_534, w_535, w_536, w_71, w_537, by decide, by decide, by decide +kernel⟩
theorem cl_X0_89 : kCv "KindSayings$Heaps" 89 yX5_sum cX5_sum 1 (some .int) 0 := ⟨w_540, w_541, w_542, w_71, w_543, by decide, by decide, by decide +kernel⟩
theorem cl_X0_93 : kCv "KindSayings$Heaps" 93 yX3_isTrue cX3_isTrue 2 (some .boolean) 1 := ⟨w_544, w_386, w_387, w_69, w_388, by decide, by decide, by decide +kernel⟩
theorem cl_X0_97 : kCv "KindSayings$Heaps" 97 yX5_advance cX5_advance 2 (some .boolean) 0 := ⟨w_545, w_546, w_547, w_71, w_548, by decide, by decide, by decide +kernel⟩
theorem cl_X0_101 : kCv "KindSayings$Heaps" 101 yX0_worldsOf cX0_worldsOf 2 (some .int) 1 := ⟨w_592, w_562, w_563, w_70, w_564, by decide, by decide, by decide +kernel⟩
theorem cl_X0_105 : kCs "KindSayings$Heaps" 105 yJ6_bitCount_0f7a4 cJ6_bitCount_0f7a4 1 (some .int) 1 := ⟨w_609, w_610, w_75, w_611, by decide, by decide, by decide +kernel⟩
theorem cl_X0_110 : kCs "KindSayings$Heaps" 110 yX0_rowsOf cX0_rowsOf 2 (some .int) 2 := ⟨w_581, w_582, w_70, w_583, by decide, by decide, by decide +kernel⟩
theorem cl_X0_115 : kCv "KindSayings$Heaps" 115 yX5_witnessed cX5_witnessed 6 (some .long) 1 := ⟨w_732, w_733, w_734, w_71, w_735, by decide, by decide, by decide +kernel⟩
theorem cl_X1_33 : kCv "KindSayings$Proof" 33 yX1_isSame cX1_isSame 2 (some .boolean) 1 := ⟨w_656, w_658, w_29, w_72, w_659, by decide, by decide, by decide +kernel⟩
theorem cl_X1_37 : kCv "KindSayings$Proof" 37 yX1_isTold cX1_isTold 2 (some .boolean) 1 := ⟨w_664, w_666, w_31, w_72, w_667, by decide, by decide, by decide +kernel⟩
theorem cl_X1_40 : kCv "KindSayings$Proof" 40 yX1_factsAhead cX1_factsAhead 5 (some .long) 1 := ⟨w_668, w_670, w_32, w_72, w_671, by decide, by decide, by decide +kernel⟩
theorem cl_X1_47 : kCv "KindSayings$Proof" 47 yX1_isAnyComing cX1_isAnyComing 4 (some .boolean) 1 := ⟨w_672, w_674, w_33, w_72, w_675, by decide, by decide, by decide +kernel⟩
theorem cl_X1_50 : kCv "KindSayings$Proof" 50 yX1_isOfKinds cX1_isOfKinds 2 (some .boolean) 1 := ⟨w_660, w_662, w_30, w_72, w_663, by decide, by decide, by decide +kernel⟩
theorem cl_X1_53 : kCv "KindSayings$Proof" 53 yX1_leastMood cX1_leastMood 4 (some .int) 1 := ⟨w_676, w_678, w_34, w_72, w_679, by decide, by decide, by decide +kernel⟩
theorem cl_X1_57 : kCv "KindSayings$Proof" 57 yX1_roundAt cX1_roundAt 2 (some .int) 1 := ⟨w_708, w_697, w_698, w_72, w_699, by decide, by decide, by decide +kernel⟩
theorem cl_X1_69 : kCv "KindSayings$Proof" 69 yX1_isShowing cX1_isShowing 9 (some .boolean) 3 := ⟨w_682, w_684, w_35, w_72, w_685, by decide, by decide, by decide +kernel⟩
theorem cl_X1_83 : kCv "KindSayings$Proof" 83 yX1_isShownOf cX1_isShownOf 5 (some .boolean) 2 := ⟨w_691, w_693, w_36, w_72, w_694, by decide, by decide, by decide +kernel⟩
theorem cl_X2_35 : kCv "KindSayings$Reader" 35 yX4_begin cX4_begin 1 none 0 := ⟨w_421, w_422, w_423, w_68, w_424, by decide, by decide, by decide +kernel⟩
theorem cl_X2_38 : kCv "KindSayings$Reader" 38 yX2_readHead cX2_readHead 1 none 0 := ⟨w_456, w_458, w_11, w_67, w_459, by decide, by decide, by decide +kernel⟩
theorem cl_X2_41 : kCv "KindSayings$Reader" 41 yX2_readSide cX2_readSide 4 (some .int) 0 := ⟨w_473, w_475, w_15, w_67, w_476, by decide, by decide, by decide +kernel⟩
theorem cl_X2_51 : kCv "KindSayings$Reader" 51 yX2_pass cX2_pass 2 none 1 := ⟨w_465, w_467, w_13, w_67, w_468, by decide, by decide, by decide +kernel⟩
theorem cl_X2_58 : kCv "KindSayings$Reader" 58 yX2_factTold cX2_factTold 3 (some .int) 2 := ⟨w_495, w_497, w_20, w_67, w_498, by decide, by decide, by decide +kernel⟩
theorem cl_X2_75 : kCv "KindSayings$Reader" 75 yX4_advance cX4_advance 2 none 0 := ⟨w_460, w_426, w_427, w_68, w_428, by decide, by decide, by decide +kernel⟩
theorem cl_X2_84 : kCv "KindSayings$Reader" 84 yX2_fail cX2_fail 1 none 0 := ⟨w_461, w_463, w_12, w_67, w_464, by decide, by decide, by decide +kernel⟩
theorem cl_X2_87 : kCv "KindSayings$Reader" 87 yX2_readNumber cX2_readNumber 1 none 0 := ⟨w_469, w_471, w_14, w_67, w_472, by decide, by decide, by decide +kernel⟩
theorem cl_X2_93 : kCv "KindSayings$Reader" 93 yX2_readUnion cX2_readUnion 4 (some .int) 1 := ⟨w_477, w_479, w_16, w_67, w_480, by decide, by decide, by decide +kernel⟩
theorem cl_X2_97 : kCv "KindSayings$Reader" 97 yX2_readMeet cX2_readMeet 4 (some .int) 1 := ⟨w_481, w_483, w_17, w_67, w_484, by decide, by decide, by decide +kernel⟩
theorem cl_X2_100 : kCv "KindSayings$Reader" 100 yX2_readPart cX2_readPart 5 (some .int) 1 := ⟨w_485, w_487, w_18, w_67, w_488, by decide, by decide, by decide +kernel⟩
theorem cl_X2_103 : kCv "KindSayings$Reader" 103 yX2_isPart cX2_isPart 4 (some .boolean) 3 := ⟨w_489, w_491, w_19, w_67, w_492, by decide, by decide, by decide +kernel⟩
theorem cl_X3_39 : kCv "KindSayings$Saying" 39 yX3_isTrueUnturned cX3_isTrueUnturned 4 (some .boolean) 3 := ⟨w_389, w_391, w_6, w_69, w_392, by decide, by decide, by decide +kernel⟩
theorem cl_X4_27 : kCv "KindSayings$Tokens" 27 yX4_advance cX4_advance 2 none 0 := ⟨w_425, w_426, w_427, w_68, w_428, by decide, by decide, by decide +kernel⟩
theorem cl_X4_30 : kCv "KindSayings$Tokens" 30 yX4_byteAt cX4_byteAt 2 (some .int) 1 := ⟨w_429, w_431, w_7, w_68, w_432, by decide, by decide, by decide +kernel⟩
theorem cl_X4_43 : kCs "KindSayings$Tokens" 43 yX4_isLetter cX4_isLetter 1 (some .boolean) 1 := ⟨w_433, w_434, w_68, w_435, by decide, by decide, by decide +kernel⟩
theorem cl_X4_47 : kCv "KindSayings$Tokens" 47 yX4_takeWord cX4_takeWord 4 none 0 := ⟨w_436, w_438, w_8, w_68, w_439, by decide, by decide, by decide +kernel⟩
theorem cl_X4_50 : kCs "KindSayings$Tokens" 50 yX4_isFigure cX4_isFigure 1 (some .boolean) 1 := ⟨w_442, w_443, w_68, w_444, by decide, by decide, by decide +kernel⟩
theorem cl_X4_53 : kCv "KindSayings$Tokens" 53 yX4_takeNumber cX4_takeNumber 2 none 0 := ⟨w_445, w_447, w_9, w_68, w_448, by decide, by decide, by decide +kernel⟩
theorem cl_X4_56 : kCv "KindSayings$Tokens" 56 yX4_takeSign cX4_takeSign 2 none 1 := ⟨w_452, w_454, w_10, w_68, w_455, by decide, by decide, by decide +kernel⟩
theorem cl_X4_64 : kCs "KindSayings$Tokens" 64 yJ9_min_7cf53 cJ9_min_7cf53 2 (some .int) 2 := ⟨w_449, w_450, w_74, w_451, by decide, by decide, by decide +kernel⟩
theorem cl_X5_21 : kCv "KindSayings$Walk" 21 yX3_weight cX3_weight 4 (some .int) 1 := ⟨w_538, w_382, w_383, w_69, w_384, by decide, by decide, by decide +kernel⟩
theorem cl_X5_27 : kCs "KindSayings$Walk" 27 yJ9_min_7cf53 cJ9_min_7cf53 2 (some .int) 2 := ⟨w_539, w_450, w_74, w_451, by decide, by decide, by decide +kernel⟩
theorem cl_X5_43 : kCv "KindSayings$Walk" 43 yX5_fillFrom cX5_fillFrom 5 none 2 := ⟨w_549, w_551, w_23, w_71, w_552, by decide, by decide, by decide +kernel⟩
theorem cl_L_13 : kCv "KindSayingsLaw" 13 yX6_kinds cX6_kinds 3 (some .int) 1 := ⟨w_345, w_346, w_347, w_66, w_348, by decide, by decide, by decide +kernel⟩
theorem cl_L_17 : kCv "KindSayingsLaw" 17 yX7_kinds cX7_kinds 3 (some .int) 1 := ⟨w_858, w_859, w_860, w_73, w_861, by decide, by decide, by decide +kernel⟩
theorem cl_L_18 : kCv "KindSayingsLaw" 18 yX6_most cX6_most 3 (some .int) 1 := ⟨w_349, w_350, w_351, w_66, w_352, by decide, by decide, by decide +kernel⟩
theorem cl_L_21 : kCv "KindSayingsLaw" 21 yX7_most cX7_most 3 (some .int) 1 := ⟨w_865, w_866, w_867, w_73, w_868, by decide, by decide, by decide +kernel⟩
theorem cl_L_22 : kCv "KindSayingsLaw" 22 yX6_worlds cX6_worlds 1 (some .int) 0 := ⟨w_353, w_354, w_355, w_66, w_356, by decide, by decide, by decide +kernel⟩
theorem cl_L_26 : kCv "KindSayingsLaw" 26 yX7_worlds cX7_worlds 1 (some .int) 0 := ⟨w_869, w_870, w_871, w_73, w_872, by decide, by decide, by decide +kernel⟩
theorem cl_L_27 : kCv "KindSayingsLaw" 27 yX6_put cX6_put 4 (some .int) 2 := ⟨w_357, w_358, w_359, w_66, w_360, by decide, by decide, by decide +kernel⟩
theorem cl_L_31 : kCv "KindSayingsLaw" 31 yX7_put cX7_put 4 (some .int) 2 := ⟨w_894, w_895, w_896, w_73, w_897, by decide, by decide, by decide +kernel⟩
theorem cl_L_32 : kCv "KindSayingsLaw" 32 yX6_holds cX6_holds 4 (some .int) 1 := ⟨w_369, w_370, w_371, w_66, w_372, by decide, by decide, by decide +kernel⟩
theorem cl_L_35 : kCv "KindSayingsLaw" 35 yX7_holds cX7_holds 2 (some .int) 1 := ⟨w_902, w_903, w_904, w_73, w_905, by decide, by decide, by decide +kernel⟩
theorem cl_L_36 : kCv "KindSayingsLaw" 36 yX6_size cX6_size 4 (some .int) 2 := ⟨w_396, w_397, w_398, w_66, w_399, by decide, by decide, by decide +kernel⟩
theorem cl_L_39 : kCv "KindSayingsLaw" 39 yX7_size cX7_size 5 (some .int) 2 := ⟨w_909, w_910, w_911, w_73, w_912, by decide, by decide, by decide +kernel⟩
theorem cl_L_42 : kCv "KindSayingsLaw" 42 yX6_type cX6_type 5 (some .int) 2 := ⟨w_400, w_401, w_402, w_66, w_403, by decide, by decide, by decide +kernel⟩
theorem cl_L_46 : kCv "KindSayingsLaw" 46 yX7_type cX7_type 5 (some .int) 2 := ⟨w_913, w_914, w_915, w_73, w_916, by decide, by decide, by decide +kernel⟩
theorem cl_L_47 : kCv "KindSayingsLaw" 47 yX6_clear cX6_clear 2 (some .int) 0 := ⟨w_409, w_410, w_411, w_66, w_412, by decide, by decide, by decide +kernel⟩
theorem cl_L_50 : kCv "KindSayingsLaw" 50 yX7_clear cX7_clear 2 (some .int) 0 := ⟨w_918, w_919, w_920, w_73, w_921, by decide, by decide, by decide +kernel⟩
theorem cl_L_51 : kCv "KindSayingsLaw" 51 yX6_read cX6_read 4 (some .int) 1 := ⟨w_413, w_414, w_415, w_66, w_416, by decide, by decide, by decide +kernel⟩
theorem cl_L_54 : kCv "KindSayingsLaw" 54 yX7_read cX7_read 11 (some .int) 1 := ⟨w_922, w_923, w_924, w_73, w_925, by decide, by decide, by decide +kernel⟩
theorem cl_L_55 : kCv "KindSayingsLaw" 55 yX6_about cX6_about 4 (some .int) 2 := ⟨w_504, w_505, w_506, w_66, w_507, by decide, by decide, by decide +kernel⟩
theorem cl_L_58 : kCv "KindSayingsLaw" 58 yX7_about cX7_about 3 (some .int) 2 := ⟨w_975, w_976, w_977, w_73, w_978, by decide, by decide, by decide +kernel⟩
theorem cl_L_59 : kCv "KindSayingsLaw" 59 yX6_can cX6_can 2 (some .int) 1 := ⟨w_508, w_509, w_510, w_66, w_511, by decide, by decide, by decide +kernel⟩
theorem cl_L_62 : kCv "KindSayingsLaw" 62 yX7_can cX7_can 2 (some .int) 1 := ⟨w_979, w_980, w_981, w_73, w_982, by decide, by decide, by decide +kernel⟩
theorem cl_L_63 : kCv "KindSayingsLaw" 63 yX6_least cX6_least 4 (some .int) 2 := ⟨w_565, w_566, w_567, w_66, w_568, by decide, by decide, by decide +kernel⟩
theorem cl_L_66 : kCv "KindSayingsLaw" 66 yX7_least cX7_least 3 (some .int) 2 := ⟨w_993, w_994, w_995, w_73, w_996, by decide, by decide, by decide +kernel⟩
theorem cl_L_67 : kCv "KindSayingsLaw" 67 yX6_follows cX6_follows 3 (some .int) 2 := ⟨w_584, w_585, w_586, w_66, w_587, by decide, by decide, by decide +kernel⟩
theorem cl_L_70 : kCv "KindSayingsLaw" 70 yX7_follows cX7_follows 3 (some .int) 2 := ⟨w_1005, w_1006, w_1007, w_73, w_1008, by decide, by decide, by decide +kernel⟩
theorem cl_L_71 : kCv "KindSayingsLaw" 71 yX6_against cX6_against 5 (some .int) 3 := ⟨w_593, w_594, w_595, w_66, w_596, by decide, by decide, by decide +kernel⟩
theorem cl_L_75 : kCv "KindSayingsLaw" 75 yX7_against cX7_against 4 (some .int) 3 := ⟨w_1009, w_1010, w_1011, w_73, w_1012, by decide, by decide, by decide +kernel⟩
theorem cl_L_76 : kCv "KindSayingsLaw" 76 yX6_unsaid cX6_unsaid 5 (some .int) 1 := ⟨w_597, w_598, w_599, w_66, w_600, by decide, by decide, by decide +kernel⟩
theorem cl_L_79 : kCv "KindSayingsLaw" 79 yX7_unsaid cX7_unsaid 4 (some .int) 1 := ⟨w_1013, w_1014, w_1015, w_73, w_1016, by decide, by decide, by decide +kernel⟩
theorem cl_L_80 : kCv "KindSayingsLaw" 80 yX6_clash cX6_clash 4 (some .int) 2 := ⟨w_601, w_602, w_603, w_66, w_604, by decide, by decide, by decide +kernel⟩
theorem cl_L_83 : kCv "KindSayingsLaw" 83 yX7_clash cX7_clash 5 (some .int) 2 := ⟨w_1017, w_1018, w_1019, w_73, w_1020, by decide, by decide, by decide +kernel⟩
theorem cl_L_84 : kCv "KindSayingsLaw" 84 yX6_ask cX6_ask 9 (some .int) 1 := ⟨w_616, w_617, w_618, w_66, w_619, by decide, by decide, by decide +kernel⟩
theorem cl_L_87 : kCv "KindSayingsLaw" 87 yX7_ask cX7_ask 8 (some .int) 1 := ⟨w_1024, w_1025, w_1026, w_73, w_1027, by decide, by decide, by decide +kernel⟩
theorem cl_L_88 : kCv "KindSayingsLaw" 88 yX6_heaps cX6_heaps 2 (some .int) 1 := ⟨w_623, w_624, w_625, w_66, w_626, by decide, by decide, by decide +kernel⟩
theorem cl_L_91 : kCv "KindSayingsLaw" 91 yX7_heaps cX7_heaps 4 (some .int) 1 := ⟨w_1028, w_1029, w_1030, w_73, w_1031, by decide, by decide, by decide +kernel⟩
theorem cl_L_92 : kCv "KindSayingsLaw" 92 yX6_twin cX6_twin 4 (some .int) 1 := ⟨w_631, w_632, w_633, w_66, w_634, by decide, by decide, by decide +kernel⟩
theorem cl_L_95 : kCv "KindSayingsLaw" 95 yX7_twin cX7_twin 5 (some .int) 1 := ⟨w_1032, w_1033, w_1034, w_73, w_1035, by decide, by decide, by decide +kernel⟩
theorem cl_L_96 : kCv "KindSayingsLaw" 96 yX6_moods cX6_moods 3 (some .int) 1 := ⟨w_635, w_636, w_637, w_66, w_638, by decide, by decide, by decide +kernel⟩
theorem cl_L_99 : kCv "KindSayingsLaw" 99 yX7_moods cX7_moods 3 (some .int) 1 := ⟨w_1036, w_1037, w_1038, w_73, w_1039, by decide, by decide, by decide +kernel⟩
theorem cl_L_100 : kCv "KindSayingsLaw" 100 yX6_round cX6_round 5 (some .int) 4 := ⟨w_639, w_640, w_641, w_66, w_642, by decide, by decide, by decide +kernel⟩
theorem cl_L_104 : kCv "KindSayingsLaw" 104 yX7_round cX7_round 5 (some .int) 4 := ⟨w_1040, w_1041, w_1042, w_73, w_1043, by decide, by decide, by decide +kernel⟩
theorem cl_L_105 : kCv "KindSayingsLaw" 105 yX6_by cX6_by 6 (some .int) 5 := ⟨w_700, w_701, w_702, w_66, w_703, by decide, by decide, by decide +kernel⟩
theorem cl_L_109 : kCv "KindSayingsLaw" 109 yX7_by cX7_by 9 (some .int) 5 := ⟨w_1064, w_1065, w_1066, w_73, w_1067, by decide, by decide, by decide +kernel⟩
theorem cl_L_110 : kCv "KindSayingsLaw" 110 yX6_shown cX6_shown 5 (some .int) 2 := ⟨w_709, w_710, w_711, w_66, w_712, by decide, by decide, by decide +kernel⟩
theorem cl_L_113 : kCv "KindSayingsLaw" 113 yX7_shown cX7_shown 7 (some .int) 2 := ⟨w_1068, w_1069, w_1070, w_73, w_1071, by decide, by decide, by decide +kernel⟩
theorem cl_L_114 : kCv "KindSayingsLaw" 114 yX6_count cX6_count 2 (some .int) 1 := ⟨w_744, w_745, w_746, w_66, w_747, by decide, by decide, by decide +kernel⟩
theorem cl_L_117 : kCv "KindSayingsLaw" 117 yX7_count cX7_count 4 (some .int) 1 := ⟨w_1072, w_1073, w_1074, w_73, w_1075, by decide, by decide, by decide +kernel⟩
theorem cl_X7_54 : kCv "KindSayingsModel" 54 yX7_begins cX7_begins 2 none 0 := ⟨w_758, w_760, w_39, w_73, w_761, by decide, by decide, by decide +kernel⟩
theorem cl_X7_60 : kCv "KindSayingsModel" 60 yX7_sorts cX7_sorts 1 (some .int) 0 := ⟨w_766, w_768, w_41, w_73, w_769, by decide, by decide, by decide +kernel⟩
theorem cl_X7_64 : kCv "KindSayingsModel" 64 yX7_of cX7_of 4 (some .int) 1 := ⟨w_762, w_764, w_40, w_73, w_765, by decide, by decide, by decide +kernel⟩
theorem cl_X7_72 : kCs "KindSayingsModel" 72 yX7_in cX7_in 3 (some .boolean) 3 := ⟨w_862, w_863, w_73, w_864, by decide, by decide, by decide +kernel⟩
theorem cl_X7_76 : kCv "KindSayingsModel" 76 yX7_loads cX7_loads 6 none 0 := ⟨w_873, w_875, w_42, w_73, w_876, by decide, by decide, by decide +kernel⟩
theorem cl_X7_82 : kCv "KindSayingsModel" 82 yX7_all cX7_all 4 (some .int) 1 := ⟨w_898, w_900, w_47, w_73, w_901, by decide, by decide, by decide +kernel⟩
theorem cl_X7_86 : kCv "KindSayingsModel" 86 yX7_sizeOf cX7_sizeOf 5 (some .int) 2 := ⟨w_885, w_887, w_45, w_73, w_888, by decide, by decide, by decide +kernel⟩
theorem cl_X7_90 : kCs "KindSayingsModel" 90 yX7_isSaying cX7_isSaying 1 (some .boolean) 1 := ⟨w_906, w_907, w_73, w_908, by decide, by decide, by decide +kernel⟩
theorem cl_X7_94 : kCv "KindSayingsModel" 94 yX7_isSo cX7_isSo 9 (some .boolean) 2 := ⟨w_881, w_883, w_44, w_73, w_884, by decide, by decide, by decide +kernel⟩
theorem cl_X7_105 : kCs "KindSayingsModel" 105 yX7_add cX7_add 3 (some .long) 2 := ⟨w_934, w_935, w_73, w_936, by decide, by decide, by decide +kernel⟩
theorem cl_X7_109 : kCs "KindSayingsModel" 109 yX7_word cX7_word 5 (some .long) 5 := ⟨w_941, w_942, w_73, w_943, by decide, by decide, by decide +kernel⟩
theorem cl_X7_116 : kCv "KindSayingsModel" 116 yX7_byteAt cX7_byteAt 2 (some .int) 1 := ⟨w_930, w_932, w_49, w_73, w_933, by decide, by decide, by decide +kernel⟩
theorem cl_X7_125 : kCs "KindSayingsModel" 125 yX7_wordOf cX7_wordOf 2 (some .int) 1 := ⟨w_938, w_939, w_73, w_940, by decide, by decide, by decide +kernel⟩
theorem cl_X7_135 : kCv "KindSayingsModel" 135 yX7_isWell cX7_isWell 1 (some .boolean) 0 := ⟨w_948, w_950, w_51, w_73, w_951, by decide, by decide, by decide +kernel⟩
theorem cl_X7_142 : kCv "KindSayingsModel" 142 yX7_isSign cX7_isSign 2 (some .boolean) 1 := ⟨w_956, w_958, w_53, w_73, w_959, by decide, by decide, by decide +kernel⟩
theorem cl_X7_145 : kCv "KindSayingsModel" 145 yX7_isKindSign cX7_isKindSign 1 (some .boolean) 0 := ⟨w_960, w_962, w_54, w_73, w_963, by decide, by decide, by decide +kernel⟩
theorem cl_X7_151 : kCv "KindSayingsModel" 151 yX7_fails cX7_fails 1 none 0 := ⟨w_944, w_946, w_50, w_73, w_947, by decide, by decide, by decide +kernel⟩
theorem cl_X7_154 : kCv "KindSayingsModel" 154 yX7_advances cX7_advances 5 none 0 := ⟨w_926, w_928, w_48, w_73, w_929, by decide, by decide, by decide +kernel⟩
theorem cl_X7_157 : kCs "KindSayingsModel" 157 yX7_joins cX7_joins 3 (some .int) 3 := ⟨w_964, w_965, w_73, w_966, by decide, by decide, by decide +kernel⟩
theorem cl_X7_161 : kCv "KindSayingsModel" 161 yX7_hasOpen cX7_hasOpen 4 (some .boolean) 1 := ⟨w_967, w_969, w_55, w_73, w_970, by decide, by decide, by decide +kernel⟩
theorem cl_X7_164 : kCv "KindSayingsModel" 164 yX7_every cX7_every 1 (some .int) 0 := ⟨w_971, w_973, w_56, w_73, w_974, by decide, by decide, by decide +kernel⟩
theorem cl_X7_167 : kCv "KindSayingsModel" 167 yX7_side cX7_side 8 (some .int) 0 := ⟨w_952, w_954, w_52, w_73, w_955, by decide, by decide, by decide +kernel⟩
theorem cl_X7_172 : kCv "KindSayingsModel" 172 yX7_isFact cX7_isFact 7 (some .boolean) 3 := ⟨w_890, w_892, w_46, w_73, w_893, by decide, by decide, by decide +kernel⟩
theorem cl_X7_175 : kCv "KindSayingsModel" 175 yX7_takes cX7_takes 5 none 0 := ⟨w_877, w_879, w_43, w_73, w_880, by decide, by decide, by decide +kernel⟩
theorem cl_X7_178 : kCs "KindSayingsModel" 178 yX7_isIn cX7_isIn 2 (some .boolean) 2 := ⟨w_990, w_991, w_73, w_992, by decide, by decide, by decide +kernel⟩
theorem cl_X7_182 : kCs "KindSayingsModel" 182 yX7_isSet cX7_isSet 1 (some .boolean) 1 := ⟨w_983, w_984, w_73, w_985, by decide, by decide, by decide +kernel⟩
theorem cl_X7_185 : kCv "KindSayingsModel" 185 yX7_canBe cX7_canBe 4 (some .int) 1 := ⟨w_986, w_988, w_57, w_73, w_989, by decide, by decide, by decide +kernel⟩
theorem cl_X7_188 : kCv "KindSayingsModel" 188 yX7_firstOf cX7_firstOf 6 (some .int) 2 := ⟨w_997, w_999, w_58, w_73, w_1000, by decide, by decide, by decide +kernel⟩
theorem cl_X7_192 : kCv "KindSayingsModel" 192 yX7_told cX7_told 5 (some .int) 2 := ⟨w_1001, w_1003, w_59, w_73, w_1004, by decide, by decide, by decide +kernel⟩
theorem cl_X7_195 : kCs "KindSayingsModel" 195 yX7_ones cX7_ones 3 (some .int) 1 := ⟨w_1021, w_1022, w_73, w_1023, by decide, by decide, by decide +kernel⟩
theorem cl_X7_207 : kCv "KindSayingsModel" 207 yX7_isBy cX7_isBy 3 (some .boolean) 2 := ⟨w_1060, w_1062, w_64, w_73, w_1063, by decide, by decide, by decide +kernel⟩
theorem cl_X7_210 : kCv "KindSayingsModel" 210 yX7_isTold cX7_isTold 5 (some .boolean) 2 := ⟨w_1052, w_1054, w_62, w_73, w_1055, by decide, by decide, by decide +kernel⟩
theorem cl_X7_216 : kCv "KindSayingsModel" 216 yX7_isShown cX7_isShown 11 (some .boolean) 5 := ⟨w_1056, w_1058, w_63, w_73, w_1059, by decide, by decide, by decide +kernel⟩
theorem cl_X7_220 : kCv "KindSayingsModel" 220 yX7_isAsked cX7_isAsked 5 (some .boolean) 4 := ⟨w_1044, w_1046, w_60, w_73, w_1047, by decide, by decide, by decide +kernel⟩
theorem cl_X7_224 : kCv "KindSayingsModel" 224 yX7_shows cX7_shows 7 none 1 := ⟨w_1048, w_1050, w_61, w_73, w_1051, by decide, by decide, by decide +kernel⟩
theorem cl_X0_40 : kCsN "KindSayings$Heaps" 40 yX6_has cX6_has 2 (some .boolean) 2 := ⟨by decide +kernel, w_221, w_66, w_222, by decide, by decide, by decide +kernel⟩
theorem cl_X0_44 : kCsN "KindSayings$Heaps" 44 yX6_factNumber cX6_factNumber 3 (some .int) 3 := ⟨by decide +kernel, w_224, w_66, w_225, by decide, by decide, by decide +kernel⟩
theorem cl_X1_29 : kCsN "KindSayings$Proof" 29 yX6_has cX6_has 2 (some .boolean) 2 := ⟨by decide +kernel, w_221, w_66, w_222, by decide, by decide, by decide +kernel⟩
theorem cl_X1_79 : kCsN "KindSayings$Proof" 79 yX6_factNumber cX6_factNumber 3 (some .int) 3 := ⟨by decide +kernel, w_224, w_66, w_225, by decide, by decide, by decide +kernel⟩
theorem cl_X2_107 : kCsN "KindSayings$Reader" 107 yX6_sortsOfKind cX6_sortsOfKind 4 (some .int) 2 := ⟨by decide +kernel, w_302, w_66, w_303, by decide, by decide, by decide +kernel⟩
theorem cl_X2_110 : kCsN "KindSayings$Reader" 110 yX6_everySort cX6_everySort 1 (some .int) 1 := ⟨by decide +kernel, w_306, w_66, w_307, by decide, by decide, by decide +kernel⟩
theorem cl_X2_116 : kCsN "KindSayings$Reader" 116 yX6_factNumber cX6_factNumber 3 (some .int) 3 := ⟨by decide +kernel, w_224, w_66, w_225, by decide, by decide, by decide +kernel⟩
theorem cl_X3_18 : kCsN "KindSayings$Saying" 18 yX6_sortsOfKind cX6_sortsOfKind 4 (some .int) 2 := ⟨by decide +kernel, w_302, w_66, w_303, by decide, by decide, by decide +kernel⟩
theorem cl_X3_28 : kCsN "KindSayings$Saying" 28 yX6_factNumber cX6_factNumber 3 (some .int) 3 := ⟨by decide +kernel, w_224, w_66, w_225, by decide, by decide, by decide +kernel⟩
/-- enough for every loop -/
abbrev FU : Nat := 1000000
def bI (b : Bool) : Int32 := if b then 1 else 0
theorem bI01 (b : Bool) : bI b = 0 ∨ bI b = 1 := by cases b <;> simp [bI]
theorem bI_of {x : Int32} (h : x = 0 ∨ x = 1) : some (Value.int x) = some (.int (bI (decide (x = 1)))) := by rcases h with rfl | rfl <;> rfl
theorem ks_ge10 {x : Int32} (h : 10 ≤ x) : 10 ≤ x.toNatClampNeg := by
  have h1 : (10 : Int) ≤ x.toInt := Int32.le_iff_toInt_le.mp h
  rw [← Int32.toNat_toInt]
  omega
theorem ks_ge10r {x : Int32} (h0 : ¬ x < 0) (h : 10 ≤ x.toNatClampNeg) : 10 ≤ x := by
  refine Int32.le_iff_toInt_le.mpr ?_
  rw [← Int32.toNat_toInt] at h
  show (10 : Int) ≤ x.toInt
  omega
set_option maxRecDepth 100000 in
theorem c_X6_sayingAt_in (l : Launch) (D : va_G) (cA : Nat → ClassId) (st ad : Nat → Nat) (a : Nat) (τ : Tau) (p1 : Int32) (h : ¬ (p1 < 0 ∨ 10 ≤ p1.toNatClampNeg)) : KE ΛX 29 D cA st ad l yX6_sayingAt cX6_sayingAt 2 (some (.object "KindSayings$Saying")) 0 0 [.ref (adr ad a 0), .int p1] a τ (some (.ref (adr ad a (p1.toNatClampNeg + 2)))) τ := by
  refine KE.of "KindSayings" rfl (by decide) (Nat.le_of_ble_eq_true rfl) (fun p e s m args below meth c A ls Rm Q hE hRm hQ hw hl => ?_)
  obtain ⟨hx, hb, hml, hown, hts, -⟩ := id hE
  have hl : lv_has ls 2 [(0, .ref (adr ad a 0)), (1, .int p1)] := hl
  refine lv_iload_n hx hb dX6_sayingAt_0 rfl (lv_at hl 1 rfl) ?_
  refine lv_if_lt (tgt := 22) hx hb dX6_sayingAt_1 (by decide) (fun c1 => ?_) (fun c1 => ?_)
  · exact absurd (Or.inl c1) h
  · refine lv_iload_n hx hb dX6_sayingAt_4 rfl (lv_at hl 1 rfl) ?_
    refine lv_aload_n hx hb dX6_sayingAt_5 rfl (lv_at hl 0 rfl) ?_
    refine ks_getR hE hw 0 0 ltX_0 lyX_0 rfl fd_X6_11 dX6_sayingAt_6 ?_
    refine ks_alen hE hw 1 ltX_1 lyX_1 rfl 10 rfl dX6_sayingAt_9 ?_
    refine lv_icmp_ge (tgt := 22) hx hb dX6_sayingAt_10 (by decide) (fun c2 => ?_) (fun c2 => ?_)
    · exact absurd (Or.inr (ks_ge10 c2)) h
    · refine lv_aload_n hx hb dX6_sayingAt_13 rfl (lv_at hl 0 rfl) ?_
      refine ks_getR hE hw 0 0 ltX_0 lyX_0 rfl fd_X6_11 dX6_sayingAt_14 ?_
      refine lv_iload_n hx hb dX6_sayingAt_17 rfl (lv_at hl 1 rfl) ?_
      refine ks_aald hE hw 1 ltX_1 lyX_1 h dX6_sayingAt_18 ?_
      refine lv_goto (tgt := 23) hx hb dX6_sayingAt_19 (by decide) ?_
      exact ke_aret hE hw hQ (Or.inr ⟨_, rfl⟩) dX6_sayingAt_23 rfl rfl
set_option maxRecDepth 100000 in
theorem c_X6_sayingAt_out (l : Launch) (D : va_G) (cA : Nat → ClassId) (st ad : Nat → Nat) (a : Nat) (τ : Tau) (p1 : Int32) (h : p1 < 0 ∨ 10 ≤ p1.toNatClampNeg) : KE ΛX 29 D cA st ad l yX6_sayingAt cX6_sayingAt 2 (some (.object "KindSayings$Saying")) 0 0 [.ref (adr ad a 0), .int p1] a τ (some .null) τ := by
  refine KE.of "KindSayings" rfl (by decide) (Nat.le_of_ble_eq_true rfl) (fun p e s m args below meth c A ls Rm Q hE hRm hQ hw hl => ?_)
  obtain ⟨hx, hb, hml, hown, hts, -⟩ := id hE
  have hl : lv_has ls 2 [(0, .ref (adr ad a 0)), (1, .int p1)] := hl
  refine lv_iload_n hx hb dX6_sayingAt_0 rfl (lv_at hl 1 rfl) ?_
  refine lv_if_lt (tgt := 22) hx hb dX6_sayingAt_1 (by decide) (fun c1 => ?_) (fun c1 => ?_)
  · refine lv_null hx hb dX6_sayingAt_22 ?_
    exact ke_aret hE hw hQ (Or.inl rfl) dX6_sayingAt_23 rfl rfl
  · refine lv_iload_n hx hb dX6_sayingAt_4 rfl (lv_at hl 1 rfl) ?_
    refine lv_aload_n hx hb dX6_sayingAt_5 rfl (lv_at hl 0 rfl) ?_
    refine ks_getR hE hw 0 0 ltX_0 lyX_0 rfl fd_X6_11 dX6_sayingAt_6 ?_
    refine ks_alen hE hw 1 ltX_1 lyX_1 rfl 10 rfl dX6_sayingAt_9 ?_
    refine lv_icmp_ge (tgt := 22) hx hb dX6_sayingAt_10 (by decide) (fun c2 => ?_) (fun c2 => ?_)
    · refine lv_null hx hb dX6_sayingAt_22 ?_
      exact ke_aret hE hw hQ (Or.inl rfl) dX6_sayingAt_23 rfl rfl
    · exact absurd (h.elim (fun z => c1 z) (fun z => c2 (ks_ge10r c1 z))) (fun z => z)
end
