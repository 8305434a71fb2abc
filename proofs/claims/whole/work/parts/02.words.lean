set_option maxRecDepth 8000 in
theorem w_0 : Cond.selects "KindSayings" (⟨"KindSayings", "startOver", "()V"⟩) (⟨"KindSayings", "startOver", "()V"⟩) ∈ Gd := Gd_0 0 rfl rfl
set_option maxRecDepth 8000 in
theorem w_1 : Cond.selects "KindSayings" (⟨"KindSayings", "sortCount", "()I"⟩) (⟨"KindSayings", "sortCount", "()I"⟩) ∈ Gd := Gd_0 1 rfl rfl
set_option maxRecDepth 8000 in
theorem w_2 : Cond.selects "KindSayings" (⟨"KindSayings", "isSort", "(I)Z"⟩) (⟨"KindSayings", "isSort", "(I)Z"⟩) ∈ Gd := Gd_0 2 rfl rfl
set_option maxRecDepth 8000 in
theorem w_3 : Cond.selects "KindSayings" (⟨"KindSayings", "thingsAtHand", "()I"⟩) (⟨"KindSayings", "thingsAtHand", "()I"⟩) ∈ Gd := Gd_0 3 rfl rfl
set_option maxRecDepth 8000 in
theorem w_4 : Cond.selects "KindSayings" (⟨"KindSayings", "sayingAt", "(I)LKindSayings$Saying;"⟩) (⟨"KindSayings", "sayingAt", "(I)LKindSayings$Saying;"⟩) ∈ Gd := Gd_0 4 rfl rfl
set_option maxRecDepth 8000 in
theorem w_5 : Cond.selects "KindSayings" (⟨"KindSayings", "sumAtHand", "(LKindSayings$Saying;)I"⟩) (⟨"KindSayings", "sumAtHand", "(LKindSayings$Saying;)I"⟩) ∈ Gd := Gd_0 5 rfl rfl
set_option maxRecDepth 8000 in
theorem w_6 : Cond.selects "KindSayings$Saying" (⟨"KindSayings$Saying", "isTrueUnturned", "(III)Z"⟩) (⟨"KindSayings$Saying", "isTrueUnturned", "(III)Z"⟩) ∈ Gd := Gd_0 6 rfl rfl
set_option maxRecDepth 8000 in
theorem w_7 : Cond.selects "KindSayings$Tokens" (⟨"KindSayings$Tokens", "byteAt", "(I)I"⟩) (⟨"KindSayings$Tokens", "byteAt", "(I)I"⟩) ∈ Gd := Gd_0 7 rfl rfl
set_option maxRecDepth 8000 in
theorem w_8 : Cond.selects "KindSayings$Tokens" (⟨"KindSayings$Tokens", "takeWord", "()V"⟩) (⟨"KindSayings$Tokens", "takeWord", "()V"⟩) ∈ Gd := Gd_0 8 rfl rfl
set_option maxRecDepth 8000 in
theorem w_9 : Cond.selects "KindSayings$Tokens" (⟨"KindSayings$Tokens", "takeNumber", "()V"⟩) (⟨"KindSayings$Tokens", "takeNumber", "()V"⟩) ∈ Gd := Gd_0 9 rfl rfl
set_option maxRecDepth 8000 in
theorem w_10 : Cond.selects "KindSayings$Tokens" (⟨"KindSayings$Tokens", "takeSign", "(I)V"⟩) (⟨"KindSayings$Tokens", "takeSign", "(I)V"⟩) ∈ Gd := Gd_0 10 rfl rfl
set_option maxRecDepth 8000 in
theorem w_11 : Cond.selects "KindSayings$Reader" (⟨"KindSayings$Reader", "readHead", "()V"⟩) (⟨"KindSayings$Reader", "readHead", "()V"⟩) ∈ Gd := Gd_0 11 rfl rfl
set_option maxRecDepth 8000 in
theorem w_12 : Cond.selects "KindSayings$Reader" (⟨"KindSayings$Reader", "fail", "()V"⟩) (⟨"KindSayings$Reader", "fail", "()V"⟩) ∈ Gd := Gd_0 12 rfl rfl
set_option maxRecDepth 8000 in
theorem w_13 : Cond.selects "KindSayings$Reader" (⟨"KindSayings$Reader", "pass", "(I)V"⟩) (⟨"KindSayings$Reader", "pass", "(I)V"⟩) ∈ Gd := Gd_0 13 rfl rfl
set_option maxRecDepth 8000 in
theorem w_14 : Cond.selects "KindSayings$Reader" (⟨"KindSayings$Reader", "readNumber", "()V"⟩) (⟨"KindSayings$Reader", "readNumber", "()V"⟩) ∈ Gd := Gd_0 14 rfl rfl
set_option maxRecDepth 8000 in
theorem w_15 : Cond.selects "KindSayings$Reader" (⟨"KindSayings$Reader", "readSide", "()I"⟩) (⟨"KindSayings$Reader", "readSide", "()I"⟩) ∈ Gd := Gd_0 15 rfl rfl
set_option maxRecDepth 8000 in
theorem w_16 : Cond.selects "KindSayings$Reader" (⟨"KindSayings$Reader", "readUnion", "(I)I"⟩) (⟨"KindSayings$Reader", "readUnion", "(I)I"⟩) ∈ Gd := Gd_0 16 rfl rfl
set_option maxRecDepth 8000 in
theorem w_17 : Cond.selects "KindSayings$Reader" (⟨"KindSayings$Reader", "readMeet", "(I)I"⟩) (⟨"KindSayings$Reader", "readMeet", "(I)I"⟩) ∈ Gd := Gd_0 17 rfl rfl
set_option maxRecDepth 8000 in
theorem w_18 : Cond.selects "KindSayings$Reader" (⟨"KindSayings$Reader", "readPart", "(I)I"⟩) (⟨"KindSayings$Reader", "readPart", "(I)I"⟩) ∈ Gd := Gd_0 18 rfl rfl
set_option maxRecDepth 8000 in
theorem w_19 : Cond.selects "KindSayings$Reader" (⟨"KindSayings$Reader", "isPart", "(III)Z"⟩) (⟨"KindSayings$Reader", "isPart", "(III)Z"⟩) ∈ Gd := Gd_0 19 rfl rfl
set_option maxRecDepth 8000 in
theorem w_20 : Cond.selects "KindSayings$Reader" (⟨"KindSayings$Reader", "factTold", "(II)I"⟩) (⟨"KindSayings$Reader", "factTold", "(II)I"⟩) ∈ Gd := Gd_0 20 rfl rfl
set_option maxRecDepth 8000 in
theorem w_21 : Cond.selects "KindSayings" (⟨"KindSayings", "freshHeaps", "()LKindSayings$Heaps;"⟩) (⟨"KindSayings", "freshHeaps", "()LKindSayings$Heaps;"⟩) ∈ Gd := Gd_0 21 rfl rfl
set_option maxRecDepth 8000 in
theorem w_22 : Cond.selects "KindSayings$Heaps" (⟨"KindSayings$Heaps", "mark", "(LKindSayings$Saying;I)V"⟩) (⟨"KindSayings$Heaps", "mark", "(LKindSayings$Saying;I)V"⟩) ∈ Gd := Gd_0 22 rfl rfl
set_option maxRecDepth 8000 in
theorem w_23 : Cond.selects "KindSayings$Walk" (⟨"KindSayings$Walk", "fillFrom", "(II)V"⟩) (⟨"KindSayings$Walk", "fillFrom", "(II)V"⟩) ∈ Gd := Gd_0 23 rfl rfl
set_option maxRecDepth 8000 in
theorem w_24 : Cond.selects "KindSayings$Heaps" (⟨"KindSayings$Heaps", "fillHeaps", "()V"⟩) (⟨"KindSayings$Heaps", "fillHeaps", "()V"⟩) ∈ Gd := Gd_0 24 rfl rfl
set_option maxRecDepth 8000 in
theorem w_25 : Cond.selects "KindSayings$Heaps" (⟨"KindSayings$Heaps", "addTogether", "()V"⟩) (⟨"KindSayings$Heaps", "addTogether", "()V"⟩) ∈ Gd := Gd_0 25 rfl rfl
set_option maxRecDepth 8000 in
theorem w_26 : Cond.selects "KindSayings" (⟨"KindSayings", "isSortOrEvery", "(I)Z"⟩) (⟨"KindSayings", "isSortOrEvery", "(I)Z"⟩) ∈ Gd := Gd_0 26 rfl rfl
set_option maxRecDepth 8000 in
theorem w_27 : Cond.selects "KindSayings" (⟨"KindSayings", "isFact", "(III)Z"⟩) (⟨"KindSayings", "isFact", "(III)Z"⟩) ∈ Gd := Gd_0 27 rfl rfl
set_option maxRecDepth 8000 in
theorem w_28 : Cond.selects "KindSayings" (⟨"KindSayings", "work", "(I)V"⟩) (⟨"KindSayings", "work", "(I)V"⟩) ∈ Gd := Gd_0 28 rfl rfl
set_option maxRecDepth 8000 in
theorem w_29 : Cond.selects "KindSayings$Proof" (⟨"KindSayings$Proof", "isSame", "(I)Z"⟩) (⟨"KindSayings$Proof", "isSame", "(I)Z"⟩) ∈ Gd := Gd_0 29 rfl rfl
set_option maxRecDepth 8000 in
theorem w_30 : Cond.selects "KindSayings$Proof" (⟨"KindSayings$Proof", "isOfKinds", "(I)Z"⟩) (⟨"KindSayings$Proof", "isOfKinds", "(I)Z"⟩) ∈ Gd := Gd_0 30 rfl rfl
set_option maxRecDepth 8000 in
theorem w_31 : Cond.selects "KindSayings$Proof" (⟨"KindSayings$Proof", "isTold", "(I)Z"⟩) (⟨"KindSayings$Proof", "isTold", "(I)Z"⟩) ∈ Gd := Gd_0 31 rfl rfl
set_option maxRecDepth 8000 in
theorem w_32 : Cond.selects "KindSayings$Proof" (⟨"KindSayings$Proof", "factsAhead", "(I)J"⟩) (⟨"KindSayings$Proof", "factsAhead", "(I)J"⟩) ∈ Gd := Gd_0 32 rfl rfl
set_option maxRecDepth 8000 in
theorem w_33 : Cond.selects "KindSayings$Proof" (⟨"KindSayings$Proof", "isAnyComing", "(I)Z"⟩) (⟨"KindSayings$Proof", "isAnyComing", "(I)Z"⟩) ∈ Gd := Gd_0 33 rfl rfl
set_option maxRecDepth 8000 in
theorem w_34 : Cond.selects "KindSayings$Proof" (⟨"KindSayings$Proof", "leastMood", "(I)I"⟩) (⟨"KindSayings$Proof", "leastMood", "(I)I"⟩) ∈ Gd := Gd_0 34 rfl rfl
set_option maxRecDepth 8000 in
theorem w_35 : Cond.selects "KindSayings$Proof" (⟨"KindSayings$Proof", "isShowing", "(III)Z"⟩) (⟨"KindSayings$Proof", "isShowing", "(III)Z"⟩) ∈ Gd := Gd_0 35 rfl rfl
set_option maxRecDepth 8000 in
theorem w_36 : Cond.selects "KindSayings$Proof" (⟨"KindSayings$Proof", "isShownOf", "(II)Z"⟩) (⟨"KindSayings$Proof", "isShownOf", "(II)Z"⟩) ∈ Gd := Gd_0 36 rfl rfl
set_option maxRecDepth 8000 in
theorem w_37 : Cond.selects "KindSayings" (⟨"KindSayings", "everyFact", "()J"⟩) (⟨"KindSayings", "everyFact", "()J"⟩) ∈ Gd := Gd_0 37 rfl rfl
set_option maxRecDepth 8000 in
theorem w_38 : Cond.selects "KindSayings" (⟨"KindSayings", "plainSayings", "()I"⟩) (⟨"KindSayings", "plainSayings", "()I"⟩) ∈ Gd := Gd_0 38 rfl rfl
set_option maxRecDepth 8000 in
theorem w_39 : Cond.selects "KindSayingsModel" (⟨"KindSayingsModel", "begins", "()V"⟩) (⟨"KindSayingsModel", "begins", "()V"⟩) ∈ Gd := Gd_0 39 rfl rfl
set_option maxRecDepth 8000 in
theorem w_40 : Cond.selects "KindSayingsModel" (⟨"KindSayingsModel", "of", "(I)I"⟩) (⟨"KindSayingsModel", "of", "(I)I"⟩) ∈ Gd := Gd_0 40 rfl rfl
set_option maxRecDepth 8000 in
theorem w_41 : Cond.selects "KindSayingsModel" (⟨"KindSayingsModel", "sorts", "()I"⟩) (⟨"KindSayingsModel", "sorts", "()I"⟩) ∈ Gd := Gd_0 41 rfl rfl
set_option maxRecDepth 8000 in
theorem w_42 : Cond.selects "KindSayingsModel" (⟨"KindSayingsModel", "loads", "()V"⟩) (⟨"KindSayingsModel", "loads", "()V"⟩) ∈ Gd := Gd_0 42 rfl rfl
set_option maxRecDepth 8000 in
theorem w_43 : Cond.selects "KindSayingsModel" (⟨"KindSayingsModel", "takes", "()V"⟩) (⟨"KindSayingsModel", "takes", "()V"⟩) ∈ Gd := Gd_0 43 rfl rfl
set_option maxRecDepth 8000 in
theorem w_44 : Cond.selects "KindSayingsModel" (⟨"KindSayingsModel", "isSo", "(I[I)Z"⟩) (⟨"KindSayingsModel", "isSo", "(I[I)Z"⟩) ∈ Gd := Gd_0 44 rfl rfl
set_option maxRecDepth 8000 in
theorem w_45 : Cond.selects "KindSayingsModel" (⟨"KindSayingsModel", "sizeOf", "(I[I)I"⟩) (⟨"KindSayingsModel", "sizeOf", "(I[I)I"⟩) ∈ Gd := Gd_0 45 rfl rfl
set_option maxRecDepth 8000 in
theorem w_46 : Cond.selects "KindSayingsModel" (⟨"KindSayingsModel", "isFact", "(III)Z"⟩) (⟨"KindSayingsModel", "isFact", "(III)Z"⟩) ∈ Gd := Gd_0 46 rfl rfl
set_option maxRecDepth 8000 in
theorem w_47 : Cond.selects "KindSayingsModel" (⟨"KindSayingsModel", "all", "([I)I"⟩) (⟨"KindSayingsModel", "all", "([I)I"⟩) ∈ Gd := Gd_0 47 rfl rfl
set_option maxRecDepth 8000 in
theorem w_48 : Cond.selects "KindSayingsModel" (⟨"KindSayingsModel", "advances", "()V"⟩) (⟨"KindSayingsModel", "advances", "()V"⟩) ∈ Gd := Gd_0 48 rfl rfl
set_option maxRecDepth 8000 in
theorem w_49 : Cond.selects "KindSayingsModel" (⟨"KindSayingsModel", "byteAt", "(I)I"⟩) (⟨"KindSayingsModel", "byteAt", "(I)I"⟩) ∈ Gd := Gd_0 49 rfl rfl
set_option maxRecDepth 8000 in
theorem w_50 : Cond.selects "KindSayingsModel" (⟨"KindSayingsModel", "fails", "()V"⟩) (⟨"KindSayingsModel", "fails", "()V"⟩) ∈ Gd := Gd_0 50 rfl rfl
set_option maxRecDepth 8000 in
theorem w_51 : Cond.selects "KindSayingsModel" (⟨"KindSayingsModel", "isWell", "()Z"⟩) (⟨"KindSayingsModel", "isWell", "()Z"⟩) ∈ Gd := Gd_0 51 rfl rfl
set_option maxRecDepth 8000 in
theorem w_52 : Cond.selects "KindSayingsModel" (⟨"KindSayingsModel", "side", "()I"⟩) (⟨"KindSayingsModel", "side", "()I"⟩) ∈ Gd := Gd_0 52 rfl rfl
set_option maxRecDepth 8000 in
theorem w_53 : Cond.selects "KindSayingsModel" (⟨"KindSayingsModel", "isSign", "(I)Z"⟩) (⟨"KindSayingsModel", "isSign", "(I)Z"⟩) ∈ Gd := Gd_0 53 rfl rfl
set_option maxRecDepth 8000 in
theorem w_54 : Cond.selects "KindSayingsModel" (⟨"KindSayingsModel", "isKindSign", "()Z"⟩) (⟨"KindSayingsModel", "isKindSign", "()Z"⟩) ∈ Gd := Gd_0 54 rfl rfl
set_option maxRecDepth 8000 in
theorem w_55 : Cond.selects "KindSayingsModel" (⟨"KindSayingsModel", "hasOpen", "(I)Z"⟩) (⟨"KindSayingsModel", "hasOpen", "(I)Z"⟩) ∈ Gd := Gd_0 55 rfl rfl
set_option maxRecDepth 8000 in
theorem w_56 : Cond.selects "KindSayingsModel" (⟨"KindSayingsModel", "every", "()I"⟩) (⟨"KindSayingsModel", "every", "()I"⟩) ∈ Gd := Gd_0 56 rfl rfl
set_option maxRecDepth 8000 in
theorem w_57 : Cond.selects "KindSayingsModel" (⟨"KindSayingsModel", "canBe", "(I)I"⟩) (⟨"KindSayingsModel", "canBe", "(I)I"⟩) ∈ Gd := Gd_0 57 rfl rfl
set_option maxRecDepth 8000 in
theorem w_58 : Cond.selects "KindSayingsModel" (⟨"KindSayingsModel", "firstOf", "(II)I"⟩) (⟨"KindSayingsModel", "firstOf", "(II)I"⟩) ∈ Gd := Gd_0 58 rfl rfl
set_option maxRecDepth 8000 in
theorem w_59 : Cond.selects "KindSayingsModel" (⟨"KindSayingsModel", "told", "(II)I"⟩) (⟨"KindSayingsModel", "told", "(II)I"⟩) ∈ Gd := Gd_0 59 rfl rfl
set_option maxRecDepth 8000 in
theorem w_60 : Cond.selects "KindSayingsModel" (⟨"KindSayingsModel", "isAsked", "(IIII)Z"⟩) (⟨"KindSayingsModel", "isAsked", "(IIII)Z"⟩) ∈ Gd := Gd_0 60 rfl rfl
set_option maxRecDepth 8000 in
theorem w_61 : Cond.selects "KindSayingsModel" (⟨"KindSayingsModel", "shows", "(I)V"⟩) (⟨"KindSayingsModel", "shows", "(I)V"⟩) ∈ Gd := Gd_0 61 rfl rfl
set_option maxRecDepth 8000 in
theorem w_62 : Cond.selects "KindSayingsModel" (⟨"KindSayingsModel", "isTold", "(II)Z"⟩) (⟨"KindSayingsModel", "isTold", "(II)Z"⟩) ∈ Gd := Gd_0 62 rfl rfl
set_option maxRecDepth 8000 in
theorem w_63 : Cond.selects "KindSayingsModel" (⟨"KindSayingsModel", "isShown", "(IIIII)Z"⟩) (⟨"KindSayingsModel", "isShown", "(IIIII)Z"⟩) ∈ Gd := Gd_0 63 rfl rfl
set_option maxRecDepth 8000 in
theorem w_64 : Cond.selects "KindSayingsModel" (⟨"KindSayingsModel", "isBy", "(II)Z"⟩) (⟨"KindSayingsModel", "isBy", "(II)Z"⟩) ∈ Gd := Gd_0 64 rfl rfl
set_option maxRecDepth 8000 in
theorem w_65 : Cond.initialized "KindSayingsLaw" ∈ Gd := Gd_1 0 rfl rfl
set_option maxRecDepth 8000 in
theorem w_66 : Cond.initialized "KindSayings" ∈ Gd := Gd_1 1 rfl rfl
set_option maxRecDepth 8000 in
theorem w_67 : Cond.initialized "KindSayings$Reader" ∈ Gd := Gd_1 2 rfl rfl
set_option maxRecDepth 8000 in
theorem w_68 : Cond.initialized "KindSayings$Tokens" ∈ Gd := Gd_1 3 rfl rfl
set_option maxRecDepth 8000 in
theorem w_69 : Cond.initialized "KindSayings$Saying" ∈ Gd := Gd_1 4 rfl rfl
set_option maxRecDepth 8000 in
theorem w_70 : Cond.initialized "KindSayings$Heaps" ∈ Gd := Gd_1 5 rfl rfl
set_option maxRecDepth 8000 in
theorem w_71 : Cond.initialized "KindSayings$Walk" ∈ Gd := Gd_1 6 rfl rfl
set_option maxRecDepth 8000 in
theorem w_72 : Cond.initialized "KindSayings$Proof" ∈ Gd := Gd_1 7 rfl rfl
set_option maxRecDepth 8000 in
theorem w_73 : Cond.initialized "KindSayingsModel" ∈ Gd := Gd_1 8 rfl rfl
set_option maxRecDepth 8000 in
theorem w_74 : Cond.initialized "java/lang/Math" ∈ Gd := Gd_1 9 rfl rfl
set_option maxRecDepth 8000 in
theorem w_75 : Cond.initialized "java/lang/Integer" ∈ Gd := Gd_1 10 rfl rfl
set_option maxRecDepth 8000 in
theorem w_76 : Cond.initialized "java/lang/Long" ∈ Gd := Gd_1 11 rfl rfl
set_option maxRecDepth 8000 in
theorem w_77 : Cond.classLink "KindSayingsLaw" 7 "KindSayings" ∈ Gd := Gd_1 12 rfl rfl
set_option maxRecDepth 8000 in
theorem w_78 : Cond.instantiable "KindSayings" 8 ∈ Gd := Gd_1 13 rfl rfl
set_option maxRecDepth 8000 in
theorem w_79 : Cond.methodLink "KindSayingsLaw" 9 (⟨"KindSayings", "<init>", "()V"⟩) ∈ Gd := Gd_1 14 rfl rfl
set_option maxRecDepth 8000 in
theorem w_80 : Cond.instanceMethod (⟨"KindSayings", "<init>", "()V"⟩) ∈ Gd := Gd_1 15 rfl rfl
set_option maxRecDepth 8000 in
theorem w_81 : Cond.code (⟨"KindSayings", "<init>", "()V"⟩) prog_1_method_1_code 2 none ∈ Gd := Gd_1 16 rfl rfl
set_option maxRecDepth 8000 in
theorem w_82 : Cond.methodLink "KindSayings" 3 (⟨"java/lang/Object", "<init>", "()V"⟩) ∈ Gd := Gd_1 17 rfl rfl
set_option maxRecDepth 8000 in
theorem w_83 : Cond.instanceMethod (⟨"java/lang/Object", "<init>", "()V"⟩) ∈ Gd := Gd_1 18 rfl rfl
set_option maxRecDepth 8000 in
theorem w_84 : Cond.code (⟨"java/lang/Object", "<init>", "()V"⟩) object_method_1_code 1 none ∈ Gd := Gd_1 19 rfl rfl
set_option maxRecDepth 8000 in
theorem w_85 : Cond.classLink "KindSayings" 9 "KindSayings$Saying" ∈ Gd := Gd_1 20 rfl rfl
set_option maxRecDepth 8000 in
theorem w_87 : Cond.classLink "KindSayings" 19 "KindSayings$Reader" ∈ Gd := Gd_1 22 rfl rfl
set_option maxRecDepth 8000 in
theorem w_88 : Cond.instantiable "KindSayings$Reader" 6 ∈ Gd := Gd_1 23 rfl rfl
set_option maxRecDepth 8000 in
theorem w_90 : Cond.instanceMethod (⟨"KindSayings$Reader", "<init>", "()V"⟩) ∈ Gd := Gd_1 25 rfl rfl
set_option maxRecDepth 8000 in
theorem w_91 : Cond.code (⟨"KindSayings$Reader", "<init>", "()V"⟩) prog_4_method_1_code 1 none ∈ Gd := Gd_1 26 rfl rfl
set_option maxRecDepth 8000 in
theorem w_92 : Cond.methodLink "KindSayings$Reader" 3 (⟨"java/lang/Object", "<init>", "()V"⟩) ∈ Gd := Gd_1 27 rfl rfl
set_option maxRecDepth 8000 in
theorem w_93 : Cond.classLink "KindSayings$Reader" 9 "KindSayings$Tokens" ∈ Gd := Gd_1 28 rfl rfl
set_option maxRecDepth 8000 in
theorem w_94 : Cond.instantiable "KindSayings$Tokens" 7 ∈ Gd := Gd_1 29 rfl rfl
set_option maxRecDepth 8000 in
theorem w_96 : Cond.instanceMethod (⟨"KindSayings$Tokens", "<init>", "()V"⟩) ∈ Gd := Gd_1 31 rfl rfl
set_option maxRecDepth 8000 in
theorem w_97 : Cond.code (⟨"KindSayings$Tokens", "<init>", "()V"⟩) prog_6_method_1_code 1 none ∈ Gd := Gd_1 32 rfl rfl
set_option maxRecDepth 8000 in
theorem w_98 : Cond.methodLink "KindSayings$Tokens" 3 (⟨"java/lang/Object", "<init>", "()V"⟩) ∈ Gd := Gd_1 33 rfl rfl
set_option maxRecDepth 8000 in
theorem w_99 : Cond.fieldLink "KindSayings$Tokens" 9 "KindSayings$Tokens" "text" "[C" ∈ Gd := Gd_1 34 rfl rfl
set_option maxRecDepth 8000 in
theorem w_100 : Cond.fieldLink "KindSayings$Tokens" 15 "KindSayings$Tokens" "length" "I" ∈ Gd := Gd_1 35 rfl rfl
set_option maxRecDepth 8000 in
theorem w_101 : Cond.fieldLink "KindSayings" 91 "KindSayings$Tokens" "length" "I" ∈ Gd := Gd_1 36 rfl rfl
set_option maxRecDepth 8000 in
theorem w_102 : Cond.fieldLink "KindSayings$Reader" 65 "KindSayings$Tokens" "token" "I" ∈ Gd := Gd_1 37 rfl rfl
set_option maxRecDepth 8000 in
theorem w_103 : Cond.fieldLink "KindSayings$Tokens" 40 "KindSayings$Tokens" "token" "I" ∈ Gd := Gd_1 38 rfl rfl
set_option maxRecDepth 8000 in
theorem w_104 : Cond.fieldLink "KindSayings$Reader" 68 "KindSayings$Tokens" "value" "I" ∈ Gd := Gd_1 39 rfl rfl
set_option maxRecDepth 8000 in
theorem w_105 : Cond.fieldLink "KindSayings$Tokens" 37 "KindSayings$Tokens" "value" "I" ∈ Gd := Gd_1 40 rfl rfl
set_option maxRecDepth 8000 in
theorem w_106 : Cond.fieldLink "KindSayings$Tokens" 34 "KindSayings$Tokens" "start" "I" ∈ Gd := Gd_1 41 rfl rfl
set_option maxRecDepth 8000 in
theorem w_107 : Cond.fieldLink "KindSayings$Reader" 113 "KindSayings$Tokens" "start" "I" ∈ Gd := Gd_1 42 rfl rfl
set_option maxRecDepth 8000 in
theorem w_108 : Cond.fieldLink "KindSayings$Tokens" 24 "KindSayings$Tokens" "passed" "I" ∈ Gd := Gd_1 43 rfl rfl
set_option maxRecDepth 8000 in
theorem w_109 : Cond.fieldLink "KindSayings$Reader" 90 "KindSayings$Tokens" "passed" "I" ∈ Gd := Gd_1 44 rfl rfl
set_option maxRecDepth 8000 in
theorem w_110 : Cond.fieldLink "KindSayings$Tokens" 21 "KindSayings$Tokens" "end" "I" ∈ Gd := Gd_1 45 rfl rfl
set_option maxRecDepth 8000 in
theorem w_126 : Cond.arrayClass FieldType.int ∈ Gd := Gd_1 61 rfl rfl
set_option maxRecDepth 8000 in
theorem w_127 : Cond.arrayClass FieldType.char ∈ Gd := Gd_1 62 rfl rfl
set_option maxRecDepth 8000 in
theorem w_128 : Cond.classLink "KindSayings$Reader" 18 "KindSayings$Saying" ∈ Gd := Gd_1 63 rfl rfl
set_option maxRecDepth 8000 in
theorem w_129 : Cond.instantiable "KindSayings$Saying" 6 ∈ Gd := Gd_1 64 rfl rfl
set_option maxRecDepth 8000 in
theorem w_131 : Cond.instanceMethod (⟨"KindSayings$Saying", "<init>", "()V"⟩) ∈ Gd := Gd_1 66 rfl rfl
set_option maxRecDepth 8000 in
theorem w_132 : Cond.code (⟨"KindSayings$Saying", "<init>", "()V"⟩) prog_5_method_1_code 1 none ∈ Gd := Gd_1 67 rfl rfl
set_option maxRecDepth 8000 in
theorem w_133 : Cond.methodLink "KindSayings$Saying" 3 (⟨"java/lang/Object", "<init>", "()V"⟩) ∈ Gd := Gd_1 68 rfl rfl
set_option maxRecDepth 8000 in
theorem w_134 : Cond.fieldLink "KindSayings$Saying" 9 "KindSayings$Saying" "word" "I" ∈ Gd := Gd_1 69 rfl rfl
set_option maxRecDepth 8000 in
theorem w_135 : Cond.fieldLink "KindSayings$Reader" 78 "KindSayings$Saying" "word" "I" ∈ Gd := Gd_1 70 rfl rfl
set_option maxRecDepth 8000 in
theorem w_136 : Cond.fieldLink "KindSayings" 115 "KindSayings$Saying" "word" "I" ∈ Gd := Gd_1 71 rfl rfl
set_option maxRecDepth 8000 in
theorem w_137 : Cond.fieldLink "KindSayings$Saying" 15 "KindSayings$Saying" "number" "I" ∈ Gd := Gd_1 72 rfl rfl
set_option maxRecDepth 8000 in
theorem w_138 : Cond.fieldLink "KindSayings$Reader" 81 "KindSayings$Saying" "number" "I" ∈ Gd := Gd_1 73 rfl rfl
set_option maxRecDepth 8000 in
theorem w_139 : Cond.fieldLink "KindSayings" 124 "KindSayings$Saying" "number" "I" ∈ Gd := Gd_1 74 rfl rfl
set_option maxRecDepth 8000 in
theorem w_140 : Cond.fieldLink "KindSayings$Saying" 22 "KindSayings$Saying" "first" "I" ∈ Gd := Gd_1 75 rfl rfl
set_option maxRecDepth 8000 in
theorem w_141 : Cond.fieldLink "KindSayings$Reader" 45 "KindSayings$Saying" "first" "I" ∈ Gd := Gd_1 76 rfl rfl
set_option maxRecDepth 8000 in
theorem w_142 : Cond.fieldLink "KindSayings" 118 "KindSayings$Saying" "first" "I" ∈ Gd := Gd_1 77 rfl rfl
set_option maxRecDepth 8000 in
theorem w_143 : Cond.fieldLink "KindSayings$Saying" 25 "KindSayings$Saying" "second" "I" ∈ Gd := Gd_1 78 rfl rfl
set_option maxRecDepth 8000 in
theorem w_144 : Cond.fieldLink "KindSayings$Reader" 55 "KindSayings$Saying" "second" "I" ∈ Gd := Gd_1 79 rfl rfl
set_option maxRecDepth 8000 in
theorem w_145 : Cond.fieldLink "KindSayings" 121 "KindSayings$Saying" "second" "I" ∈ Gd := Gd_1 80 rfl rfl
set_option maxRecDepth 8000 in
theorem w_146 : Cond.fieldLink "KindSayings$Saying" 32 "KindSayings$Saying" "fact" "I" ∈ Gd := Gd_1 81 rfl rfl
set_option maxRecDepth 8000 in
theorem w_147 : Cond.fieldLink "KindSayings$Reader" 62 "KindSayings$Saying" "fact" "I" ∈ Gd := Gd_1 82 rfl rfl
set_option maxRecDepth 8000 in
theorem w_148 : Cond.fieldLink "KindSayings" 131 "KindSayings$Saying" "fact" "I" ∈ Gd := Gd_1 83 rfl rfl
set_option maxRecDepth 8000 in
theorem w_149 : Cond.fieldLink "KindSayings$Saying" 35 "KindSayings$Saying" "turned" "Z" ∈ Gd := Gd_1 84 rfl rfl
set_option maxRecDepth 8000 in
theorem w_150 : Cond.fieldLink "KindSayings$Reader" 71 "KindSayings$Saying" "turned" "Z" ∈ Gd := Gd_1 85 rfl rfl
set_option maxRecDepth 8000 in
theorem w_151 : Cond.fieldLink "KindSayings" 127 "KindSayings$Saying" "turned" "Z" ∈ Gd := Gd_1 86 rfl rfl
set_option maxRecDepth 8000 in
theorem w_165 : Cond.fieldLink "KindSayings$Reader" 12 "KindSayings$Reader" "tokens" "LKindSayings$Tokens;" ∈ Gd := Gd_1 100 rfl rfl
set_option maxRecDepth 8000 in
theorem w_166 : Cond.fieldLink "KindSayings" 87 "KindSayings$Reader" "tokens" "LKindSayings$Tokens;" ∈ Gd := Gd_1 101 rfl rfl
set_option maxRecDepth 8000 in
theorem w_167 : Cond.fieldLink "KindSayings$Reader" 21 "KindSayings$Reader" "draft" "LKindSayings$Saying;" ∈ Gd := Gd_1 102 rfl rfl
set_option maxRecDepth 8000 in
theorem w_168 : Cond.fieldLink "KindSayings" 104 "KindSayings$Reader" "draft" "LKindSayings$Saying;" ∈ Gd := Gd_1 103 rfl rfl
set_option maxRecDepth 8000 in
theorem w_169 : Cond.fieldLink "KindSayings$Reader" 25 "KindSayings$Reader" "kinds" "I" ∈ Gd := Gd_1 104 rfl rfl
set_option maxRecDepth 8000 in
theorem w_170 : Cond.fieldLink "KindSayings$Reader" 29 "KindSayings$Reader" "parts" "I" ∈ Gd := Gd_1 105 rfl rfl
set_option maxRecDepth 8000 in
theorem w_171 : Cond.fieldLink "KindSayings$Reader" 32 "KindSayings$Reader" "fault" "I" ∈ Gd := Gd_1 106 rfl rfl
set_option maxRecDepth 8000 in
theorem w_172 : Cond.fieldLink "KindSayings$Reader" 48 "KindSayings$Reader" "loneKind" "I" ∈ Gd := Gd_1 107 rfl rfl
set_option maxRecDepth 8000 in
theorem w_186 : Cond.classLink "KindSayings" 26 "KindSayings$Heaps" ∈ Gd := Gd_1 121 rfl rfl
set_option maxRecDepth 8000 in
theorem w_187 : Cond.instantiable "KindSayings$Heaps" 10 ∈ Gd := Gd_1 122 rfl rfl
set_option maxRecDepth 8000 in
theorem w_188 : Cond.methodLink "KindSayings" 28 (⟨"KindSayings$Heaps", "<init>", "()V"⟩) ∈ Gd := Gd_1 123 rfl rfl
set_option maxRecDepth 8000 in
theorem w_189 : Cond.instanceMethod (⟨"KindSayings$Heaps", "<init>", "()V"⟩) ∈ Gd := Gd_1 124 rfl rfl
set_option maxRecDepth 8000 in
theorem w_190 : Cond.code (⟨"KindSayings$Heaps", "<init>", "()V"⟩) prog_2_method_1_code 2 none ∈ Gd := Gd_1 125 rfl rfl
set_option maxRecDepth 8000 in
theorem w_191 : Cond.methodLink "KindSayings$Heaps" 3 (⟨"java/lang/Object", "<init>", "()V"⟩) ∈ Gd := Gd_1 126 rfl rfl
set_option maxRecDepth 8000 in
theorem w_192 : Cond.classLink "KindSayings$Heaps" 9 "KindSayings$Walk" ∈ Gd := Gd_1 127 rfl rfl
set_option maxRecDepth 8000 in
theorem w_193 : Cond.instantiable "KindSayings$Walk" 6 ∈ Gd := Gd_1 128 rfl rfl
set_option maxRecDepth 8000 in
theorem w_195 : Cond.instanceMethod (⟨"KindSayings$Walk", "<init>", "()V"⟩) ∈ Gd := Gd_1 130 rfl rfl
set_option maxRecDepth 8000 in
theorem w_196 : Cond.code (⟨"KindSayings$Walk", "<init>", "()V"⟩) prog_7_method_1_code 1 none ∈ Gd := Gd_1 131 rfl rfl
set_option maxRecDepth 8000 in
theorem w_197 : Cond.methodLink "KindSayings$Walk" 3 (⟨"java/lang/Object", "<init>", "()V"⟩) ∈ Gd := Gd_1 132 rfl rfl
set_option maxRecDepth 8000 in
theorem w_198 : Cond.fieldLink "KindSayings$Walk" 9 "KindSayings$Walk" "sortOf" "[I" ∈ Gd := Gd_1 133 rfl rfl
set_option maxRecDepth 8000 in
theorem w_199 : Cond.fieldLink "KindSayings$Walk" 15 "KindSayings$Walk" "weights" "[I" ∈ Gd := Gd_1 134 rfl rfl
set_option maxRecDepth 8000 in
theorem w_200 : Cond.fieldLink "KindSayings$Walk" 18 "KindSayings$Walk" "sums" "[I" ∈ Gd := Gd_1 135 rfl rfl
set_option maxRecDepth 8000 in
theorem w_201 : Cond.fieldLink "KindSayings$Walk" 33 "KindSayings$Walk" "sorts" "I" ∈ Gd := Gd_1 136 rfl rfl
set_option maxRecDepth 8000 in
theorem w_202 : Cond.fieldLink "KindSayings$Walk" 37 "KindSayings$Walk" "most" "I" ∈ Gd := Gd_1 137 rfl rfl
set_option maxRecDepth 8000 in
theorem w_203 : Cond.fieldLink "KindSayings$Walk" 40 "KindSayings$Walk" "things" "I" ∈ Gd := Gd_1 138 rfl rfl
set_option maxRecDepth 8000 in
theorem w_217 : Cond.methodLink "KindSayings$Heaps" 36 (⟨"KindSayings$Heaps", "witnessOf", "(I)J"⟩) ∈ Gd := Gd_1 152 rfl rfl
set_option maxRecDepth 8000 in
theorem w_218 : Cond.static (⟨"KindSayings$Heaps", "witnessOf", "(I)J"⟩) ∈ Gd := Gd_1 153 rfl rfl
set_option maxRecDepth 8000 in
theorem w_219 : Cond.code (⟨"KindSayings$Heaps", "witnessOf", "(I)J"⟩) prog_2_method_2_code 5 (Option.some FieldType.long) ∈ Gd := Gd_1 154 rfl rfl
set_option maxRecDepth 8000 in
theorem w_221 : Cond.static (⟨"KindSayings", "has", "(II)Z"⟩) ∈ Gd := Gd_1 156 rfl rfl
set_option maxRecDepth 8000 in
theorem w_222 : Cond.code (⟨"KindSayings", "has", "(II)Z"⟩) prog_1_method_39_code 2 (Option.some FieldType.boolean) ∈ Gd := Gd_1 157 rfl rfl
set_option maxRecDepth 8000 in
theorem w_224 : Cond.static (⟨"KindSayings", "factNumber", "(III)I"⟩) ∈ Gd := Gd_1 159 rfl rfl
set_option maxRecDepth 8000 in
theorem w_225 : Cond.code (⟨"KindSayings", "factNumber", "(III)I"⟩) prog_1_method_41_code 3 (Option.some FieldType.int) ∈ Gd := Gd_1 160 rfl rfl
set_option maxRecDepth 8000 in
theorem w_226 : Cond.fieldLink "KindSayings$Heaps" 12 "KindSayings$Heaps" "walk" "LKindSayings$Walk;" ∈ Gd := Gd_1 161 rfl rfl
set_option maxRecDepth 8000 in
theorem w_227 : Cond.fieldLink "KindSayings$Heaps" 18 "KindSayings$Heaps" "many" "[I" ∈ Gd := Gd_1 162 rfl rfl
set_option maxRecDepth 8000 in
theorem w_228 : Cond.fieldLink "KindSayings$Heaps" 22 "KindSayings$Heaps" "firsts" "[I" ∈ Gd := Gd_1 163 rfl rfl
set_option maxRecDepth 8000 in
theorem w_229 : Cond.fieldLink "KindSayings$Heaps" 25 "KindSayings$Heaps" "together" "[I" ∈ Gd := Gd_1 164 rfl rfl
set_option maxRecDepth 8000 in
theorem w_230 : Cond.fieldLink "KindSayings$Heaps" 28 "KindSayings$Heaps" "witness" "[J" ∈ Gd := Gd_1 165 rfl rfl
set_option maxRecDepth 8000 in
theorem w_231 : Cond.fieldLink "KindSayings$Heaps" 32 "KindSayings$Heaps" "marks" "[C" ∈ Gd := Gd_1 166 rfl rfl
set_option maxRecDepth 8000 in
theorem w_232 : Cond.fieldLink "KindSayings$Heaps" 48 "KindSayings$Heaps" "sorts" "I" ∈ Gd := Gd_1 167 rfl rfl
set_option maxRecDepth 8000 in
theorem w_233 : Cond.fieldLink "KindSayings$Heaps" 52 "KindSayings$Heaps" "most" "I" ∈ Gd := Gd_1 168 rfl rfl
set_option maxRecDepth 8000 in
theorem w_234 : Cond.fieldLink "KindSayings$Heaps" 59 "KindSayings$Heaps" "total" "I" ∈ Gd := Gd_1 169 rfl rfl
set_option maxRecDepth 8000 in
theorem w_235 : Cond.fieldLink "KindSayings" 62 "KindSayings$Heaps" "total" "I" ∈ Gd := Gd_1 170 rfl rfl
set_option maxRecDepth 8000 in
theorem w_236 : Cond.fieldLink "KindSayings$Heaps" 62 "KindSayings$Heaps" "stale" "I" ∈ Gd := Gd_1 171 rfl rfl
set_option maxRecDepth 8000 in
theorem w_237 : Cond.fieldLink "KindSayings" 112 "KindSayings$Heaps" "stale" "I" ∈ Gd := Gd_1 172 rfl rfl
set_option maxRecDepth 8000 in
theorem w_259 : Cond.arrayClass FieldType.long ∈ Gd := Gd_1 194 rfl rfl
set_option maxRecDepth 8000 in
theorem w_260 : Cond.classLink "KindSayings" 33 "KindSayings$Proof" ∈ Gd := Gd_1 195 rfl rfl
set_option maxRecDepth 8000 in
theorem w_261 : Cond.instantiable "KindSayings$Proof" 8 ∈ Gd := Gd_1 196 rfl rfl
set_option maxRecDepth 8000 in
theorem w_263 : Cond.instanceMethod (⟨"KindSayings$Proof", "<init>", "()V"⟩) ∈ Gd := Gd_1 198 rfl rfl
set_option maxRecDepth 8000 in
theorem w_264 : Cond.code (⟨"KindSayings$Proof", "<init>", "()V"⟩) prog_3_method_1_code 1 none ∈ Gd := Gd_1 199 rfl rfl
set_option maxRecDepth 8000 in
theorem w_265 : Cond.methodLink "KindSayings$Proof" 3 (⟨"java/lang/Object", "<init>", "()V"⟩) ∈ Gd := Gd_1 200 rfl rfl
set_option maxRecDepth 8000 in
theorem w_266 : Cond.fieldLink "KindSayings$Proof" 9 "KindSayings$Proof" "roundOf" "[I" ∈ Gd := Gd_1 201 rfl rfl
set_option maxRecDepth 8000 in
theorem w_267 : Cond.fieldLink "KindSayings$Proof" 15 "KindSayings$Proof" "told" "J" ∈ Gd := Gd_1 202 rfl rfl
set_option maxRecDepth 8000 in
theorem w_268 : Cond.fieldLink "KindSayings$Proof" 44 "KindSayings$Proof" "ahead" "J" ∈ Gd := Gd_1 203 rfl rfl
set_option maxRecDepth 8000 in
theorem w_269 : Cond.fieldLink "KindSayings$Proof" 19 "KindSayings$Proof" "moods" "I" ∈ Gd := Gd_1 204 rfl rfl
set_option maxRecDepth 8000 in
theorem w_270 : Cond.fieldLink "KindSayings$Proof" 23 "KindSayings$Proof" "kinds" "I" ∈ Gd := Gd_1 205 rfl rfl
set_option maxRecDepth 8000 in
theorem w_271 : Cond.fieldLink "KindSayings$Proof" 60 "KindSayings$Proof" "firstFact" "I" ∈ Gd := Gd_1 206 rfl rfl
set_option maxRecDepth 8000 in
theorem w_272 : Cond.fieldLink "KindSayings$Proof" 63 "KindSayings$Proof" "secondFact" "I" ∈ Gd := Gd_1 207 rfl rfl
set_option maxRecDepth 8000 in
theorem w_273 : Cond.fieldLink "KindSayings$Proof" 26 "KindSayings$Proof" "lastRound" "I" ∈ Gd := Gd_1 208 rfl rfl
set_option maxRecDepth 8000 in
theorem w_274 : Cond.fieldLink "KindSayings" 204 "KindSayings$Proof" "lastRound" "I" ∈ Gd := Gd_1 209 rfl rfl
set_option maxRecDepth 8000 in
theorem w_293 : Cond.methodLink "KindSayings" 51 (⟨"KindSayings", "startOver", "()V"⟩) ∈ Gd := Gd_1 228 rfl rfl
set_option maxRecDepth 8000 in
theorem w_295 : Cond.instanceMethod (⟨"KindSayings", "startOver", "()V"⟩) ∈ Gd := Gd_1 230 rfl rfl
set_option maxRecDepth 8000 in
theorem w_296 : Cond.code (⟨"KindSayings", "startOver", "()V"⟩) prog_1_method_26_code 3 none ∈ Gd := Gd_1 231 rfl rfl
set_option maxRecDepth 8000 in
theorem w_297 : Cond.methodLink "KindSayings" 223 (⟨"KindSayings$Saying", "becomeFirst", "(I)V"⟩) ∈ Gd := Gd_1 232 rfl rfl
set_option maxRecDepth 8000 in
theorem w_298 : Cond.instanceMethod (⟨"KindSayings$Saying", "becomeFirst", "(I)V"⟩) ∈ Gd := Gd_1 233 rfl rfl
set_option maxRecDepth 8000 in
theorem w_299 : Cond.selects "KindSayings$Saying" (⟨"KindSayings$Saying", "becomeFirst", "(I)V"⟩) (⟨"KindSayings$Saying", "becomeFirst", "(I)V"⟩) ∈ Gd := Gd_1 234 rfl rfl
set_option maxRecDepth 8000 in
theorem w_300 : Cond.code (⟨"KindSayings$Saying", "becomeFirst", "(I)V"⟩) prog_5_method_2_code 2 none ∈ Gd := Gd_1 235 rfl rfl
set_option maxRecDepth 8000 in
theorem w_302 : Cond.static (⟨"KindSayings", "sortsOfKind", "(II)I"⟩) ∈ Gd := Gd_1 237 rfl rfl
set_option maxRecDepth 8000 in
theorem w_303 : Cond.code (⟨"KindSayings", "sortsOfKind", "(II)I"⟩) prog_1_method_43_code 4 (Option.some FieldType.int) ∈ Gd := Gd_1 238 rfl rfl
set_option maxRecDepth 8000 in
theorem w_304 : Cond.methodLink "KindSayings" 158 (⟨"KindSayings", "has", "(II)Z"⟩) ∈ Gd := Gd_1 239 rfl rfl
set_option maxRecDepth 8000 in
theorem w_305 : Cond.methodLink "KindSayings" 238 (⟨"KindSayings", "everySort", "(I)I"⟩) ∈ Gd := Gd_2 0 rfl rfl
set_option maxRecDepth 8000 in
theorem w_306 : Cond.static (⟨"KindSayings", "everySort", "(I)I"⟩) ∈ Gd := Gd_2 1 rfl rfl
set_option maxRecDepth 8000 in
theorem w_307 : Cond.code (⟨"KindSayings", "everySort", "(I)I"⟩) prog_1_method_44_code 1 (Option.some FieldType.int) ∈ Gd := Gd_2 2 rfl rfl
set_option maxRecDepth 8000 in
theorem w_309 : Cond.methodLink "KindSayings" 54 (⟨"KindSayings", "sortCount", "()I"⟩) ∈ Gd := Gd_2 4 rfl rfl
set_option maxRecDepth 8000 in
theorem w_311 : Cond.instanceMethod (⟨"KindSayings", "sortCount", "()I"⟩) ∈ Gd := Gd_2 6 rfl rfl
set_option maxRecDepth 8000 in
theorem w_312 : Cond.code (⟨"KindSayings", "sortCount", "()I"⟩) prog_1_method_28_code 1 (Option.some FieldType.int) ∈ Gd := Gd_2 7 rfl rfl
set_option maxRecDepth 8000 in
theorem w_313 : Cond.methodLink "KindSayings" 58 (⟨"KindSayings$Heaps", "shape", "(II)V"⟩) ∈ Gd := Gd_2 8 rfl rfl
set_option maxRecDepth 8000 in
theorem w_314 : Cond.instanceMethod (⟨"KindSayings$Heaps", "shape", "(II)V"⟩) ∈ Gd := Gd_2 9 rfl rfl
set_option maxRecDepth 8000 in
theorem w_315 : Cond.selects "KindSayings$Heaps" (⟨"KindSayings$Heaps", "shape", "(II)V"⟩) (⟨"KindSayings$Heaps", "shape", "(II)V"⟩) ∈ Gd := Gd_2 10 rfl rfl
set_option maxRecDepth 8000 in
theorem w_316 : Cond.code (⟨"KindSayings$Heaps", "shape", "(II)V"⟩) prog_2_method_3_code 3 none ∈ Gd := Gd_2 11 rfl rfl
set_option maxRecDepth 8000 in
theorem w_317 : Cond.methodLink "KindSayings$Heaps" 55 (⟨"KindSayings$Heaps", "choose", "(II)I"⟩) ∈ Gd := Gd_2 12 rfl rfl
set_option maxRecDepth 8000 in
theorem w_318 : Cond.static (⟨"KindSayings$Heaps", "choose", "(II)I"⟩) ∈ Gd := Gd_2 13 rfl rfl
set_option maxRecDepth 8000 in
theorem w_319 : Cond.code (⟨"KindSayings$Heaps", "choose", "(II)I"⟩) prog_2_method_16_code 4 (Option.some FieldType.int) ∈ Gd := Gd_2 14 rfl rfl
set_option maxRecDepth 8000 in
theorem w_320 : Cond.fieldLink "KindSayings" 11 "KindSayings" "sayings" "[LKindSayings$Saying;" ∈ Gd := Gd_2 15 rfl rfl
set_option maxRecDepth 8000 in
theorem w_321 : Cond.fieldLink "KindSayings" 15 "KindSayings" "worldThings" "[I" ∈ Gd := Gd_2 16 rfl rfl
set_option maxRecDepth 8000 in
theorem w_322 : Cond.fieldLink "KindSayings" 22 "KindSayings" "reader" "LKindSayings$Reader;" ∈ Gd := Gd_2 17 rfl rfl
set_option maxRecDepth 8000 in
theorem w_323 : Cond.fieldLink "KindSayings" 29 "KindSayings" "heapTable" "LKindSayings$Heaps;" ∈ Gd := Gd_2 18 rfl rfl
set_option maxRecDepth 8000 in
theorem w_324 : Cond.fieldLink "KindSayings" 36 "KindSayings" "proof" "LKindSayings$Proof;" ∈ Gd := Gd_2 19 rfl rfl
set_option maxRecDepth 8000 in
theorem w_325 : Cond.fieldLink "KindSayings" 40 "KindSayings" "kindCount" "I" ∈ Gd := Gd_2 20 rfl rfl
set_option maxRecDepth 8000 in
theorem w_326 : Cond.fieldLink "KindSayings" 44 "KindSayings" "mostThings" "I" ∈ Gd := Gd_2 21 rfl rfl
set_option maxRecDepth 8000 in
theorem w_327 : Cond.fieldLink "KindSayings" 47 "KindSayings" "moodBits" "I" ∈ Gd := Gd_2 22 rfl rfl
set_option maxRecDepth 8000 in
theorem w_345 : Cond.methodLink "KindSayingsLaw" 13 (⟨"KindSayings", "kinds", "(I)I"⟩) ∈ Gd := Gd_2 40 rfl rfl
set_option maxRecDepth 8000 in
theorem w_346 : Cond.instanceMethod (⟨"KindSayings", "kinds", "(I)I"⟩) ∈ Gd := Gd_2 41 rfl rfl
set_option maxRecDepth 8000 in
theorem w_347 : Cond.selects "KindSayings" (⟨"KindSayings", "kinds", "(I)I"⟩) (⟨"KindSayings", "kinds", "(I)I"⟩) ∈ Gd := Gd_2 42 rfl rfl
set_option maxRecDepth 8000 in
theorem w_348 : Cond.code (⟨"KindSayings", "kinds", "(I)I"⟩) prog_1_method_2_code 3 (Option.some FieldType.int) ∈ Gd := Gd_2 43 rfl rfl
set_option maxRecDepth 8000 in
theorem w_349 : Cond.methodLink "KindSayingsLaw" 18 (⟨"KindSayings", "most", "(I)I"⟩) ∈ Gd := Gd_2 44 rfl rfl
set_option maxRecDepth 8000 in
theorem w_350 : Cond.instanceMethod (⟨"KindSayings", "most", "(I)I"⟩) ∈ Gd := Gd_2 45 rfl rfl
set_option maxRecDepth 8000 in
theorem w_351 : Cond.selects "KindSayings" (⟨"KindSayings", "most", "(I)I"⟩) (⟨"KindSayings", "most", "(I)I"⟩) ∈ Gd := Gd_2 46 rfl rfl
set_option maxRecDepth 8000 in
theorem w_352 : Cond.code (⟨"KindSayings", "most", "(I)I"⟩) prog_1_method_3_code 3 (Option.some FieldType.int) ∈ Gd := Gd_2 47 rfl rfl
set_option maxRecDepth 8000 in
theorem w_353 : Cond.methodLink "KindSayingsLaw" 22 (⟨"KindSayings", "worlds", "()I"⟩) ∈ Gd := Gd_2 48 rfl rfl
set_option maxRecDepth 8000 in
theorem w_354 : Cond.instanceMethod (⟨"KindSayings", "worlds", "()I"⟩) ∈ Gd := Gd_2 49 rfl rfl
set_option maxRecDepth 8000 in
theorem w_355 : Cond.selects "KindSayings" (⟨"KindSayings", "worlds", "()I"⟩) (⟨"KindSayings", "worlds", "()I"⟩) ∈ Gd := Gd_2 50 rfl rfl
set_option maxRecDepth 8000 in
theorem w_356 : Cond.code (⟨"KindSayings", "worlds", "()I"⟩) prog_1_method_4_code 1 (Option.some FieldType.int) ∈ Gd := Gd_2 51 rfl rfl
set_option maxRecDepth 8000 in
theorem w_357 : Cond.methodLink "KindSayingsLaw" 27 (⟨"KindSayings", "put", "(II)I"⟩) ∈ Gd := Gd_2 52 rfl rfl
set_option maxRecDepth 8000 in
theorem w_358 : Cond.instanceMethod (⟨"KindSayings", "put", "(II)I"⟩) ∈ Gd := Gd_2 53 rfl rfl
set_option maxRecDepth 8000 in
theorem w_359 : Cond.selects "KindSayings" (⟨"KindSayings", "put", "(II)I"⟩) (⟨"KindSayings", "put", "(II)I"⟩) ∈ Gd := Gd_2 54 rfl rfl
set_option maxRecDepth 8000 in
theorem w_360 : Cond.code (⟨"KindSayings", "put", "(II)I"⟩) prog_1_method_5_code 4 (Option.some FieldType.int) ∈ Gd := Gd_2 55 rfl rfl
set_option maxRecDepth 8000 in
theorem w_361 : Cond.methodLink "KindSayings" 65 (⟨"KindSayings", "isSort", "(I)Z"⟩) ∈ Gd := Gd_2 56 rfl rfl
set_option maxRecDepth 8000 in
theorem w_363 : Cond.instanceMethod (⟨"KindSayings", "isSort", "(I)Z"⟩) ∈ Gd := Gd_2 58 rfl rfl
set_option maxRecDepth 8000 in
theorem w_364 : Cond.code (⟨"KindSayings", "isSort", "(I)Z"⟩) prog_1_method_29_code 2 (Option.some FieldType.boolean) ∈ Gd := Gd_2 59 rfl rfl
set_option maxRecDepth 8000 in
theorem w_365 : Cond.methodLink "KindSayings" 69 (⟨"KindSayings", "thingsAtHand", "()I"⟩) ∈ Gd := Gd_2 60 rfl rfl
set_option maxRecDepth 8000 in
theorem w_367 : Cond.instanceMethod (⟨"KindSayings", "thingsAtHand", "()I"⟩) ∈ Gd := Gd_2 62 rfl rfl
set_option maxRecDepth 8000 in
theorem w_368 : Cond.code (⟨"KindSayings", "thingsAtHand", "()I"⟩) prog_1_method_32_code 3 (Option.some FieldType.int) ∈ Gd := Gd_2 63 rfl rfl
set_option maxRecDepth 8000 in
theorem w_369 : Cond.methodLink "KindSayingsLaw" 32 (⟨"KindSayings", "holds", "(I)I"⟩) ∈ Gd := Gd_2 64 rfl rfl
set_option maxRecDepth 8000 in
theorem w_370 : Cond.instanceMethod (⟨"KindSayings", "holds", "(I)I"⟩) ∈ Gd := Gd_2 65 rfl rfl
set_option maxRecDepth 8000 in
theorem w_371 : Cond.selects "KindSayings" (⟨"KindSayings", "holds", "(I)I"⟩) (⟨"KindSayings", "holds", "(I)I"⟩) ∈ Gd := Gd_2 66 rfl rfl
set_option maxRecDepth 8000 in
theorem w_372 : Cond.code (⟨"KindSayings", "holds", "(I)I"⟩) prog_1_method_6_code 4 (Option.some FieldType.int) ∈ Gd := Gd_2 67 rfl rfl
set_option maxRecDepth 8000 in
theorem w_373 : Cond.methodLink "KindSayings" 72 (⟨"KindSayings", "sayingAt", "(I)LKindSayings$Saying;"⟩) ∈ Gd := Gd_2 68 rfl rfl
set_option maxRecDepth 8000 in
theorem w_375 : Cond.instanceMethod (⟨"KindSayings", "sayingAt", "(I)LKindSayings$Saying;"⟩) ∈ Gd := Gd_2 70 rfl rfl
set_option maxRecDepth 8000 in
theorem w_376 : Cond.code (⟨"KindSayings", "sayingAt", "(I)LKindSayings$Saying;"⟩) prog_1_method_27_code 2 (Option.some (FieldType.object "KindSayings$Saying")) ∈ Gd := Gd_2 71 rfl rfl
set_option maxRecDepth 8000 in
theorem w_377 : Cond.methodLink "KindSayings" 76 (⟨"KindSayings", "sumAtHand", "(LKindSayings$Saying;)I"⟩) ∈ Gd := Gd_2 72 rfl rfl
set_option maxRecDepth 8000 in
theorem w_379 : Cond.instanceMethod (⟨"KindSayings", "sumAtHand", "(LKindSayings$Saying;)I"⟩) ∈ Gd := Gd_2 74 rfl rfl
set_option maxRecDepth 8000 in
theorem w_380 : Cond.code (⟨"KindSayings", "sumAtHand", "(LKindSayings$Saying;)I"⟩) prog_1_method_33_code 4 (Option.some FieldType.int) ∈ Gd := Gd_2 75 rfl rfl
set_option maxRecDepth 8000 in
theorem w_381 : Cond.methodLink "KindSayings" 226 (⟨"KindSayings$Saying", "weight", "(I)I"⟩) ∈ Gd := Gd_2 76 rfl rfl
set_option maxRecDepth 8000 in
theorem w_382 : Cond.instanceMethod (⟨"KindSayings$Saying", "weight", "(I)I"⟩) ∈ Gd := Gd_2 77 rfl rfl
set_option maxRecDepth 8000 in
theorem w_383 : Cond.selects "KindSayings$Saying" (⟨"KindSayings$Saying", "weight", "(I)I"⟩) (⟨"KindSayings$Saying", "weight", "(I)I"⟩) ∈ Gd := Gd_2 78 rfl rfl
set_option maxRecDepth 8000 in
theorem w_384 : Cond.code (⟨"KindSayings$Saying", "weight", "(I)I"⟩) prog_5_method_5_code 4 (Option.some FieldType.int) ∈ Gd := Gd_2 79 rfl rfl
set_option maxRecDepth 8000 in
theorem w_385 : Cond.methodLink "KindSayings" 80 (⟨"KindSayings$Saying", "isTrue", "(I)Z"⟩) ∈ Gd := Gd_2 80 rfl rfl
set_option maxRecDepth 8000 in
theorem w_386 : Cond.instanceMethod (⟨"KindSayings$Saying", "isTrue", "(I)Z"⟩) ∈ Gd := Gd_2 81 rfl rfl
set_option maxRecDepth 8000 in
theorem w_387 : Cond.selects "KindSayings$Saying" (⟨"KindSayings$Saying", "isTrue", "(I)Z"⟩) (⟨"KindSayings$Saying", "isTrue", "(I)Z"⟩) ∈ Gd := Gd_2 82 rfl rfl
set_option maxRecDepth 8000 in
theorem w_388 : Cond.code (⟨"KindSayings$Saying", "isTrue", "(I)Z"⟩) prog_5_method_6_code 2 (Option.some FieldType.boolean) ∈ Gd := Gd_2 83 rfl rfl
set_option maxRecDepth 8000 in
theorem w_389 : Cond.methodLink "KindSayings$Saying" 39 (⟨"KindSayings$Saying", "isTrueUnturned", "(III)Z"⟩) ∈ Gd := Gd_2 84 rfl rfl
set_option maxRecDepth 8000 in
theorem w_391 : Cond.instanceMethod (⟨"KindSayings$Saying", "isTrueUnturned", "(III)Z"⟩) ∈ Gd := Gd_2 86 rfl rfl
set_option maxRecDepth 8000 in
theorem w_392 : Cond.code (⟨"KindSayings$Saying", "isTrueUnturned", "(III)Z"⟩) prog_5_method_7_code 4 (Option.some FieldType.boolean) ∈ Gd := Gd_2 87 rfl rfl
set_option maxRecDepth 8000 in
theorem w_393 : Cond.methodLink "KindSayings" 83 (⟨"KindSayings", "bit", "(Z)I"⟩) ∈ Gd := Gd_2 88 rfl rfl
set_option maxRecDepth 8000 in
theorem w_394 : Cond.static (⟨"KindSayings", "bit", "(Z)I"⟩) ∈ Gd := Gd_2 89 rfl rfl
set_option maxRecDepth 8000 in
theorem w_395 : Cond.code (⟨"KindSayings", "bit", "(Z)I"⟩) prog_1_method_40_code 1 (Option.some FieldType.int) ∈ Gd := Gd_2 90 rfl rfl
set_option maxRecDepth 8000 in
theorem w_396 : Cond.methodLink "KindSayingsLaw" 36 (⟨"KindSayings", "size", "(II)I"⟩) ∈ Gd := Gd_2 91 rfl rfl
set_option maxRecDepth 8000 in
theorem w_397 : Cond.instanceMethod (⟨"KindSayings", "size", "(II)I"⟩) ∈ Gd := Gd_2 92 rfl rfl
set_option maxRecDepth 8000 in
theorem w_398 : Cond.selects "KindSayings" (⟨"KindSayings", "size", "(II)I"⟩) (⟨"KindSayings", "size", "(II)I"⟩) ∈ Gd := Gd_2 93 rfl rfl
set_option maxRecDepth 8000 in
theorem w_399 : Cond.code (⟨"KindSayings", "size", "(II)I"⟩) prog_1_method_7_code 4 (Option.some FieldType.int) ∈ Gd := Gd_2 94 rfl rfl
set_option maxRecDepth 8000 in
theorem w_400 : Cond.methodLink "KindSayingsLaw" 42 (⟨"KindSayings", "type", "(JI)I"⟩) ∈ Gd := Gd_2 95 rfl rfl
set_option maxRecDepth 8000 in
theorem w_401 : Cond.instanceMethod (⟨"KindSayings", "type", "(JI)I"⟩) ∈ Gd := Gd_2 96 rfl rfl
set_option maxRecDepth 8000 in
theorem w_402 : Cond.selects "KindSayings" (⟨"KindSayings", "type", "(JI)I"⟩) (⟨"KindSayings", "type", "(JI)I"⟩) ∈ Gd := Gd_2 97 rfl rfl
set_option maxRecDepth 8000 in
theorem w_403 : Cond.code (⟨"KindSayings", "type", "(JI)I"⟩) prog_1_method_8_code 5 (Option.some FieldType.int) ∈ Gd := Gd_2 98 rfl rfl
set_option maxRecDepth 8000 in
theorem w_404 : Cond.methodLink "KindSayings" 96 (⟨"KindSayings$Tokens", "append", "(JI)V"⟩) ∈ Gd := Gd_2 99 rfl rfl
set_option maxRecDepth 8000 in
theorem w_405 : Cond.instanceMethod (⟨"KindSayings$Tokens", "append", "(JI)V"⟩) ∈ Gd := Gd_2 100 rfl rfl
set_option maxRecDepth 8000 in
theorem w_406 : Cond.selects "KindSayings$Tokens" (⟨"KindSayings$Tokens", "append", "(JI)V"⟩) (⟨"KindSayings$Tokens", "append", "(JI)V"⟩) ∈ Gd := Gd_2 101 rfl rfl
set_option maxRecDepth 8000 in
theorem w_407 : Cond.code (⟨"KindSayings$Tokens", "append", "(JI)V"⟩) prog_6_method_2_code 5 none ∈ Gd := Gd_2 102 rfl rfl
set_option maxRecDepth 8000 in
theorem w_408 : Cond.constantLong "KindSayings$Tokens" 19 (255 : Int64) ∈ Gd := Gd_2 103 rfl rfl
set_option maxRecDepth 8000 in
theorem w_409 : Cond.methodLink "KindSayingsLaw" 47 (⟨"KindSayings", "clear", "()I"⟩) ∈ Gd := Gd_2 104 rfl rfl
set_option maxRecDepth 8000 in
theorem w_410 : Cond.instanceMethod (⟨"KindSayings", "clear", "()I"⟩) ∈ Gd := Gd_2 105 rfl rfl
set_option maxRecDepth 8000 in
theorem w_411 : Cond.selects "KindSayings" (⟨"KindSayings", "clear", "()I"⟩) (⟨"KindSayings", "clear", "()I"⟩) ∈ Gd := Gd_2 106 rfl rfl
set_option maxRecDepth 8000 in
theorem w_412 : Cond.code (⟨"KindSayings", "clear", "()I"⟩) prog_1_method_9_code 2 (Option.some FieldType.int) ∈ Gd := Gd_2 107 rfl rfl
set_option maxRecDepth 8000 in
theorem w_413 : Cond.methodLink "KindSayingsLaw" 51 (⟨"KindSayings", "read", "(I)I"⟩) ∈ Gd := Gd_2 108 rfl rfl
set_option maxRecDepth 8000 in
theorem w_414 : Cond.instanceMethod (⟨"KindSayings", "read", "(I)I"⟩) ∈ Gd := Gd_2 109 rfl rfl
set_option maxRecDepth 8000 in
theorem w_415 : Cond.selects "KindSayings" (⟨"KindSayings", "read", "(I)I"⟩) (⟨"KindSayings", "read", "(I)I"⟩) ∈ Gd := Gd_2 110 rfl rfl
set_option maxRecDepth 8000 in
theorem w_416 : Cond.code (⟨"KindSayings", "read", "(I)I"⟩) prog_1_method_10_code 4 (Option.some FieldType.int) ∈ Gd := Gd_2 111 rfl rfl
set_option maxRecDepth 8000 in
theorem w_417 : Cond.methodLink "KindSayings" 100 (⟨"KindSayings$Reader", "readDraft", "(I)I"⟩) ∈ Gd := Gd_2 112 rfl rfl
set_option maxRecDepth 8000 in
theorem w_418 : Cond.instanceMethod (⟨"KindSayings$Reader", "readDraft", "(I)I"⟩) ∈ Gd := Gd_2 113 rfl rfl
set_option maxRecDepth 8000 in
theorem w_419 : Cond.selects "KindSayings$Reader" (⟨"KindSayings$Reader", "readDraft", "(I)I"⟩) (⟨"KindSayings$Reader", "readDraft", "(I)I"⟩) ∈ Gd := Gd_2 114 rfl rfl
set_option maxRecDepth 8000 in
theorem w_420 : Cond.code (⟨"KindSayings$Reader", "readDraft", "(I)I"⟩) prog_4_method_2_code 4 (Option.some FieldType.int) ∈ Gd := Gd_2 115 rfl rfl
set_option maxRecDepth 8000 in
theorem w_421 : Cond.methodLink "KindSayings$Reader" 35 (⟨"KindSayings$Tokens", "begin", "()V"⟩) ∈ Gd := Gd_2 116 rfl rfl
set_option maxRecDepth 8000 in
theorem w_422 : Cond.instanceMethod (⟨"KindSayings$Tokens", "begin", "()V"⟩) ∈ Gd := Gd_2 117 rfl rfl
set_option maxRecDepth 8000 in
theorem w_423 : Cond.selects "KindSayings$Tokens" (⟨"KindSayings$Tokens", "begin", "()V"⟩) (⟨"KindSayings$Tokens", "begin", "()V"⟩) ∈ Gd := Gd_2 118 rfl rfl
set_option maxRecDepth 8000 in
theorem w_424 : Cond.code (⟨"KindSayings$Tokens", "begin", "()V"⟩) prog_6_method_3_code 1 none ∈ Gd := Gd_2 119 rfl rfl
set_option maxRecDepth 8000 in
theorem w_425 : Cond.methodLink "KindSayings$Tokens" 27 (⟨"KindSayings$Tokens", "advance", "()V"⟩) ∈ Gd := Gd_2 120 rfl rfl
set_option maxRecDepth 8000 in
theorem w_426 : Cond.instanceMethod (⟨"KindSayings$Tokens", "advance", "()V"⟩) ∈ Gd := Gd_2 121 rfl rfl
set_option maxRecDepth 8000 in
theorem w_427 : Cond.selects "KindSayings$Tokens" (⟨"KindSayings$Tokens", "advance", "()V"⟩) (⟨"KindSayings$Tokens", "advance", "()V"⟩) ∈ Gd := Gd_2 122 rfl rfl
set_option maxRecDepth 8000 in
theorem w_428 : Cond.code (⟨"KindSayings$Tokens", "advance", "()V"⟩) prog_6_method_4_code 2 none ∈ Gd := Gd_2 123 rfl rfl
set_option maxRecDepth 8000 in
theorem w_429 : Cond.methodLink "KindSayings$Tokens" 30 (⟨"KindSayings$Tokens", "byteAt", "(I)I"⟩) ∈ Gd := Gd_2 124 rfl rfl
set_option maxRecDepth 8000 in
theorem w_431 : Cond.instanceMethod (⟨"KindSayings$Tokens", "byteAt", "(I)I"⟩) ∈ Gd := Gd_2 126 rfl rfl
set_option maxRecDepth 8000 in
theorem w_432 : Cond.code (⟨"KindSayings$Tokens", "byteAt", "(I)I"⟩) prog_6_method_8_code 2 (Option.some FieldType.int) ∈ Gd := Gd_2 127 rfl rfl
set_option maxRecDepth 8000 in
theorem w_433 : Cond.methodLink "KindSayings$Tokens" 43 (⟨"KindSayings$Tokens", "isLetter", "(I)Z"⟩) ∈ Gd := Gd_2 128 rfl rfl
set_option maxRecDepth 8000 in
theorem w_434 : Cond.static (⟨"KindSayings$Tokens", "isLetter", "(I)Z"⟩) ∈ Gd := Gd_2 129 rfl rfl
set_option maxRecDepth 8000 in
theorem w_435 : Cond.code (⟨"KindSayings$Tokens", "isLetter", "(I)Z"⟩) prog_6_method_9_code 1 (Option.some FieldType.boolean) ∈ Gd := Gd_2 130 rfl rfl
set_option maxRecDepth 8000 in
theorem w_436 : Cond.methodLink "KindSayings$Tokens" 47 (⟨"KindSayings$Tokens", "takeWord", "()V"⟩) ∈ Gd := Gd_2 131 rfl rfl
set_option maxRecDepth 8000 in
theorem w_438 : Cond.instanceMethod (⟨"KindSayings$Tokens", "takeWord", "()V"⟩) ∈ Gd := Gd_2 133 rfl rfl
set_option maxRecDepth 8000 in
theorem w_439 : Cond.code (⟨"KindSayings$Tokens", "takeWord", "()V"⟩) prog_6_method_5_code 4 none ∈ Gd := Gd_2 134 rfl rfl
set_option maxRecDepth 8000 in
theorem w_442 : Cond.methodLink "KindSayings$Tokens" 50 (⟨"KindSayings$Tokens", "isFigure", "(I)Z"⟩) ∈ Gd := Gd_2 137 rfl rfl
set_option maxRecDepth 8000 in
theorem w_443 : Cond.static (⟨"KindSayings$Tokens", "isFigure", "(I)Z"⟩) ∈ Gd := Gd_2 138 rfl rfl
set_option maxRecDepth 8000 in
theorem w_444 : Cond.code (⟨"KindSayings$Tokens", "isFigure", "(I)Z"⟩) prog_6_method_10_code 1 (Option.some FieldType.boolean) ∈ Gd := Gd_2 139 rfl rfl
set_option maxRecDepth 8000 in
theorem w_445 : Cond.methodLink "KindSayings$Tokens" 53 (⟨"KindSayings$Tokens", "takeNumber", "()V"⟩) ∈ Gd := Gd_2 140 rfl rfl
set_option maxRecDepth 8000 in
theorem w_447 : Cond.instanceMethod (⟨"KindSayings$Tokens", "takeNumber", "()V"⟩) ∈ Gd := Gd_2 142 rfl rfl
set_option maxRecDepth 8000 in
theorem w_448 : Cond.code (⟨"KindSayings$Tokens", "takeNumber", "()V"⟩) prog_6_method_6_code 2 none ∈ Gd := Gd_2 143 rfl rfl
set_option maxRecDepth 8000 in
theorem w_449 : Cond.methodLink "KindSayings$Tokens" 64 (⟨"java/lang/Math", "min", "(II)I"⟩) ∈ Gd := Gd_2 144 rfl rfl
set_option maxRecDepth 8000 in
theorem w_450 : Cond.static (⟨"java/lang/Math", "min", "(II)I"⟩) ∈ Gd := Gd_2 145 rfl rfl
set_option maxRecDepth 8000 in
theorem w_451 : Cond.code (⟨"java/lang/Math", "min", "(II)I"⟩) prog_12_method_69_code 2 (Option.some FieldType.int) ∈ Gd := Gd_2 146 rfl rfl
set_option maxRecDepth 8000 in
theorem w_452 : Cond.methodLink "KindSayings$Tokens" 56 (⟨"KindSayings$Tokens", "takeSign", "(I)V"⟩) ∈ Gd := Gd_2 147 rfl rfl
set_option maxRecDepth 8000 in
theorem w_454 : Cond.instanceMethod (⟨"KindSayings$Tokens", "takeSign", "(I)V"⟩) ∈ Gd := Gd_2 149 rfl rfl
set_option maxRecDepth 8000 in
theorem w_455 : Cond.code (⟨"KindSayings$Tokens", "takeSign", "(I)V"⟩) prog_6_method_7_code 2 none ∈ Gd := Gd_2 150 rfl rfl
set_option maxRecDepth 8000 in
theorem w_456 : Cond.methodLink "KindSayings$Reader" 38 (⟨"KindSayings$Reader", "readHead", "()V"⟩) ∈ Gd := Gd_2 151 rfl rfl
set_option maxRecDepth 8000 in
theorem w_458 : Cond.instanceMethod (⟨"KindSayings$Reader", "readHead", "()V"⟩) ∈ Gd := Gd_2 153 rfl rfl
set_option maxRecDepth 8000 in
theorem w_459 : Cond.code (⟨"KindSayings$Reader", "readHead", "()V"⟩) prog_4_method_3_code 1 none ∈ Gd := Gd_2 154 rfl rfl
set_option maxRecDepth 8000 in
theorem w_460 : Cond.methodLink "KindSayings$Reader" 75 (⟨"KindSayings$Tokens", "advance", "()V"⟩) ∈ Gd := Gd_2 155 rfl rfl
set_option maxRecDepth 8000 in
theorem w_461 : Cond.methodLink "KindSayings$Reader" 84 (⟨"KindSayings$Reader", "fail", "()V"⟩) ∈ Gd := Gd_2 156 rfl rfl
set_option maxRecDepth 8000 in
theorem w_463 : Cond.instanceMethod (⟨"KindSayings$Reader", "fail", "()V"⟩) ∈ Gd := Gd_2 158 rfl rfl
set_option maxRecDepth 8000 in
theorem w_464 : Cond.code (⟨"KindSayings$Reader", "fail", "()V"⟩) prog_4_method_11_code 1 none ∈ Gd := Gd_2 159 rfl rfl
set_option maxRecDepth 8000 in
theorem w_465 : Cond.methodLink "KindSayings$Reader" 51 (⟨"KindSayings$Reader", "pass", "(I)V"⟩) ∈ Gd := Gd_2 160 rfl rfl
set_option maxRecDepth 8000 in
theorem w_467 : Cond.instanceMethod (⟨"KindSayings$Reader", "pass", "(I)V"⟩) ∈ Gd := Gd_2 162 rfl rfl
set_option maxRecDepth 8000 in
theorem w_468 : Cond.code (⟨"KindSayings$Reader", "pass", "(I)V"⟩) prog_4_method_10_code 2 none ∈ Gd := Gd_2 163 rfl rfl
set_option maxRecDepth 8000 in
theorem w_469 : Cond.methodLink "KindSayings$Reader" 87 (⟨"KindSayings$Reader", "readNumber", "()V"⟩) ∈ Gd := Gd_2 164 rfl rfl
set_option maxRecDepth 8000 in
theorem w_471 : Cond.instanceMethod (⟨"KindSayings$Reader", "readNumber", "()V"⟩) ∈ Gd := Gd_2 166 rfl rfl
set_option maxRecDepth 8000 in
theorem w_472 : Cond.code (⟨"KindSayings$Reader", "readNumber", "()V"⟩) prog_4_method_4_code 1 none ∈ Gd := Gd_2 167 rfl rfl
set_option maxRecDepth 8000 in
theorem w_473 : Cond.methodLink "KindSayings$Reader" 41 (⟨"KindSayings$Reader", "readSide", "()I"⟩) ∈ Gd := Gd_2 168 rfl rfl
set_option maxRecDepth 8000 in
theorem w_475 : Cond.instanceMethod (⟨"KindSayings$Reader", "readSide", "()I"⟩) ∈ Gd := Gd_2 170 rfl rfl
set_option maxRecDepth 8000 in
theorem w_476 : Cond.code (⟨"KindSayings$Reader", "readSide", "()I"⟩) prog_4_method_5_code 4 (Option.some FieldType.int) ∈ Gd := Gd_2 171 rfl rfl
set_option maxRecDepth 8000 in
theorem w_477 : Cond.methodLink "KindSayings$Reader" 93 (⟨"KindSayings$Reader", "readUnion", "(I)I"⟩) ∈ Gd := Gd_2 172 rfl rfl
set_option maxRecDepth 8000 in
theorem w_479 : Cond.instanceMethod (⟨"KindSayings$Reader", "readUnion", "(I)I"⟩) ∈ Gd := Gd_2 174 rfl rfl
set_option maxRecDepth 8000 in
theorem w_480 : Cond.code (⟨"KindSayings$Reader", "readUnion", "(I)I"⟩) prog_4_method_6_code 4 (Option.some FieldType.int) ∈ Gd := Gd_2 175 rfl rfl
set_option maxRecDepth 8000 in
theorem w_481 : Cond.methodLink "KindSayings$Reader" 97 (⟨"KindSayings$Reader", "readMeet", "(I)I"⟩) ∈ Gd := Gd_2 176 rfl rfl
set_option maxRecDepth 8000 in
theorem w_483 : Cond.instanceMethod (⟨"KindSayings$Reader", "readMeet", "(I)I"⟩) ∈ Gd := Gd_2 178 rfl rfl
set_option maxRecDepth 8000 in
theorem w_484 : Cond.code (⟨"KindSayings$Reader", "readMeet", "(I)I"⟩) prog_4_method_7_code 4 (Option.some FieldType.int) ∈ Gd := Gd_2 179 rfl rfl
set_option maxRecDepth 8000 in
theorem w_485 : Cond.methodLink "KindSayings$Reader" 100 (⟨"KindSayings$Reader", "readPart", "(I)I"⟩) ∈ Gd := Gd_2 180 rfl rfl
set_option maxRecDepth 8000 in
theorem w_487 : Cond.instanceMethod (⟨"KindSayings$Reader", "readPart", "(I)I"⟩) ∈ Gd := Gd_2 182 rfl rfl
set_option maxRecDepth 8000 in
theorem w_488 : Cond.code (⟨"KindSayings$Reader", "readPart", "(I)I"⟩) prog_4_method_8_code 5 (Option.some FieldType.int) ∈ Gd := Gd_2 183 rfl rfl
set_option maxRecDepth 8000 in
theorem w_489 : Cond.methodLink "KindSayings$Reader" 103 (⟨"KindSayings$Reader", "isPart", "(III)Z"⟩) ∈ Gd := Gd_2 184 rfl rfl
set_option maxRecDepth 8000 in
theorem w_491 : Cond.instanceMethod (⟨"KindSayings$Reader", "isPart", "(III)Z"⟩) ∈ Gd := Gd_2 186 rfl rfl
set_option maxRecDepth 8000 in
theorem w_492 : Cond.code (⟨"KindSayings$Reader", "isPart", "(III)Z"⟩) prog_4_method_9_code 4 (Option.some FieldType.boolean) ∈ Gd := Gd_2 187 rfl rfl
set_option maxRecDepth 8000 in
theorem w_495 : Cond.methodLink "KindSayings$Reader" 58 (⟨"KindSayings$Reader", "factTold", "(II)I"⟩) ∈ Gd := Gd_2 190 rfl rfl
set_option maxRecDepth 8000 in
theorem w_497 : Cond.instanceMethod (⟨"KindSayings$Reader", "factTold", "(II)I"⟩) ∈ Gd := Gd_2 192 rfl rfl
set_option maxRecDepth 8000 in
theorem w_498 : Cond.code (⟨"KindSayings$Reader", "factTold", "(II)I"⟩) prog_4_method_12_code 3 (Option.some FieldType.int) ∈ Gd := Gd_2 193 rfl rfl
set_option maxRecDepth 8000 in
theorem w_500 : Cond.methodLink "KindSayings" 108 (⟨"KindSayings$Saying", "become", "(LKindSayings$Saying;)V"⟩) ∈ Gd := Gd_2 195 rfl rfl
set_option maxRecDepth 8000 in
theorem w_501 : Cond.instanceMethod (⟨"KindSayings$Saying", "become", "(LKindSayings$Saying;)V"⟩) ∈ Gd := Gd_2 196 rfl rfl
set_option maxRecDepth 8000 in
theorem w_502 : Cond.selects "KindSayings$Saying" (⟨"KindSayings$Saying", "become", "(LKindSayings$Saying;)V"⟩) (⟨"KindSayings$Saying", "become", "(LKindSayings$Saying;)V"⟩) ∈ Gd := Gd_2 197 rfl rfl
set_option maxRecDepth 8000 in
theorem w_503 : Cond.code (⟨"KindSayings$Saying", "become", "(LKindSayings$Saying;)V"⟩) prog_5_method_3_code 2 none ∈ Gd := Gd_2 198 rfl rfl
set_option maxRecDepth 8000 in
theorem w_504 : Cond.methodLink "KindSayingsLaw" 55 (⟨"KindSayings", "about", "(II)I"⟩) ∈ Gd := Gd_2 199 rfl rfl
set_option maxRecDepth 8000 in
theorem w_505 : Cond.instanceMethod (⟨"KindSayings", "about", "(II)I"⟩) ∈ Gd := Gd_2 200 rfl rfl
set_option maxRecDepth 8000 in
theorem w_506 : Cond.selects "KindSayings" (⟨"KindSayings", "about", "(II)I"⟩) (⟨"KindSayings", "about", "(II)I"⟩) ∈ Gd := Gd_2 201 rfl rfl
set_option maxRecDepth 8000 in
theorem w_507 : Cond.code (⟨"KindSayings", "about", "(II)I"⟩) prog_1_method_11_code 4 (Option.some FieldType.int) ∈ Gd := Gd_2 202 rfl rfl
set_option maxRecDepth 8000 in
theorem w_508 : Cond.methodLink "KindSayingsLaw" 59 (⟨"KindSayings", "can", "(I)I"⟩) ∈ Gd := Gd_2 203 rfl rfl
set_option maxRecDepth 8000 in
theorem w_509 : Cond.instanceMethod (⟨"KindSayings", "can", "(I)I"⟩) ∈ Gd := Gd_2 204 rfl rfl
set_option maxRecDepth 8000 in
theorem w_510 : Cond.selects "KindSayings" (⟨"KindSayings", "can", "(I)I"⟩) (⟨"KindSayings", "can", "(I)I"⟩) ∈ Gd := Gd_2 205 rfl rfl
set_option maxRecDepth 8000 in
theorem w_511 : Cond.code (⟨"KindSayings", "can", "(I)I"⟩) prog_1_method_12_code 2 (Option.some FieldType.int) ∈ Gd := Gd_2 206 rfl rfl
set_option maxRecDepth 8000 in
theorem w_512 : Cond.methodLink "KindSayings" 134 (⟨"KindSayings", "isSet", "(I)Z"⟩) ∈ Gd := Gd_2 207 rfl rfl
set_option maxRecDepth 8000 in
theorem w_513 : Cond.static (⟨"KindSayings", "isSet", "(I)Z"⟩) ∈ Gd := Gd_2 208 rfl rfl
set_option maxRecDepth 8000 in
theorem w_514 : Cond.code (⟨"KindSayings", "isSet", "(I)Z"⟩) prog_1_method_38_code 1 (Option.some FieldType.boolean) ∈ Gd := Gd_2 209 rfl rfl
set_option maxRecDepth 8000 in
theorem w_515 : Cond.methodLink "KindSayings" 137 (⟨"KindSayings", "freshHeaps", "()LKindSayings$Heaps;"⟩) ∈ Gd := Gd_2 210 rfl rfl
set_option maxRecDepth 8000 in
theorem w_517 : Cond.instanceMethod (⟨"KindSayings", "freshHeaps", "()LKindSayings$Heaps;"⟩) ∈ Gd := Gd_2 212 rfl rfl
set_option maxRecDepth 8000 in
theorem w_518 : Cond.code (⟨"KindSayings", "freshHeaps", "()LKindSayings$Heaps;"⟩) prog_1_method_34_code 1 (Option.some (FieldType.object "KindSayings$Heaps")) ∈ Gd := Gd_2 213 rfl rfl
set_option maxRecDepth 8000 in
theorem w_519 : Cond.methodLink "KindSayings" 229 (⟨"KindSayings$Heaps", "refresh", "([LKindSayings$Saying;)V"⟩) ∈ Gd := Gd_2 214 rfl rfl
set_option maxRecDepth 8000 in
theorem w_520 : Cond.instanceMethod (⟨"KindSayings$Heaps", "refresh", "([LKindSayings$Saying;)V"⟩) ∈ Gd := Gd_2 215 rfl rfl
set_option maxRecDepth 8000 in
theorem w_521 : Cond.selects "KindSayings$Heaps" (⟨"KindSayings$Heaps", "refresh", "([LKindSayings$Saying;)V"⟩) (⟨"KindSayings$Heaps", "refresh", "([LKindSayings$Saying;)V"⟩) ∈ Gd := Gd_2 216 rfl rfl
set_option maxRecDepth 8000 in
theorem w_522 : Cond.code (⟨"KindSayings$Heaps", "refresh", "([LKindSayings$Saying;)V"⟩) prog_2_method_4_code 5 none ∈ Gd := Gd_2 217 rfl rfl
set_option maxRecDepth 8000 in
theorem w_523 : Cond.methodLink "KindSayings$Heaps" 65 (⟨"KindSayings$Heaps", "likes", "([LKindSayings$Saying;LKindSayings$Saying;)I"⟩) ∈ Gd := Gd_2 218 rfl rfl
set_option maxRecDepth 8000 in
theorem w_524 : Cond.static (⟨"KindSayings$Heaps", "likes", "([LKindSayings$Saying;LKindSayings$Saying;)I"⟩) ∈ Gd := Gd_2 219 rfl rfl
set_option maxRecDepth 8000 in
theorem w_525 : Cond.code (⟨"KindSayings$Heaps", "likes", "([LKindSayings$Saying;LKindSayings$Saying;)I"⟩) prog_2_method_5_code 5 (Option.some FieldType.int) ∈ Gd := Gd_2 220 rfl rfl
set_option maxRecDepth 8000 in
theorem w_526 : Cond.methodLink "KindSayings$Heaps" 79 (⟨"KindSayings$Saying", "isLike", "(LKindSayings$Saying;)Z"⟩) ∈ Gd := Gd_2 221 rfl rfl
set_option maxRecDepth 8000 in
theorem w_527 : Cond.instanceMethod (⟨"KindSayings$Saying", "isLike", "(LKindSayings$Saying;)Z"⟩) ∈ Gd := Gd_2 222 rfl rfl
set_option maxRecDepth 8000 in
theorem w_528 : Cond.selects "KindSayings$Saying" (⟨"KindSayings$Saying", "isLike", "(LKindSayings$Saying;)Z"⟩) (⟨"KindSayings$Saying", "isLike", "(LKindSayings$Saying;)Z"⟩) ∈ Gd := Gd_2 223 rfl rfl
set_option maxRecDepth 8000 in
theorem w_529 : Cond.code (⟨"KindSayings$Saying", "isLike", "(LKindSayings$Saying;)Z"⟩) prog_5_method_4_code 2 (Option.some FieldType.boolean) ∈ Gd := Gd_2 224 rfl rfl
set_option maxRecDepth 8000 in
theorem w_530 : Cond.methodLink "KindSayings$Heaps" 69 (⟨"KindSayings$Heaps", "mark", "(LKindSayings$Saying;I)V"⟩) ∈ Gd := Gd_2 225 rfl rfl
set_option maxRecDepth 8000 in
theorem w_532 : Cond.instanceMethod (⟨"KindSayings$Heaps", "mark", "(LKindSayings$Saying;I)V"⟩) ∈ Gd := Gd_2 227 rfl rfl
set_option maxRecDepth 8000 in
theorem w_533 : Cond.code (⟨"KindSayings$Heaps", "mark", "(LKindSayings$Saying;I)V"⟩) prog_2_method_6_code 6 none ∈ Gd := Gd_2 228 rfl rfl
set_option maxRecDepth 8000 in
theorem w_534 : Cond.methodLink "KindSayings$Heaps" 85 (⟨"KindSayings$Walk", "begin", "(IILKindSayings$Saying;)V"⟩) ∈ Gd := Gd_2 229 rfl rfl
set_option maxRecDepth 8000 in
theorem w_535 : Cond.instanceMethod (⟨"KindSayings$Walk", "begin", "(IILKindSayings$Saying;)V"⟩) ∈ Gd := Gd_2 230 rfl rfl
set_option maxRecDepth 8000 in
theorem w_536 : Cond.selects "KindSayings$Walk" (⟨"KindSayings$Walk", "begin", "(IILKindSayings$Saying;)V"⟩) (⟨"KindSayings$Walk", "begin", "(IILKindSayings$Saying;)V"⟩) ∈ Gd := Gd_2 231 rfl rfl
set_option maxRecDepth 8000 in
theorem w_537 : Cond.code (⟨"KindSayings$Walk", "begin", "(IILKindSayings$Saying;)V"⟩) prog_7_method_2_code 5 none ∈ Gd := Gd_2 232 rfl rfl
set_option maxRecDepth 8000 in
theorem w_538 : Cond.methodLink "KindSayings$Walk" 21 (⟨"KindSayings$Saying", "weight", "(I)I"⟩) ∈ Gd := Gd_2 233 rfl rfl
set_option maxRecDepth 8000 in
theorem w_539 : Cond.methodLink "KindSayings$Walk" 27 (⟨"java/lang/Math", "min", "(II)I"⟩) ∈ Gd := Gd_2 234 rfl rfl
set_option maxRecDepth 8000 in
theorem w_540 : Cond.methodLink "KindSayings$Heaps" 89 (⟨"KindSayings$Walk", "sum", "()I"⟩) ∈ Gd := Gd_2 235 rfl rfl
set_option maxRecDepth 8000 in
theorem w_541 : Cond.instanceMethod (⟨"KindSayings$Walk", "sum", "()I"⟩) ∈ Gd := Gd_2 236 rfl rfl
set_option maxRecDepth 8000 in
theorem w_542 : Cond.selects "KindSayings$Walk" (⟨"KindSayings$Walk", "sum", "()I"⟩) (⟨"KindSayings$Walk", "sum", "()I"⟩) ∈ Gd := Gd_2 237 rfl rfl
set_option maxRecDepth 8000 in
theorem w_543 : Cond.code (⟨"KindSayings$Walk", "sum", "()I"⟩) prog_7_method_5_code 1 (Option.some FieldType.int) ∈ Gd := Gd_2 238 rfl rfl
set_option maxRecDepth 8000 in
theorem w_544 : Cond.methodLink "KindSayings$Heaps" 93 (⟨"KindSayings$Saying", "isTrue", "(I)Z"⟩) ∈ Gd := Gd_2 239 rfl rfl
set_option maxRecDepth 8000 in
theorem w_545 : Cond.methodLink "KindSayings$Heaps" 97 (⟨"KindSayings$Walk", "advance", "()Z"⟩) ∈ Gd := Gd_3 0 rfl rfl
set_option maxRecDepth 8000 in
theorem w_546 : Cond.instanceMethod (⟨"KindSayings$Walk", "advance", "()Z"⟩) ∈ Gd := Gd_3 1 rfl rfl
set_option maxRecDepth 8000 in
theorem w_547 : Cond.selects "KindSayings$Walk" (⟨"KindSayings$Walk", "advance", "()Z"⟩) (⟨"KindSayings$Walk", "advance", "()Z"⟩) ∈ Gd := Gd_3 2 rfl rfl
set_option maxRecDepth 8000 in
theorem w_548 : Cond.code (⟨"KindSayings$Walk", "advance", "()Z"⟩) prog_7_method_3_code 2 (Option.some FieldType.boolean) ∈ Gd := Gd_3 3 rfl rfl
set_option maxRecDepth 8000 in
theorem w_549 : Cond.methodLink "KindSayings$Walk" 43 (⟨"KindSayings$Walk", "fillFrom", "(II)V"⟩) ∈ Gd := Gd_3 4 rfl rfl
set_option maxRecDepth 8000 in
theorem w_551 : Cond.instanceMethod (⟨"KindSayings$Walk", "fillFrom", "(II)V"⟩) ∈ Gd := Gd_3 6 rfl rfl
set_option maxRecDepth 8000 in
theorem w_552 : Cond.code (⟨"KindSayings$Walk", "fillFrom", "(II)V"⟩) prog_7_method_4_code 5 none ∈ Gd := Gd_3 7 rfl rfl
set_option maxRecDepth 8000 in
theorem w_553 : Cond.methodLink "KindSayings$Heaps" 73 (⟨"KindSayings$Heaps", "fillHeaps", "()V"⟩) ∈ Gd := Gd_3 8 rfl rfl
set_option maxRecDepth 8000 in
theorem w_555 : Cond.instanceMethod (⟨"KindSayings$Heaps", "fillHeaps", "()V"⟩) ∈ Gd := Gd_3 10 rfl rfl
set_option maxRecDepth 8000 in
theorem w_556 : Cond.code (⟨"KindSayings$Heaps", "fillHeaps", "()V"⟩) prog_2_method_7_code 3 none ∈ Gd := Gd_3 11 rfl rfl
set_option maxRecDepth 8000 in
theorem w_557 : Cond.methodLink "KindSayings$Heaps" 76 (⟨"KindSayings$Heaps", "addTogether", "()V"⟩) ∈ Gd := Gd_3 12 rfl rfl
set_option maxRecDepth 8000 in
theorem w_559 : Cond.instanceMethod (⟨"KindSayings$Heaps", "addTogether", "()V"⟩) ∈ Gd := Gd_3 14 rfl rfl
set_option maxRecDepth 8000 in
theorem w_560 : Cond.code (⟨"KindSayings$Heaps", "addTogether", "()V"⟩) prog_2_method_8_code 4 none ∈ Gd := Gd_3 15 rfl rfl
set_option maxRecDepth 8000 in
theorem w_561 : Cond.methodLink "KindSayings" 141 (⟨"KindSayings$Heaps", "worldsOf", "(I)I"⟩) ∈ Gd := Gd_3 16 rfl rfl
set_option maxRecDepth 8000 in
theorem w_562 : Cond.instanceMethod (⟨"KindSayings$Heaps", "worldsOf", "(I)I"⟩) ∈ Gd := Gd_3 17 rfl rfl
set_option maxRecDepth 8000 in
theorem w_563 : Cond.selects "KindSayings$Heaps" (⟨"KindSayings$Heaps", "worldsOf", "(I)I"⟩) (⟨"KindSayings$Heaps", "worldsOf", "(I)I"⟩) ∈ Gd := Gd_3 18 rfl rfl
set_option maxRecDepth 8000 in
theorem w_564 : Cond.code (⟨"KindSayings$Heaps", "worldsOf", "(I)I"⟩) prog_2_method_9_code 2 (Option.some FieldType.int) ∈ Gd := Gd_3 19 rfl rfl
set_option maxRecDepth 8000 in
theorem w_565 : Cond.methodLink "KindSayingsLaw" 63 (⟨"KindSayings", "least", "(II)I"⟩) ∈ Gd := Gd_3 20 rfl rfl
set_option maxRecDepth 8000 in
theorem w_566 : Cond.instanceMethod (⟨"KindSayings", "least", "(II)I"⟩) ∈ Gd := Gd_3 21 rfl rfl
set_option maxRecDepth 8000 in
theorem w_567 : Cond.selects "KindSayings" (⟨"KindSayings", "least", "(II)I"⟩) (⟨"KindSayings", "least", "(II)I"⟩) ∈ Gd := Gd_3 22 rfl rfl
set_option maxRecDepth 8000 in
theorem w_568 : Cond.code (⟨"KindSayings", "least", "(II)I"⟩) prog_1_method_13_code 4 (Option.some FieldType.int) ∈ Gd := Gd_3 23 rfl rfl
set_option maxRecDepth 8000 in
theorem w_569 : Cond.methodLink "KindSayings" 144 (⟨"KindSayings", "isSortOrEvery", "(I)Z"⟩) ∈ Gd := Gd_3 24 rfl rfl
set_option maxRecDepth 8000 in
theorem w_571 : Cond.instanceMethod (⟨"KindSayings", "isSortOrEvery", "(I)Z"⟩) ∈ Gd := Gd_3 26 rfl rfl
set_option maxRecDepth 8000 in
theorem w_572 : Cond.code (⟨"KindSayings", "isSortOrEvery", "(I)Z"⟩) prog_1_method_30_code 2 (Option.some FieldType.boolean) ∈ Gd := Gd_3 27 rfl rfl
set_option maxRecDepth 8000 in
theorem w_573 : Cond.methodLink "KindSayings" 147 (⟨"KindSayings$Heaps", "firstWorld", "(II)I"⟩) ∈ Gd := Gd_3 28 rfl rfl
set_option maxRecDepth 8000 in
theorem w_574 : Cond.instanceMethod (⟨"KindSayings$Heaps", "firstWorld", "(II)I"⟩) ∈ Gd := Gd_3 29 rfl rfl
set_option maxRecDepth 8000 in
theorem w_575 : Cond.selects "KindSayings$Heaps" (⟨"KindSayings$Heaps", "firstWorld", "(II)I"⟩) (⟨"KindSayings$Heaps", "firstWorld", "(II)I"⟩) ∈ Gd := Gd_3 30 rfl rfl
set_option maxRecDepth 8000 in
theorem w_576 : Cond.code (⟨"KindSayings$Heaps", "firstWorld", "(II)I"⟩) prog_2_method_11_code 6 (Option.some FieldType.int) ∈ Gd := Gd_3 31 rfl rfl
set_option maxRecDepth 8000 in
theorem w_577 : Cond.methodLink "KindSayings" 151 (⟨"KindSayings$Heaps", "thingsIn", "(II)I"⟩) ∈ Gd := Gd_3 32 rfl rfl
set_option maxRecDepth 8000 in
theorem w_578 : Cond.instanceMethod (⟨"KindSayings$Heaps", "thingsIn", "(II)I"⟩) ∈ Gd := Gd_3 33 rfl rfl
set_option maxRecDepth 8000 in
theorem w_579 : Cond.selects "KindSayings$Heaps" (⟨"KindSayings$Heaps", "thingsIn", "(II)I"⟩) (⟨"KindSayings$Heaps", "thingsIn", "(II)I"⟩) ∈ Gd := Gd_3 34 rfl rfl
set_option maxRecDepth 8000 in
theorem w_580 : Cond.code (⟨"KindSayings$Heaps", "thingsIn", "(II)I"⟩) prog_2_method_14_code 7 (Option.some FieldType.int) ∈ Gd := Gd_3 35 rfl rfl
set_option maxRecDepth 8000 in
theorem w_581 : Cond.methodLink "KindSayings$Heaps" 110 (⟨"KindSayings$Heaps", "rowsOf", "(II)I"⟩) ∈ Gd := Gd_3 36 rfl rfl
set_option maxRecDepth 8000 in
theorem w_582 : Cond.static (⟨"KindSayings$Heaps", "rowsOf", "(II)I"⟩) ∈ Gd := Gd_3 37 rfl rfl
set_option maxRecDepth 8000 in
theorem w_583 : Cond.code (⟨"KindSayings$Heaps", "rowsOf", "(II)I"⟩) prog_2_method_15_code 2 (Option.some FieldType.int) ∈ Gd := Gd_3 38 rfl rfl
set_option maxRecDepth 8000 in
theorem w_584 : Cond.methodLink "KindSayingsLaw" 67 (⟨"KindSayings", "follows", "(II)I"⟩) ∈ Gd := Gd_3 39 rfl rfl
set_option maxRecDepth 8000 in
theorem w_585 : Cond.instanceMethod (⟨"KindSayings", "follows", "(II)I"⟩) ∈ Gd := Gd_3 40 rfl rfl
set_option maxRecDepth 8000 in
theorem w_586 : Cond.selects "KindSayings" (⟨"KindSayings", "follows", "(II)I"⟩) (⟨"KindSayings", "follows", "(II)I"⟩) ∈ Gd := Gd_3 41 rfl rfl
set_option maxRecDepth 8000 in
theorem w_587 : Cond.code (⟨"KindSayings", "follows", "(II)I"⟩) prog_1_method_14_code 3 (Option.some FieldType.int) ∈ Gd := Gd_3 42 rfl rfl
set_option maxRecDepth 8000 in
theorem w_588 : Cond.methodLink "KindSayings" 154 (⟨"KindSayings$Heaps", "isFollowing", "(II)Z"⟩) ∈ Gd := Gd_3 43 rfl rfl
set_option maxRecDepth 8000 in
theorem w_589 : Cond.instanceMethod (⟨"KindSayings$Heaps", "isFollowing", "(II)Z"⟩) ∈ Gd := Gd_3 44 rfl rfl
set_option maxRecDepth 8000 in
theorem w_590 : Cond.selects "KindSayings$Heaps" (⟨"KindSayings$Heaps", "isFollowing", "(II)Z"⟩) (⟨"KindSayings$Heaps", "isFollowing", "(II)Z"⟩) ∈ Gd := Gd_3 45 rfl rfl
set_option maxRecDepth 8000 in
theorem w_591 : Cond.code (⟨"KindSayings$Heaps", "isFollowing", "(II)Z"⟩) prog_2_method_10_code 3 (Option.some FieldType.boolean) ∈ Gd := Gd_3 46 rfl rfl
set_option maxRecDepth 8000 in
theorem w_592 : Cond.methodLink "KindSayings$Heaps" 101 (⟨"KindSayings$Heaps", "worldsOf", "(I)I"⟩) ∈ Gd := Gd_3 47 rfl rfl
set_option maxRecDepth 8000 in
theorem w_593 : Cond.methodLink "KindSayingsLaw" 71 (⟨"KindSayings", "against", "(III)I"⟩) ∈ Gd := Gd_3 48 rfl rfl
set_option maxRecDepth 8000 in
theorem w_594 : Cond.instanceMethod (⟨"KindSayings", "against", "(III)I"⟩) ∈ Gd := Gd_3 49 rfl rfl
set_option maxRecDepth 8000 in
theorem w_595 : Cond.selects "KindSayings" (⟨"KindSayings", "against", "(III)I"⟩) (⟨"KindSayings", "against", "(III)I"⟩) ∈ Gd := Gd_3 50 rfl rfl
set_option maxRecDepth 8000 in
theorem w_596 : Cond.code (⟨"KindSayings", "against", "(III)I"⟩) prog_1_method_15_code 5 (Option.some FieldType.int) ∈ Gd := Gd_3 51 rfl rfl
set_option maxRecDepth 8000 in
theorem w_597 : Cond.methodLink "KindSayingsLaw" 76 (⟨"KindSayings", "unsaid", "(I)I"⟩) ∈ Gd := Gd_3 52 rfl rfl
set_option maxRecDepth 8000 in
theorem w_598 : Cond.instanceMethod (⟨"KindSayings", "unsaid", "(I)I"⟩) ∈ Gd := Gd_3 53 rfl rfl
set_option maxRecDepth 8000 in
theorem w_599 : Cond.selects "KindSayings" (⟨"KindSayings", "unsaid", "(I)I"⟩) (⟨"KindSayings", "unsaid", "(I)I"⟩) ∈ Gd := Gd_3 54 rfl rfl
set_option maxRecDepth 8000 in
theorem w_600 : Cond.code (⟨"KindSayings", "unsaid", "(I)I"⟩) prog_1_method_16_code 5 (Option.some FieldType.int) ∈ Gd := Gd_3 55 rfl rfl
set_option maxRecDepth 8000 in
theorem w_601 : Cond.methodLink "KindSayingsLaw" 80 (⟨"KindSayings", "clash", "(II)I"⟩) ∈ Gd := Gd_3 56 rfl rfl
set_option maxRecDepth 8000 in
theorem w_602 : Cond.instanceMethod (⟨"KindSayings", "clash", "(II)I"⟩) ∈ Gd := Gd_3 57 rfl rfl
set_option maxRecDepth 8000 in
theorem w_603 : Cond.selects "KindSayings" (⟨"KindSayings", "clash", "(II)I"⟩) (⟨"KindSayings", "clash", "(II)I"⟩) ∈ Gd := Gd_3 58 rfl rfl
set_option maxRecDepth 8000 in
theorem w_604 : Cond.code (⟨"KindSayings", "clash", "(II)I"⟩) prog_1_method_17_code 4 (Option.some FieldType.int) ∈ Gd := Gd_3 59 rfl rfl
set_option maxRecDepth 8000 in
theorem w_605 : Cond.methodLink "KindSayings" 161 (⟨"KindSayings$Heaps", "fewestClashing", "(I)I"⟩) ∈ Gd := Gd_3 60 rfl rfl
set_option maxRecDepth 8000 in
theorem w_606 : Cond.instanceMethod (⟨"KindSayings$Heaps", "fewestClashing", "(I)I"⟩) ∈ Gd := Gd_3 61 rfl rfl
set_option maxRecDepth 8000 in
theorem w_607 : Cond.selects "KindSayings$Heaps" (⟨"KindSayings$Heaps", "fewestClashing", "(I)I"⟩) (⟨"KindSayings$Heaps", "fewestClashing", "(I)I"⟩) ∈ Gd := Gd_3 62 rfl rfl
set_option maxRecDepth 8000 in
theorem w_608 : Cond.code (⟨"KindSayings$Heaps", "fewestClashing", "(I)I"⟩) prog_2_method_13_code 5 (Option.some FieldType.int) ∈ Gd := Gd_3 63 rfl rfl
set_option maxRecDepth 8000 in
theorem w_609 : Cond.methodLink "KindSayings$Heaps" 105 (⟨"java/lang/Integer", "bitCount", "(I)I"⟩) ∈ Gd := Gd_3 64 rfl rfl
set_option maxRecDepth 8000 in
theorem w_610 : Cond.static (⟨"java/lang/Integer", "bitCount", "(I)I"⟩) ∈ Gd := Gd_3 65 rfl rfl
set_option maxRecDepth 8000 in
theorem w_611 : Cond.code (⟨"java/lang/Integer", "bitCount", "(I)I"⟩) prog_10_method_49_code 1 (Option.some FieldType.int) ∈ Gd := Gd_3 66 rfl rfl
set_option maxRecDepth 8000 in
theorem w_612 : Cond.constant "java/lang/Integer" 265 (1431655765 : Int32) ∈ Gd := Gd_3 67 rfl rfl
set_option maxRecDepth 8000 in
theorem w_613 : Cond.constant "java/lang/Integer" 266 (858993459 : Int32) ∈ Gd := Gd_3 68 rfl rfl
set_option maxRecDepth 8000 in
theorem w_614 : Cond.constant "java/lang/Integer" 267 (252645135 : Int32) ∈ Gd := Gd_3 69 rfl rfl
set_option maxRecDepth 8000 in
theorem w_615 : Cond.methodLink "KindSayings" 164 (⟨"java/lang/Integer", "bitCount", "(I)I"⟩) ∈ Gd := Gd_3 70 rfl rfl
set_option maxRecDepth 8000 in
theorem w_616 : Cond.methodLink "KindSayingsLaw" 84 (⟨"KindSayings", "ask", "(I)I"⟩) ∈ Gd := Gd_3 71 rfl rfl
set_option maxRecDepth 8000 in
theorem w_617 : Cond.instanceMethod (⟨"KindSayings", "ask", "(I)I"⟩) ∈ Gd := Gd_3 72 rfl rfl
set_option maxRecDepth 8000 in
theorem w_618 : Cond.selects "KindSayings" (⟨"KindSayings", "ask", "(I)I"⟩) (⟨"KindSayings", "ask", "(I)I"⟩) ∈ Gd := Gd_3 73 rfl rfl
set_option maxRecDepth 8000 in
theorem w_619 : Cond.code (⟨"KindSayings", "ask", "(I)I"⟩) prog_1_method_18_code 9 (Option.some FieldType.int) ∈ Gd := Gd_3 74 rfl rfl
set_option maxRecDepth 8000 in
theorem w_620 : Cond.methodLink "KindSayings" 169 (⟨"java/lang/Math", "max", "(II)I"⟩) ∈ Gd := Gd_3 75 rfl rfl
set_option maxRecDepth 8000 in
theorem w_621 : Cond.static (⟨"java/lang/Math", "max", "(II)I"⟩) ∈ Gd := Gd_3 76 rfl rfl
set_option maxRecDepth 8000 in
theorem w_622 : Cond.code (⟨"java/lang/Math", "max", "(II)I"⟩) prog_12_method_65_code 2 (Option.some FieldType.int) ∈ Gd := Gd_3 77 rfl rfl
set_option maxRecDepth 8000 in
theorem w_623 : Cond.methodLink "KindSayingsLaw" 88 (⟨"KindSayings", "heaps", "(I)I"⟩) ∈ Gd := Gd_3 78 rfl rfl
set_option maxRecDepth 8000 in
theorem w_624 : Cond.instanceMethod (⟨"KindSayings", "heaps", "(I)I"⟩) ∈ Gd := Gd_3 79 rfl rfl
set_option maxRecDepth 8000 in
theorem w_625 : Cond.selects "KindSayings" (⟨"KindSayings", "heaps", "(I)I"⟩) (⟨"KindSayings", "heaps", "(I)I"⟩) ∈ Gd := Gd_3 80 rfl rfl
set_option maxRecDepth 8000 in
theorem w_626 : Cond.code (⟨"KindSayings", "heaps", "(I)I"⟩) prog_1_method_19_code 2 (Option.some FieldType.int) ∈ Gd := Gd_3 81 rfl rfl
set_option maxRecDepth 8000 in
theorem w_627 : Cond.methodLink "KindSayings" 174 (⟨"KindSayings$Heaps", "heapsOf", "(I)I"⟩) ∈ Gd := Gd_3 82 rfl rfl
set_option maxRecDepth 8000 in
theorem w_628 : Cond.instanceMethod (⟨"KindSayings$Heaps", "heapsOf", "(I)I"⟩) ∈ Gd := Gd_3 83 rfl rfl
set_option maxRecDepth 8000 in
theorem w_629 : Cond.selects "KindSayings$Heaps" (⟨"KindSayings$Heaps", "heapsOf", "(I)I"⟩) (⟨"KindSayings$Heaps", "heapsOf", "(I)I"⟩) ∈ Gd := Gd_3 84 rfl rfl
set_option maxRecDepth 8000 in
theorem w_630 : Cond.code (⟨"KindSayings$Heaps", "heapsOf", "(I)I"⟩) prog_2_method_12_code 4 (Option.some FieldType.int) ∈ Gd := Gd_3 85 rfl rfl
set_option maxRecDepth 8000 in
theorem w_631 : Cond.methodLink "KindSayingsLaw" 92 (⟨"KindSayings", "twin", "(I)I"⟩) ∈ Gd := Gd_3 86 rfl rfl
set_option maxRecDepth 8000 in
theorem w_632 : Cond.instanceMethod (⟨"KindSayings", "twin", "(I)I"⟩) ∈ Gd := Gd_3 87 rfl rfl
set_option maxRecDepth 8000 in
theorem w_633 : Cond.selects "KindSayings" (⟨"KindSayings", "twin", "(I)I"⟩) (⟨"KindSayings", "twin", "(I)I"⟩) ∈ Gd := Gd_3 88 rfl rfl
set_option maxRecDepth 8000 in
theorem w_634 : Cond.code (⟨"KindSayings", "twin", "(I)I"⟩) prog_1_method_20_code 4 (Option.some FieldType.int) ∈ Gd := Gd_3 89 rfl rfl
set_option maxRecDepth 8000 in
theorem w_635 : Cond.methodLink "KindSayingsLaw" 96 (⟨"KindSayings", "moods", "(I)I"⟩) ∈ Gd := Gd_3 90 rfl rfl
set_option maxRecDepth 8000 in
theorem w_636 : Cond.instanceMethod (⟨"KindSayings", "moods", "(I)I"⟩) ∈ Gd := Gd_3 91 rfl rfl
set_option maxRecDepth 8000 in
theorem w_637 : Cond.selects "KindSayings" (⟨"KindSayings", "moods", "(I)I"⟩) (⟨"KindSayings", "moods", "(I)I"⟩) ∈ Gd := Gd_3 92 rfl rfl
set_option maxRecDepth 8000 in
theorem w_638 : Cond.code (⟨"KindSayings", "moods", "(I)I"⟩) prog_1_method_21_code 3 (Option.some FieldType.int) ∈ Gd := Gd_3 93 rfl rfl
set_option maxRecDepth 8000 in
theorem w_639 : Cond.methodLink "KindSayingsLaw" 100 (⟨"KindSayings", "round", "(IIII)I"⟩) ∈ Gd := Gd_3 94 rfl rfl
set_option maxRecDepth 8000 in
theorem w_640 : Cond.instanceMethod (⟨"KindSayings", "round", "(IIII)I"⟩) ∈ Gd := Gd_3 95 rfl rfl
set_option maxRecDepth 8000 in
theorem w_641 : Cond.selects "KindSayings" (⟨"KindSayings", "round", "(IIII)I"⟩) (⟨"KindSayings", "round", "(IIII)I"⟩) ∈ Gd := Gd_3 96 rfl rfl
set_option maxRecDepth 8000 in
theorem w_642 : Cond.code (⟨"KindSayings", "round", "(IIII)I"⟩) prog_1_method_22_code 5 (Option.some FieldType.int) ∈ Gd := Gd_3 97 rfl rfl
set_option maxRecDepth 8000 in
theorem w_643 : Cond.methodLink "KindSayings" 177 (⟨"KindSayings", "isFact", "(III)Z"⟩) ∈ Gd := Gd_3 98 rfl rfl
set_option maxRecDepth 8000 in
theorem w_645 : Cond.instanceMethod (⟨"KindSayings", "isFact", "(III)Z"⟩) ∈ Gd := Gd_3 100 rfl rfl
set_option maxRecDepth 8000 in
theorem w_646 : Cond.code (⟨"KindSayings", "isFact", "(III)Z"⟩) prog_1_method_31_code 4 (Option.some FieldType.boolean) ∈ Gd := Gd_3 101 rfl rfl
set_option maxRecDepth 8000 in
theorem w_647 : Cond.methodLink "KindSayings" 181 (⟨"KindSayings", "work", "(I)V"⟩) ∈ Gd := Gd_3 102 rfl rfl
set_option maxRecDepth 8000 in
theorem w_649 : Cond.instanceMethod (⟨"KindSayings", "work", "(I)V"⟩) ∈ Gd := Gd_3 104 rfl rfl
set_option maxRecDepth 8000 in
theorem w_650 : Cond.code (⟨"KindSayings", "work", "(I)V"⟩) prog_1_method_35_code 6 none ∈ Gd := Gd_3 105 rfl rfl
set_option maxRecDepth 8000 in
theorem w_651 : Cond.methodLink "KindSayings" 233 (⟨"KindSayings$Proof", "work", "(JII)V"⟩) ∈ Gd := Gd_3 106 rfl rfl
set_option maxRecDepth 8000 in
theorem w_652 : Cond.instanceMethod (⟨"KindSayings$Proof", "work", "(JII)V"⟩) ∈ Gd := Gd_3 107 rfl rfl
set_option maxRecDepth 8000 in
theorem w_653 : Cond.selects "KindSayings$Proof" (⟨"KindSayings$Proof", "work", "(JII)V"⟩) (⟨"KindSayings$Proof", "work", "(JII)V"⟩) ∈ Gd := Gd_3 108 rfl rfl
set_option maxRecDepth 8000 in
theorem w_654 : Cond.code (⟨"KindSayings$Proof", "work", "(JII)V"⟩) prog_3_method_2_code 7 none ∈ Gd := Gd_3 109 rfl rfl
set_option maxRecDepth 8000 in
theorem w_656 : Cond.methodLink "KindSayings$Proof" 33 (⟨"KindSayings$Proof", "isSame", "(I)Z"⟩) ∈ Gd := Gd_3 111 rfl rfl
set_option maxRecDepth 8000 in
theorem w_658 : Cond.instanceMethod (⟨"KindSayings$Proof", "isSame", "(I)Z"⟩) ∈ Gd := Gd_3 113 rfl rfl
set_option maxRecDepth 8000 in
theorem w_659 : Cond.code (⟨"KindSayings$Proof", "isSame", "(I)Z"⟩) prog_3_method_6_code 2 (Option.some FieldType.boolean) ∈ Gd := Gd_3 114 rfl rfl
set_option maxRecDepth 8000 in
theorem w_660 : Cond.methodLink "KindSayings$Proof" 50 (⟨"KindSayings$Proof", "isOfKinds", "(I)Z"⟩) ∈ Gd := Gd_3 115 rfl rfl
set_option maxRecDepth 8000 in
theorem w_662 : Cond.instanceMethod (⟨"KindSayings$Proof", "isOfKinds", "(I)Z"⟩) ∈ Gd := Gd_3 117 rfl rfl
set_option maxRecDepth 8000 in
theorem w_663 : Cond.code (⟨"KindSayings$Proof", "isOfKinds", "(I)Z"⟩) prog_3_method_5_code 2 (Option.some FieldType.boolean) ∈ Gd := Gd_3 118 rfl rfl
set_option maxRecDepth 8000 in
theorem w_664 : Cond.methodLink "KindSayings$Proof" 37 (⟨"KindSayings$Proof", "isTold", "(I)Z"⟩) ∈ Gd := Gd_3 119 rfl rfl
set_option maxRecDepth 8000 in
theorem w_666 : Cond.instanceMethod (⟨"KindSayings$Proof", "isTold", "(I)Z"⟩) ∈ Gd := Gd_3 121 rfl rfl
set_option maxRecDepth 8000 in
theorem w_667 : Cond.code (⟨"KindSayings$Proof", "isTold", "(I)Z"⟩) prog_3_method_4_code 2 (Option.some FieldType.boolean) ∈ Gd := Gd_3 122 rfl rfl
set_option maxRecDepth 8000 in
theorem w_668 : Cond.methodLink "KindSayings$Proof" 40 (⟨"KindSayings$Proof", "factsAhead", "(I)J"⟩) ∈ Gd := Gd_3 123 rfl rfl
set_option maxRecDepth 8000 in
theorem w_670 : Cond.instanceMethod (⟨"KindSayings$Proof", "factsAhead", "(I)J"⟩) ∈ Gd := Gd_3 125 rfl rfl
set_option maxRecDepth 8000 in
theorem w_671 : Cond.code (⟨"KindSayings$Proof", "factsAhead", "(I)J"⟩) prog_3_method_9_code 5 (Option.some FieldType.long) ∈ Gd := Gd_3 126 rfl rfl
set_option maxRecDepth 8000 in
theorem w_672 : Cond.methodLink "KindSayings$Proof" 47 (⟨"KindSayings$Proof", "isAnyComing", "(I)Z"⟩) ∈ Gd := Gd_3 127 rfl rfl
set_option maxRecDepth 8000 in
theorem w_674 : Cond.instanceMethod (⟨"KindSayings$Proof", "isAnyComing", "(I)Z"⟩) ∈ Gd := Gd_3 129 rfl rfl
set_option maxRecDepth 8000 in
theorem w_675 : Cond.code (⟨"KindSayings$Proof", "isAnyComing", "(I)Z"⟩) prog_3_method_3_code 4 (Option.some FieldType.boolean) ∈ Gd := Gd_3 130 rfl rfl
set_option maxRecDepth 8000 in
theorem w_676 : Cond.methodLink "KindSayings$Proof" 53 (⟨"KindSayings$Proof", "leastMood", "(I)I"⟩) ∈ Gd := Gd_3 131 rfl rfl
set_option maxRecDepth 8000 in
theorem w_678 : Cond.instanceMethod (⟨"KindSayings$Proof", "leastMood", "(I)I"⟩) ∈ Gd := Gd_3 133 rfl rfl
set_option maxRecDepth 8000 in
theorem w_679 : Cond.code (⟨"KindSayings$Proof", "leastMood", "(I)I"⟩) prog_3_method_11_code 4 (Option.some FieldType.int) ∈ Gd := Gd_3 134 rfl rfl
set_option maxRecDepth 8000 in
theorem w_682 : Cond.methodLink "KindSayings$Proof" 69 (⟨"KindSayings$Proof", "isShowing", "(III)Z"⟩) ∈ Gd := Gd_3 137 rfl rfl
set_option maxRecDepth 8000 in
theorem w_684 : Cond.instanceMethod (⟨"KindSayings$Proof", "isShowing", "(III)Z"⟩) ∈ Gd := Gd_3 139 rfl rfl
set_option maxRecDepth 8000 in
theorem w_685 : Cond.code (⟨"KindSayings$Proof", "isShowing", "(III)Z"⟩) prog_3_method_12_code 9 (Option.some FieldType.boolean) ∈ Gd := Gd_3 140 rfl rfl
set_option maxRecDepth 8000 in
theorem w_691 : Cond.methodLink "KindSayings$Proof" 83 (⟨"KindSayings$Proof", "isShownOf", "(II)Z"⟩) ∈ Gd := Gd_3 146 rfl rfl
set_option maxRecDepth 8000 in
theorem w_693 : Cond.instanceMethod (⟨"KindSayings$Proof", "isShownOf", "(II)Z"⟩) ∈ Gd := Gd_3 148 rfl rfl
set_option maxRecDepth 8000 in
theorem w_694 : Cond.code (⟨"KindSayings$Proof", "isShownOf", "(II)Z"⟩) prog_3_method_13_code 5 (Option.some FieldType.boolean) ∈ Gd := Gd_3 149 rfl rfl
set_option maxRecDepth 8000 in
theorem w_695 : Cond.methodLink "KindSayings" 185 (⟨"KindSayings", "factNumber", "(III)I"⟩) ∈ Gd := Gd_3 150 rfl rfl
set_option maxRecDepth 8000 in
theorem w_696 : Cond.methodLink "KindSayings" 189 (⟨"KindSayings$Proof", "roundAt", "(I)I"⟩) ∈ Gd := Gd_3 151 rfl rfl
set_option maxRecDepth 8000 in
theorem w_697 : Cond.instanceMethod (⟨"KindSayings$Proof", "roundAt", "(I)I"⟩) ∈ Gd := Gd_3 152 rfl rfl
set_option maxRecDepth 8000 in
theorem w_698 : Cond.selects "KindSayings$Proof" (⟨"KindSayings$Proof", "roundAt", "(I)I"⟩) (⟨"KindSayings$Proof", "roundAt", "(I)I"⟩) ∈ Gd := Gd_3 153 rfl rfl
set_option maxRecDepth 8000 in
theorem w_699 : Cond.code (⟨"KindSayings$Proof", "roundAt", "(I)I"⟩) prog_3_method_7_code 2 (Option.some FieldType.int) ∈ Gd := Gd_3 154 rfl rfl
set_option maxRecDepth 8000 in
theorem w_700 : Cond.methodLink "KindSayingsLaw" 105 (⟨"KindSayings", "by", "(IIIII)I"⟩) ∈ Gd := Gd_3 155 rfl rfl
set_option maxRecDepth 8000 in
theorem w_701 : Cond.instanceMethod (⟨"KindSayings", "by", "(IIIII)I"⟩) ∈ Gd := Gd_3 156 rfl rfl
set_option maxRecDepth 8000 in
theorem w_702 : Cond.selects "KindSayings" (⟨"KindSayings", "by", "(IIIII)I"⟩) (⟨"KindSayings", "by", "(IIIII)I"⟩) ∈ Gd := Gd_3 157 rfl rfl
set_option maxRecDepth 8000 in
theorem w_703 : Cond.code (⟨"KindSayings", "by", "(IIIII)I"⟩) prog_1_method_23_code 6 (Option.some FieldType.int) ∈ Gd := Gd_3 158 rfl rfl
set_option maxRecDepth 8000 in
theorem w_704 : Cond.methodLink "KindSayings" 192 (⟨"KindSayings$Proof", "step", "(II)I"⟩) ∈ Gd := Gd_3 159 rfl rfl
set_option maxRecDepth 8000 in
theorem w_705 : Cond.instanceMethod (⟨"KindSayings$Proof", "step", "(II)I"⟩) ∈ Gd := Gd_3 160 rfl rfl
set_option maxRecDepth 8000 in
theorem w_706 : Cond.selects "KindSayings$Proof" (⟨"KindSayings$Proof", "step", "(II)I"⟩) (⟨"KindSayings$Proof", "step", "(II)I"⟩) ∈ Gd := Gd_3 161 rfl rfl
set_option maxRecDepth 8000 in
theorem w_707 : Cond.code (⟨"KindSayings$Proof", "step", "(II)I"⟩) prog_3_method_10_code 5 (Option.some FieldType.int) ∈ Gd := Gd_3 162 rfl rfl
set_option maxRecDepth 8000 in
theorem w_708 : Cond.methodLink "KindSayings$Proof" 57 (⟨"KindSayings$Proof", "roundAt", "(I)I"⟩) ∈ Gd := Gd_3 163 rfl rfl
set_option maxRecDepth 8000 in
theorem w_709 : Cond.methodLink "KindSayingsLaw" 110 (⟨"KindSayings", "shown", "(II)I"⟩) ∈ Gd := Gd_3 164 rfl rfl
set_option maxRecDepth 8000 in
theorem w_710 : Cond.instanceMethod (⟨"KindSayings", "shown", "(II)I"⟩) ∈ Gd := Gd_3 165 rfl rfl
set_option maxRecDepth 8000 in
theorem w_711 : Cond.selects "KindSayings" (⟨"KindSayings", "shown", "(II)I"⟩) (⟨"KindSayings", "shown", "(II)I"⟩) ∈ Gd := Gd_3 166 rfl rfl
set_option maxRecDepth 8000 in
theorem w_712 : Cond.code (⟨"KindSayings", "shown", "(II)I"⟩) prog_1_method_24_code 5 (Option.some FieldType.int) ∈ Gd := Gd_3 167 rfl rfl
set_option maxRecDepth 8000 in
theorem w_713 : Cond.methodLink "KindSayings" 195 (⟨"KindSayings$Proof", "facts", "()J"⟩) ∈ Gd := Gd_3 168 rfl rfl
set_option maxRecDepth 8000 in
theorem w_714 : Cond.instanceMethod (⟨"KindSayings$Proof", "facts", "()J"⟩) ∈ Gd := Gd_3 169 rfl rfl
set_option maxRecDepth 8000 in
theorem w_715 : Cond.selects "KindSayings$Proof" (⟨"KindSayings$Proof", "facts", "()J"⟩) (⟨"KindSayings$Proof", "facts", "()J"⟩) ∈ Gd := Gd_3 170 rfl rfl
set_option maxRecDepth 8000 in
theorem w_716 : Cond.code (⟨"KindSayings$Proof", "facts", "()J"⟩) prog_3_method_8_code 1 (Option.some FieldType.long) ∈ Gd := Gd_3 171 rfl rfl
set_option maxRecDepth 8000 in
theorem w_717 : Cond.methodLink "KindSayings" 199 (⟨"java/lang/Long", "bitCount", "(J)I"⟩) ∈ Gd := Gd_3 172 rfl rfl
set_option maxRecDepth 8000 in
theorem w_718 : Cond.static (⟨"java/lang/Long", "bitCount", "(J)I"⟩) ∈ Gd := Gd_3 173 rfl rfl
set_option maxRecDepth 8000 in
theorem w_719 : Cond.code (⟨"java/lang/Long", "bitCount", "(J)I"⟩) prog_11_method_50_code 2 (Option.some FieldType.int) ∈ Gd := Gd_3 174 rfl rfl
set_option maxRecDepth 8000 in
theorem w_720 : Cond.constantLong "java/lang/Long" 314 (6148914691236517205 : Int64) ∈ Gd := Gd_3 175 rfl rfl
set_option maxRecDepth 8000 in
theorem w_721 : Cond.constantLong "java/lang/Long" 316 (3689348814741910323 : Int64) ∈ Gd := Gd_3 176 rfl rfl
set_option maxRecDepth 8000 in
theorem w_722 : Cond.constantLong "java/lang/Long" 318 (1085102592571150095 : Int64) ∈ Gd := Gd_3 177 rfl rfl
set_option maxRecDepth 8000 in
theorem w_723 : Cond.methodLink "KindSayings" 207 (⟨"KindSayings", "isQuarrel", "(J)Z"⟩) ∈ Gd := Gd_3 178 rfl rfl
set_option maxRecDepth 8000 in
theorem w_724 : Cond.static (⟨"KindSayings", "isQuarrel", "(J)Z"⟩) ∈ Gd := Gd_3 179 rfl rfl
set_option maxRecDepth 8000 in
theorem w_725 : Cond.code (⟨"KindSayings", "isQuarrel", "(J)Z"⟩) prog_1_method_42_code 10 (Option.some FieldType.boolean) ∈ Gd := Gd_3 180 rfl rfl
set_option maxRecDepth 8000 in
theorem w_726 : Cond.constantLong "KindSayings" 236 (65535 : Int64) ∈ Gd := Gd_3 181 rfl rfl
set_option maxRecDepth 8000 in
theorem w_727 : Cond.methodLink "KindSayings" 211 (⟨"KindSayings$Heaps", "factsOf", "(I)J"⟩) ∈ Gd := Gd_3 182 rfl rfl
set_option maxRecDepth 8000 in
theorem w_728 : Cond.instanceMethod (⟨"KindSayings$Heaps", "factsOf", "(I)J"⟩) ∈ Gd := Gd_3 183 rfl rfl
set_option maxRecDepth 8000 in
theorem w_729 : Cond.selects "KindSayings$Heaps" (⟨"KindSayings$Heaps", "factsOf", "(I)J"⟩) (⟨"KindSayings$Heaps", "factsOf", "(I)J"⟩) ∈ Gd := Gd_3 184 rfl rfl
set_option maxRecDepth 8000 in
theorem w_730 : Cond.code (⟨"KindSayings$Heaps", "factsOf", "(I)J"⟩) prog_2_method_17_code 11 (Option.some FieldType.long) ∈ Gd := Gd_3 185 rfl rfl
set_option maxRecDepth 8000 in
theorem w_731 : Cond.constantLong "KindSayings$Heaps" 113 (-1 : Int64) ∈ Gd := Gd_3 186 rfl rfl
set_option maxRecDepth 8000 in
theorem w_732 : Cond.methodLink "KindSayings$Heaps" 115 (⟨"KindSayings$Walk", "witnessed", "([J)J"⟩) ∈ Gd := Gd_3 187 rfl rfl
set_option maxRecDepth 8000 in
theorem w_733 : Cond.instanceMethod (⟨"KindSayings$Walk", "witnessed", "([J)J"⟩) ∈ Gd := Gd_3 188 rfl rfl
set_option maxRecDepth 8000 in
theorem w_734 : Cond.selects "KindSayings$Walk" (⟨"KindSayings$Walk", "witnessed", "([J)J"⟩) (⟨"KindSayings$Walk", "witnessed", "([J)J"⟩) ∈ Gd := Gd_3 189 rfl rfl
set_option maxRecDepth 8000 in
theorem w_735 : Cond.code (⟨"KindSayings$Walk", "witnessed", "([J)J"⟩) prog_7_method_6_code 6 (Option.some FieldType.long) ∈ Gd := Gd_3 190 rfl rfl
set_option maxRecDepth 8000 in
theorem w_736 : Cond.constantLong "KindSayings$Heaps" 119 (4294901760 : Int64) ∈ Gd := Gd_3 191 rfl rfl
set_option maxRecDepth 8000 in
theorem w_737 : Cond.constantLong "KindSayings$Heaps" 121 (-281474976710656 : Int64) ∈ Gd := Gd_3 192 rfl rfl
set_option maxRecDepth 8000 in
theorem w_738 : Cond.constantLong "KindSayings$Heaps" 123 (-281470681808896 : Int64) ∈ Gd := Gd_3 193 rfl rfl
set_option maxRecDepth 8000 in
theorem w_739 : Cond.methodLink "KindSayings" 215 (⟨"KindSayings", "everyFact", "()J"⟩) ∈ Gd := Gd_3 194 rfl rfl
set_option maxRecDepth 8000 in
theorem w_741 : Cond.instanceMethod (⟨"KindSayings", "everyFact", "()J"⟩) ∈ Gd := Gd_3 196 rfl rfl
set_option maxRecDepth 8000 in
theorem w_742 : Cond.code (⟨"KindSayings", "everyFact", "()J"⟩) prog_1_method_37_code 6 (Option.some FieldType.long) ∈ Gd := Gd_3 197 rfl rfl
set_option maxRecDepth 8000 in
theorem w_743 : Cond.constantLong "KindSayings" 218 (-1 : Int64) ∈ Gd := Gd_3 198 rfl rfl
set_option maxRecDepth 8000 in
theorem w_744 : Cond.methodLink "KindSayingsLaw" 114 (⟨"KindSayings", "count", "(I)I"⟩) ∈ Gd := Gd_3 199 rfl rfl
set_option maxRecDepth 8000 in
theorem w_745 : Cond.instanceMethod (⟨"KindSayings", "count", "(I)I"⟩) ∈ Gd := Gd_3 200 rfl rfl
set_option maxRecDepth 8000 in
theorem w_746 : Cond.selects "KindSayings" (⟨"KindSayings", "count", "(I)I"⟩) (⟨"KindSayings", "count", "(I)I"⟩) ∈ Gd := Gd_3 201 rfl rfl
set_option maxRecDepth 8000 in
theorem w_747 : Cond.code (⟨"KindSayings", "count", "(I)I"⟩) prog_1_method_25_code 2 (Option.some FieldType.int) ∈ Gd := Gd_3 202 rfl rfl
set_option maxRecDepth 8000 in
theorem w_748 : Cond.methodLink "KindSayings" 220 (⟨"KindSayings", "plainSayings", "()I"⟩) ∈ Gd := Gd_3 203 rfl rfl
set_option maxRecDepth 8000 in
theorem w_750 : Cond.instanceMethod (⟨"KindSayings", "plainSayings", "()I"⟩) ∈ Gd := Gd_3 205 rfl rfl
set_option maxRecDepth 8000 in
theorem w_751 : Cond.code (⟨"KindSayings", "plainSayings", "()I"⟩) prog_1_method_36_code 4 (Option.some FieldType.int) ∈ Gd := Gd_3 206 rfl rfl
set_option maxRecDepth 8000 in
theorem w_752 : Cond.classLink "KindSayingsLaw" 10 "KindSayingsModel" ∈ Gd := Gd_3 207 rfl rfl
set_option maxRecDepth 8000 in
theorem w_753 : Cond.instantiable "KindSayingsModel" 29 ∈ Gd := Gd_3 208 rfl rfl
set_option maxRecDepth 8000 in
theorem w_754 : Cond.methodLink "KindSayingsLaw" 12 (⟨"KindSayingsModel", "<init>", "()V"⟩) ∈ Gd := Gd_3 209 rfl rfl
set_option maxRecDepth 8000 in
theorem w_755 : Cond.instanceMethod (⟨"KindSayingsModel", "<init>", "()V"⟩) ∈ Gd := Gd_3 210 rfl rfl
set_option maxRecDepth 8000 in
theorem w_756 : Cond.code (⟨"KindSayingsModel", "<init>", "()V"⟩) prog_9_method_1_code 1 none ∈ Gd := Gd_3 211 rfl rfl
set_option maxRecDepth 8000 in
theorem w_757 : Cond.methodLink "KindSayingsModel" 1 (⟨"java/lang/Object", "<init>", "()V"⟩) ∈ Gd := Gd_3 212 rfl rfl
set_option maxRecDepth 8000 in
theorem w_758 : Cond.methodLink "KindSayingsModel" 54 (⟨"KindSayingsModel", "begins", "()V"⟩) ∈ Gd := Gd_3 213 rfl rfl
set_option maxRecDepth 8000 in
theorem w_760 : Cond.instanceMethod (⟨"KindSayingsModel", "begins", "()V"⟩) ∈ Gd := Gd_3 215 rfl rfl
set_option maxRecDepth 8000 in
theorem w_761 : Cond.code (⟨"KindSayingsModel", "begins", "()V"⟩) prog_9_method_6_code 2 none ∈ Gd := Gd_3 216 rfl rfl
set_option maxRecDepth 8000 in
theorem w_762 : Cond.methodLink "KindSayingsModel" 64 (⟨"KindSayingsModel", "of", "(I)I"⟩) ∈ Gd := Gd_3 217 rfl rfl
set_option maxRecDepth 8000 in
theorem w_764 : Cond.instanceMethod (⟨"KindSayingsModel", "of", "(I)I"⟩) ∈ Gd := Gd_3 219 rfl rfl
set_option maxRecDepth 8000 in
theorem w_765 : Cond.code (⟨"KindSayingsModel", "of", "(I)I"⟩) prog_9_method_5_code 4 (Option.some FieldType.int) ∈ Gd := Gd_3 220 rfl rfl
set_option maxRecDepth 8000 in
theorem w_766 : Cond.methodLink "KindSayingsModel" 60 (⟨"KindSayingsModel", "sorts", "()I"⟩) ∈ Gd := Gd_3 221 rfl rfl
set_option maxRecDepth 8000 in
theorem w_768 : Cond.instanceMethod (⟨"KindSayingsModel", "sorts", "()I"⟩) ∈ Gd := Gd_3 223 rfl rfl
set_option maxRecDepth 8000 in
theorem w_769 : Cond.code (⟨"KindSayingsModel", "sorts", "()I"⟩) prog_9_method_4_code 1 (Option.some FieldType.int) ∈ Gd := Gd_3 224 rfl rfl
set_option maxRecDepth 8000 in
theorem w_770 : Cond.fieldLink "KindSayingsModel" 57 "KindSayingsModel" "thrown" "I" ∈ Gd := Gd_3 225 rfl rfl
set_option maxRecDepth 8000 in
theorem w_771 : Cond.fieldLink "KindSayingsModel" 7 "KindSayingsModel" "k" "I" ∈ Gd := Gd_3 226 rfl rfl
set_option maxRecDepth 8000 in
theorem w_772 : Cond.fieldLink "KindSayingsModel" 13 "KindSayingsModel" "n" "I" ∈ Gd := Gd_3 227 rfl rfl
set_option maxRecDepth 8000 in
theorem w_773 : Cond.fieldLink "KindSayingsModel" 16 "KindSayingsModel" "moods" "I" ∈ Gd := Gd_3 228 rfl rfl
set_option maxRecDepth 8000 in
theorem w_774 : Cond.fieldLink "KindSayingsModel" 19 "KindSayingsModel" "world" "[I" ∈ Gd := Gd_3 229 rfl rfl
set_option maxRecDepth 8000 in
theorem w_775 : Cond.fieldLink "KindSayingsModel" 23 "KindSayingsModel" "text" "[I" ∈ Gd := Gd_3 230 rfl rfl
set_option maxRecDepth 8000 in
theorem w_776 : Cond.fieldLink "KindSayingsModel" 98 "KindSayingsModel" "typed" "I" ∈ Gd := Gd_3 231 rfl rfl
set_option maxRecDepth 8000 in
theorem w_777 : Cond.fieldLink "KindSayingsModel" 113 "KindSayingsModel" "next" "I" ∈ Gd := Gd_3 232 rfl rfl
set_option maxRecDepth 8000 in
theorem w_778 : Cond.fieldLink "KindSayingsModel" 122 "KindSayingsModel" "token" "I" ∈ Gd := Gd_3 233 rfl rfl
set_option maxRecDepth 8000 in
theorem w_779 : Cond.fieldLink "KindSayingsModel" 119 "KindSayingsModel" "place" "I" ∈ Gd := Gd_3 234 rfl rfl
set_option maxRecDepth 8000 in
theorem w_780 : Cond.fieldLink "KindSayingsModel" 129 "KindSayingsModel" "value" "I" ∈ Gd := Gd_3 235 rfl rfl
set_option maxRecDepth 8000 in
theorem w_781 : Cond.fieldLink "KindSayingsModel" 132 "KindSayingsModel" "fault" "I" ∈ Gd := Gd_3 236 rfl rfl
set_option maxRecDepth 8000 in
theorem w_782 : Cond.fieldLink "KindSayingsModel" 148 "KindSayingsModel" "counted" "I" ∈ Gd := Gd_3 237 rfl rfl
set_option maxRecDepth 8000 in
theorem w_783 : Cond.fieldLink "KindSayingsModel" 26 "KindSayingsModel" "saying" "[I" ∈ Gd := Gd_3 238 rfl rfl
set_option maxRecDepth 8000 in
theorem w_784 : Cond.fieldLink "KindSayingsModel" 29 "KindSayingsModel" "values" "[I" ∈ Gd := Gd_3 239 rfl rfl
set_option maxRecDepth 8000 in
theorem w_785 : Cond.fieldLink "KindSayingsModel" 32 "KindSayingsModel" "signs" "[I" ∈ Gd := Gd_4 0 rfl rfl
set_option maxRecDepth 8000 in
theorem w_786 : Cond.fieldLink "KindSayingsModel" 139 "KindSayingsModel" "alone" "I" ∈ Gd := Gd_4 1 rfl rfl
set_option maxRecDepth 8000 in
theorem w_787 : Cond.fieldLink "KindSayingsModel" 68 "KindSayingsModel" "isLoaded" "Z" ∈ Gd := Gd_4 2 rfl rfl
set_option maxRecDepth 8000 in
theorem w_788 : Cond.fieldLink "KindSayingsModel" 79 "KindSayingsModel" "worlds" "I" ∈ Gd := Gd_4 3 rfl rfl
set_option maxRecDepth 8000 in
theorem w_789 : Cond.fieldLink "KindSayingsModel" 35 "KindSayingsModel" "things" "[I" ∈ Gd := Gd_4 4 rfl rfl
set_option maxRecDepth 8000 in
theorem w_790 : Cond.fieldLink "KindSayingsModel" 38 "KindSayingsModel" "many" "[I" ∈ Gd := Gd_4 5 rfl rfl
set_option maxRecDepth 8000 in
theorem w_791 : Cond.fieldLink "KindSayingsModel" 41 "KindSayingsModel" "order" "[I" ∈ Gd := Gd_4 6 rfl rfl
set_option maxRecDepth 8000 in
theorem w_792 : Cond.fieldLink "KindSayingsModel" 44 "KindSayingsModel" "firsts" "[I" ∈ Gd := Gd_4 7 rfl rfl
set_option maxRecDepth 8000 in
theorem w_793 : Cond.fieldLink "KindSayingsModel" 47 "KindSayingsModel" "facts" "[J" ∈ Gd := Gd_4 8 rfl rfl
set_option maxRecDepth 8000 in
theorem w_794 : Cond.fieldLink "KindSayingsModel" 51 "KindSayingsModel" "round" "[I" ∈ Gd := Gd_4 9 rfl rfl
set_option maxRecDepth 8000 in
theorem w_795 : Cond.fieldLink "KindSayingsModel" 213 "KindSayingsModel" "rounds" "I" ∈ Gd := Gd_4 10 rfl rfl
set_option maxRecDepth 8000 in
theorem w_796 : Cond.fieldLink "KindSayingsModel" 198 "KindSayingsModel" "byMood" "I" ∈ Gd := Gd_4 11 rfl rfl
set_option maxRecDepth 8000 in
theorem w_797 : Cond.fieldLink "KindSayingsModel" 201 "KindSayingsModel" "byFirst" "I" ∈ Gd := Gd_4 12 rfl rfl
set_option maxRecDepth 8000 in
theorem w_798 : Cond.fieldLink "KindSayingsModel" 204 "KindSayingsModel" "bySecond" "I" ∈ Gd := Gd_4 13 rfl rfl
set_option maxRecDepth 8000 in
theorem w_858 : Cond.methodLink "KindSayingsLaw" 17 (⟨"KindSayingsModel", "kinds", "(I)I"⟩) ∈ Gd := Gd_4 73 rfl rfl
set_option maxRecDepth 8000 in
theorem w_859 : Cond.instanceMethod (⟨"KindSayingsModel", "kinds", "(I)I"⟩) ∈ Gd := Gd_4 74 rfl rfl
set_option maxRecDepth 8000 in
theorem w_860 : Cond.selects "KindSayingsModel" (⟨"KindSayingsModel", "kinds", "(I)I"⟩) (⟨"KindSayingsModel", "kinds", "(I)I"⟩) ∈ Gd := Gd_4 75 rfl rfl
set_option maxRecDepth 8000 in
theorem w_861 : Cond.code (⟨"KindSayingsModel", "kinds", "(I)I"⟩) prog_9_method_9_code 3 (Option.some FieldType.int) ∈ Gd := Gd_4 76 rfl rfl
set_option maxRecDepth 8000 in
theorem w_862 : Cond.methodLink "KindSayingsModel" 72 (⟨"KindSayingsModel", "in", "(III)Z"⟩) ∈ Gd := Gd_4 77 rfl rfl
set_option maxRecDepth 8000 in
theorem w_863 : Cond.static (⟨"KindSayingsModel", "in", "(III)Z"⟩) ∈ Gd := Gd_4 78 rfl rfl
set_option maxRecDepth 8000 in
theorem w_864 : Cond.code (⟨"KindSayingsModel", "in", "(III)Z"⟩) prog_9_method_3_code 3 (Option.some FieldType.boolean) ∈ Gd := Gd_4 79 rfl rfl
set_option maxRecDepth 8000 in
theorem w_865 : Cond.methodLink "KindSayingsLaw" 21 (⟨"KindSayingsModel", "most", "(I)I"⟩) ∈ Gd := Gd_4 80 rfl rfl
set_option maxRecDepth 8000 in
theorem w_866 : Cond.instanceMethod (⟨"KindSayingsModel", "most", "(I)I"⟩) ∈ Gd := Gd_4 81 rfl rfl
set_option maxRecDepth 8000 in
theorem w_867 : Cond.selects "KindSayingsModel" (⟨"KindSayingsModel", "most", "(I)I"⟩) (⟨"KindSayingsModel", "most", "(I)I"⟩) ∈ Gd := Gd_4 82 rfl rfl
set_option maxRecDepth 8000 in
theorem w_868 : Cond.code (⟨"KindSayingsModel", "most", "(I)I"⟩) prog_9_method_10_code 3 (Option.some FieldType.int) ∈ Gd := Gd_4 83 rfl rfl
set_option maxRecDepth 8000 in
theorem w_869 : Cond.methodLink "KindSayingsLaw" 26 (⟨"KindSayingsModel", "worlds", "()I"⟩) ∈ Gd := Gd_4 84 rfl rfl
set_option maxRecDepth 8000 in
theorem w_870 : Cond.instanceMethod (⟨"KindSayingsModel", "worlds", "()I"⟩) ∈ Gd := Gd_4 85 rfl rfl
set_option maxRecDepth 8000 in
theorem w_871 : Cond.selects "KindSayingsModel" (⟨"KindSayingsModel", "worlds", "()I"⟩) (⟨"KindSayingsModel", "worlds", "()I"⟩) ∈ Gd := Gd_4 86 rfl rfl
set_option maxRecDepth 8000 in
theorem w_872 : Cond.code (⟨"KindSayingsModel", "worlds", "()I"⟩) prog_9_method_11_code 1 (Option.some FieldType.int) ∈ Gd := Gd_4 87 rfl rfl
set_option maxRecDepth 8000 in
theorem w_873 : Cond.methodLink "KindSayingsModel" 76 (⟨"KindSayingsModel", "loads", "()V"⟩) ∈ Gd := Gd_4 88 rfl rfl
set_option maxRecDepth 8000 in
theorem w_875 : Cond.instanceMethod (⟨"KindSayingsModel", "loads", "()V"⟩) ∈ Gd := Gd_4 90 rfl rfl
set_option maxRecDepth 8000 in
theorem w_876 : Cond.code (⟨"KindSayingsModel", "loads", "()V"⟩) prog_9_method_37_code 6 none ∈ Gd := Gd_4 91 rfl rfl
set_option maxRecDepth 8000 in
theorem w_877 : Cond.methodLink "KindSayingsModel" 175 (⟨"KindSayingsModel", "takes", "()V"⟩) ∈ Gd := Gd_4 92 rfl rfl
set_option maxRecDepth 8000 in
theorem w_879 : Cond.instanceMethod (⟨"KindSayingsModel", "takes", "()V"⟩) ∈ Gd := Gd_4 94 rfl rfl
set_option maxRecDepth 8000 in
theorem w_880 : Cond.code (⟨"KindSayingsModel", "takes", "()V"⟩) prog_9_method_36_code 5 none ∈ Gd := Gd_4 95 rfl rfl
set_option maxRecDepth 8000 in
theorem w_881 : Cond.methodLink "KindSayingsModel" 94 (⟨"KindSayingsModel", "isSo", "(I[I)Z"⟩) ∈ Gd := Gd_4 96 rfl rfl
set_option maxRecDepth 8000 in
theorem w_883 : Cond.instanceMethod (⟨"KindSayingsModel", "isSo", "(I[I)Z"⟩) ∈ Gd := Gd_4 98 rfl rfl
set_option maxRecDepth 8000 in
theorem w_884 : Cond.code (⟨"KindSayingsModel", "isSo", "(I[I)Z"⟩) prog_9_method_15_code 9 (Option.some FieldType.boolean) ∈ Gd := Gd_4 99 rfl rfl
set_option maxRecDepth 8000 in
theorem w_885 : Cond.methodLink "KindSayingsModel" 86 (⟨"KindSayingsModel", "sizeOf", "(I[I)I"⟩) ∈ Gd := Gd_4 100 rfl rfl
set_option maxRecDepth 8000 in
theorem w_887 : Cond.instanceMethod (⟨"KindSayingsModel", "sizeOf", "(I[I)I"⟩) ∈ Gd := Gd_4 102 rfl rfl
set_option maxRecDepth 8000 in
theorem w_888 : Cond.code (⟨"KindSayingsModel", "sizeOf", "(I[I)I"⟩) prog_9_method_14_code 5 (Option.some FieldType.int) ∈ Gd := Gd_4 103 rfl rfl
set_option maxRecDepth 8000 in
theorem w_889 : Cond.constantLong "KindSayingsModel" 170 (-1 : Int64) ∈ Gd := Gd_4 104 rfl rfl
set_option maxRecDepth 8000 in
theorem w_890 : Cond.methodLink "KindSayingsModel" 172 (⟨"KindSayingsModel", "isFact", "(III)Z"⟩) ∈ Gd := Gd_4 105 rfl rfl
set_option maxRecDepth 8000 in
theorem w_892 : Cond.instanceMethod (⟨"KindSayingsModel", "isFact", "(III)Z"⟩) ∈ Gd := Gd_4 107 rfl rfl
set_option maxRecDepth 8000 in
theorem w_893 : Cond.code (⟨"KindSayingsModel", "isFact", "(III)Z"⟩) prog_9_method_35_code 7 (Option.some FieldType.boolean) ∈ Gd := Gd_4 108 rfl rfl
set_option maxRecDepth 8000 in
theorem w_894 : Cond.methodLink "KindSayingsLaw" 31 (⟨"KindSayingsModel", "put", "(II)I"⟩) ∈ Gd := Gd_4 109 rfl rfl
set_option maxRecDepth 8000 in
theorem w_895 : Cond.instanceMethod (⟨"KindSayingsModel", "put", "(II)I"⟩) ∈ Gd := Gd_4 110 rfl rfl
set_option maxRecDepth 8000 in
theorem w_896 : Cond.selects "KindSayingsModel" (⟨"KindSayingsModel", "put", "(II)I"⟩) (⟨"KindSayingsModel", "put", "(II)I"⟩) ∈ Gd := Gd_4 111 rfl rfl
set_option maxRecDepth 8000 in
theorem w_897 : Cond.code (⟨"KindSayingsModel", "put", "(II)I"⟩) prog_9_method_13_code 4 (Option.some FieldType.int) ∈ Gd := Gd_4 112 rfl rfl
set_option maxRecDepth 8000 in
theorem w_898 : Cond.methodLink "KindSayingsModel" 82 (⟨"KindSayingsModel", "all", "([I)I"⟩) ∈ Gd := Gd_4 113 rfl rfl
set_option maxRecDepth 8000 in
theorem w_900 : Cond.instanceMethod (⟨"KindSayingsModel", "all", "([I)I"⟩) ∈ Gd := Gd_4 115 rfl rfl
set_option maxRecDepth 8000 in
theorem w_901 : Cond.code (⟨"KindSayingsModel", "all", "([I)I"⟩) prog_9_method_12_code 4 (Option.some FieldType.int) ∈ Gd := Gd_4 116 rfl rfl
set_option maxRecDepth 8000 in
theorem w_902 : Cond.methodLink "KindSayingsLaw" 35 (⟨"KindSayingsModel", "holds", "(I)I"⟩) ∈ Gd := Gd_4 117 rfl rfl
set_option maxRecDepth 8000 in
theorem w_903 : Cond.instanceMethod (⟨"KindSayingsModel", "holds", "(I)I"⟩) ∈ Gd := Gd_4 118 rfl rfl
set_option maxRecDepth 8000 in
theorem w_904 : Cond.selects "KindSayingsModel" (⟨"KindSayingsModel", "holds", "(I)I"⟩) (⟨"KindSayingsModel", "holds", "(I)I"⟩) ∈ Gd := Gd_4 119 rfl rfl
set_option maxRecDepth 8000 in
theorem w_905 : Cond.code (⟨"KindSayingsModel", "holds", "(I)I"⟩) prog_9_method_16_code 2 (Option.some FieldType.int) ∈ Gd := Gd_4 120 rfl rfl
set_option maxRecDepth 8000 in
theorem w_906 : Cond.methodLink "KindSayingsModel" 90 (⟨"KindSayingsModel", "isSaying", "(I)Z"⟩) ∈ Gd := Gd_4 121 rfl rfl
set_option maxRecDepth 8000 in
theorem w_907 : Cond.static (⟨"KindSayingsModel", "isSaying", "(I)Z"⟩) ∈ Gd := Gd_4 122 rfl rfl
set_option maxRecDepth 8000 in
theorem w_908 : Cond.code (⟨"KindSayingsModel", "isSaying", "(I)Z"⟩) prog_9_method_7_code 1 (Option.some FieldType.boolean) ∈ Gd := Gd_4 123 rfl rfl
set_option maxRecDepth 8000 in
theorem w_909 : Cond.methodLink "KindSayingsLaw" 39 (⟨"KindSayingsModel", "size", "(II)I"⟩) ∈ Gd := Gd_4 124 rfl rfl
set_option maxRecDepth 8000 in
theorem w_910 : Cond.instanceMethod (⟨"KindSayingsModel", "size", "(II)I"⟩) ∈ Gd := Gd_4 125 rfl rfl
set_option maxRecDepth 8000 in
theorem w_911 : Cond.selects "KindSayingsModel" (⟨"KindSayingsModel", "size", "(II)I"⟩) (⟨"KindSayingsModel", "size", "(II)I"⟩) ∈ Gd := Gd_4 126 rfl rfl
set_option maxRecDepth 8000 in
theorem w_912 : Cond.code (⟨"KindSayingsModel", "size", "(II)I"⟩) prog_9_method_17_code 5 (Option.some FieldType.int) ∈ Gd := Gd_4 127 rfl rfl
set_option maxRecDepth 8000 in
theorem w_913 : Cond.methodLink "KindSayingsLaw" 46 (⟨"KindSayingsModel", "type", "(JI)I"⟩) ∈ Gd := Gd_4 128 rfl rfl
set_option maxRecDepth 8000 in
theorem w_914 : Cond.instanceMethod (⟨"KindSayingsModel", "type", "(JI)I"⟩) ∈ Gd := Gd_4 129 rfl rfl
set_option maxRecDepth 8000 in
theorem w_915 : Cond.selects "KindSayingsModel" (⟨"KindSayingsModel", "type", "(JI)I"⟩) (⟨"KindSayingsModel", "type", "(JI)I"⟩) ∈ Gd := Gd_4 130 rfl rfl
set_option maxRecDepth 8000 in
theorem w_916 : Cond.code (⟨"KindSayingsModel", "type", "(JI)I"⟩) prog_9_method_18_code 5 (Option.some FieldType.int) ∈ Gd := Gd_4 131 rfl rfl
set_option maxRecDepth 8000 in
theorem w_917 : Cond.constantLong "KindSayingsModel" 101 (255 : Int64) ∈ Gd := Gd_4 132 rfl rfl
set_option maxRecDepth 8000 in
theorem w_918 : Cond.methodLink "KindSayingsLaw" 50 (⟨"KindSayingsModel", "clear", "()I"⟩) ∈ Gd := Gd_4 133 rfl rfl
set_option maxRecDepth 8000 in
theorem w_919 : Cond.instanceMethod (⟨"KindSayingsModel", "clear", "()I"⟩) ∈ Gd := Gd_4 134 rfl rfl
set_option maxRecDepth 8000 in
theorem w_920 : Cond.selects "KindSayingsModel" (⟨"KindSayingsModel", "clear", "()I"⟩) (⟨"KindSayingsModel", "clear", "()I"⟩) ∈ Gd := Gd_4 135 rfl rfl
set_option maxRecDepth 8000 in
theorem w_921 : Cond.code (⟨"KindSayingsModel", "clear", "()I"⟩) prog_9_method_19_code 2 (Option.some FieldType.int) ∈ Gd := Gd_4 136 rfl rfl
set_option maxRecDepth 8000 in
theorem w_922 : Cond.methodLink "KindSayingsLaw" 54 (⟨"KindSayingsModel", "read", "(I)I"⟩) ∈ Gd := Gd_4 137 rfl rfl
set_option maxRecDepth 8000 in
theorem w_923 : Cond.instanceMethod (⟨"KindSayingsModel", "read", "(I)I"⟩) ∈ Gd := Gd_4 138 rfl rfl
set_option maxRecDepth 8000 in
theorem w_924 : Cond.selects "KindSayingsModel" (⟨"KindSayingsModel", "read", "(I)I"⟩) (⟨"KindSayingsModel", "read", "(I)I"⟩) ∈ Gd := Gd_4 139 rfl rfl
set_option maxRecDepth 8000 in
theorem w_925 : Cond.code (⟨"KindSayingsModel", "read", "(I)I"⟩) prog_9_method_33_code 11 (Option.some FieldType.int) ∈ Gd := Gd_4 140 rfl rfl
set_option maxRecDepth 8000 in
theorem w_926 : Cond.methodLink "KindSayingsModel" 154 (⟨"KindSayingsModel", "advances", "()V"⟩) ∈ Gd := Gd_4 141 rfl rfl
set_option maxRecDepth 8000 in
theorem w_928 : Cond.instanceMethod (⟨"KindSayingsModel", "advances", "()V"⟩) ∈ Gd := Gd_4 143 rfl rfl
set_option maxRecDepth 8000 in
theorem w_929 : Cond.code (⟨"KindSayingsModel", "advances", "()V"⟩) prog_9_method_24_code 5 none ∈ Gd := Gd_4 144 rfl rfl
set_option maxRecDepth 8000 in
theorem w_930 : Cond.methodLink "KindSayingsModel" 116 (⟨"KindSayingsModel", "byteAt", "(I)I"⟩) ∈ Gd := Gd_4 145 rfl rfl
set_option maxRecDepth 8000 in
theorem w_932 : Cond.instanceMethod (⟨"KindSayingsModel", "byteAt", "(I)I"⟩) ∈ Gd := Gd_4 147 rfl rfl
set_option maxRecDepth 8000 in
theorem w_933 : Cond.code (⟨"KindSayingsModel", "byteAt", "(I)I"⟩) prog_9_method_20_code 2 (Option.some FieldType.int) ∈ Gd := Gd_4 148 rfl rfl
set_option maxRecDepth 8000 in
theorem w_934 : Cond.methodLink "KindSayingsModel" 105 (⟨"KindSayingsModel", "add", "(JI)J"⟩) ∈ Gd := Gd_4 149 rfl rfl
set_option maxRecDepth 8000 in
theorem w_935 : Cond.static (⟨"KindSayingsModel", "add", "(JI)J"⟩) ∈ Gd := Gd_4 150 rfl rfl
set_option maxRecDepth 8000 in
theorem w_936 : Cond.code (⟨"KindSayingsModel", "add", "(JI)J"⟩) prog_9_method_21_code 3 (Option.some FieldType.long) ∈ Gd := Gd_4 151 rfl rfl
set_option maxRecDepth 8000 in
theorem w_937 : Cond.constantLong "KindSayingsModel" 103 (256 : Int64) ∈ Gd := Gd_4 152 rfl rfl
set_option maxRecDepth 8000 in
theorem w_938 : Cond.methodLink "KindSayingsModel" 125 (⟨"KindSayingsModel", "wordOf", "(J)I"⟩) ∈ Gd := Gd_4 153 rfl rfl
set_option maxRecDepth 8000 in
theorem w_939 : Cond.static (⟨"KindSayingsModel", "wordOf", "(J)I"⟩) ∈ Gd := Gd_4 154 rfl rfl
set_option maxRecDepth 8000 in
theorem w_940 : Cond.code (⟨"KindSayingsModel", "wordOf", "(J)I"⟩) prog_9_method_23_code 2 (Option.some FieldType.int) ∈ Gd := Gd_4 155 rfl rfl
set_option maxRecDepth 8000 in
theorem w_941 : Cond.methodLink "KindSayingsModel" 109 (⟨"KindSayingsModel", "word", "(IIIII)J"⟩) ∈ Gd := Gd_4 156 rfl rfl
set_option maxRecDepth 8000 in
theorem w_942 : Cond.static (⟨"KindSayingsModel", "word", "(IIIII)J"⟩) ∈ Gd := Gd_4 157 rfl rfl
set_option maxRecDepth 8000 in
theorem w_943 : Cond.code (⟨"KindSayingsModel", "word", "(IIIII)J"⟩) prog_9_method_22_code 5 (Option.some FieldType.long) ∈ Gd := Gd_4 158 rfl rfl
set_option maxRecDepth 8000 in
theorem w_944 : Cond.methodLink "KindSayingsModel" 151 (⟨"KindSayingsModel", "fails", "()V"⟩) ∈ Gd := Gd_4 159 rfl rfl
set_option maxRecDepth 8000 in
theorem w_946 : Cond.instanceMethod (⟨"KindSayingsModel", "fails", "()V"⟩) ∈ Gd := Gd_4 161 rfl rfl
set_option maxRecDepth 8000 in
theorem w_947 : Cond.code (⟨"KindSayingsModel", "fails", "()V"⟩) prog_9_method_26_code 1 none ∈ Gd := Gd_4 162 rfl rfl
set_option maxRecDepth 8000 in
theorem w_948 : Cond.methodLink "KindSayingsModel" 135 (⟨"KindSayingsModel", "isWell", "()Z"⟩) ∈ Gd := Gd_4 163 rfl rfl
set_option maxRecDepth 8000 in
theorem w_950 : Cond.instanceMethod (⟨"KindSayingsModel", "isWell", "()Z"⟩) ∈ Gd := Gd_4 165 rfl rfl
set_option maxRecDepth 8000 in
theorem w_951 : Cond.code (⟨"KindSayingsModel", "isWell", "()Z"⟩) prog_9_method_25_code 1 (Option.some FieldType.boolean) ∈ Gd := Gd_4 166 rfl rfl
set_option maxRecDepth 8000 in
theorem w_952 : Cond.methodLink "KindSayingsModel" 167 (⟨"KindSayingsModel", "side", "()I"⟩) ∈ Gd := Gd_4 167 rfl rfl
set_option maxRecDepth 8000 in
theorem w_954 : Cond.instanceMethod (⟨"KindSayingsModel", "side", "()I"⟩) ∈ Gd := Gd_4 169 rfl rfl
set_option maxRecDepth 8000 in
theorem w_955 : Cond.code (⟨"KindSayingsModel", "side", "()I"⟩) prog_9_method_30_code 8 (Option.some FieldType.int) ∈ Gd := Gd_4 170 rfl rfl
set_option maxRecDepth 8000 in
theorem w_956 : Cond.methodLink "KindSayingsModel" 142 (⟨"KindSayingsModel", "isSign", "(I)Z"⟩) ∈ Gd := Gd_4 171 rfl rfl
set_option maxRecDepth 8000 in
theorem w_958 : Cond.instanceMethod (⟨"KindSayingsModel", "isSign", "(I)Z"⟩) ∈ Gd := Gd_4 173 rfl rfl
set_option maxRecDepth 8000 in
theorem w_959 : Cond.code (⟨"KindSayingsModel", "isSign", "(I)Z"⟩) prog_9_method_27_code 2 (Option.some FieldType.boolean) ∈ Gd := Gd_4 174 rfl rfl
set_option maxRecDepth 8000 in
theorem w_960 : Cond.methodLink "KindSayingsModel" 145 (⟨"KindSayingsModel", "isKindSign", "()Z"⟩) ∈ Gd := Gd_4 175 rfl rfl
set_option maxRecDepth 8000 in
theorem w_962 : Cond.instanceMethod (⟨"KindSayingsModel", "isKindSign", "()Z"⟩) ∈ Gd := Gd_4 177 rfl rfl
set_option maxRecDepth 8000 in
theorem w_963 : Cond.code (⟨"KindSayingsModel", "isKindSign", "()Z"⟩) prog_9_method_28_code 1 (Option.some FieldType.boolean) ∈ Gd := Gd_4 178 rfl rfl
set_option maxRecDepth 8000 in
theorem w_964 : Cond.methodLink "KindSayingsModel" 157 (⟨"KindSayingsModel", "joins", "(III)I"⟩) ∈ Gd := Gd_4 179 rfl rfl
set_option maxRecDepth 8000 in
theorem w_965 : Cond.static (⟨"KindSayingsModel", "joins", "(III)I"⟩) ∈ Gd := Gd_4 180 rfl rfl
set_option maxRecDepth 8000 in
theorem w_966 : Cond.code (⟨"KindSayingsModel", "joins", "(III)I"⟩) prog_9_method_32_code 3 (Option.some FieldType.int) ∈ Gd := Gd_4 181 rfl rfl
set_option maxRecDepth 8000 in
theorem w_967 : Cond.methodLink "KindSayingsModel" 161 (⟨"KindSayingsModel", "hasOpen", "(I)Z"⟩) ∈ Gd := Gd_4 182 rfl rfl
set_option maxRecDepth 8000 in
theorem w_969 : Cond.instanceMethod (⟨"KindSayingsModel", "hasOpen", "(I)Z"⟩) ∈ Gd := Gd_4 184 rfl rfl
set_option maxRecDepth 8000 in
theorem w_970 : Cond.code (⟨"KindSayingsModel", "hasOpen", "(I)Z"⟩) prog_9_method_31_code 4 (Option.some FieldType.boolean) ∈ Gd := Gd_4 185 rfl rfl
set_option maxRecDepth 8000 in
theorem w_971 : Cond.methodLink "KindSayingsModel" 164 (⟨"KindSayingsModel", "every", "()I"⟩) ∈ Gd := Gd_4 186 rfl rfl
set_option maxRecDepth 8000 in
theorem w_973 : Cond.instanceMethod (⟨"KindSayingsModel", "every", "()I"⟩) ∈ Gd := Gd_4 188 rfl rfl
set_option maxRecDepth 8000 in
theorem w_974 : Cond.code (⟨"KindSayingsModel", "every", "()I"⟩) prog_9_method_29_code 1 (Option.some FieldType.int) ∈ Gd := Gd_4 189 rfl rfl
set_option maxRecDepth 8000 in
theorem w_975 : Cond.methodLink "KindSayingsLaw" 58 (⟨"KindSayingsModel", "about", "(II)I"⟩) ∈ Gd := Gd_4 190 rfl rfl
set_option maxRecDepth 8000 in
theorem w_976 : Cond.instanceMethod (⟨"KindSayingsModel", "about", "(II)I"⟩) ∈ Gd := Gd_4 191 rfl rfl
set_option maxRecDepth 8000 in
theorem w_977 : Cond.selects "KindSayingsModel" (⟨"KindSayingsModel", "about", "(II)I"⟩) (⟨"KindSayingsModel", "about", "(II)I"⟩) ∈ Gd := Gd_4 192 rfl rfl
set_option maxRecDepth 8000 in
theorem w_978 : Cond.code (⟨"KindSayingsModel", "about", "(II)I"⟩) prog_9_method_34_code 3 (Option.some FieldType.int) ∈ Gd := Gd_4 193 rfl rfl
set_option maxRecDepth 8000 in
theorem w_979 : Cond.methodLink "KindSayingsLaw" 62 (⟨"KindSayingsModel", "can", "(I)I"⟩) ∈ Gd := Gd_4 194 rfl rfl
set_option maxRecDepth 8000 in
theorem w_980 : Cond.instanceMethod (⟨"KindSayingsModel", "can", "(I)I"⟩) ∈ Gd := Gd_4 195 rfl rfl
set_option maxRecDepth 8000 in
theorem w_981 : Cond.selects "KindSayingsModel" (⟨"KindSayingsModel", "can", "(I)I"⟩) (⟨"KindSayingsModel", "can", "(I)I"⟩) ∈ Gd := Gd_4 196 rfl rfl
set_option maxRecDepth 8000 in
theorem w_982 : Cond.code (⟨"KindSayingsModel", "can", "(I)I"⟩) prog_9_method_40_code 2 (Option.some FieldType.int) ∈ Gd := Gd_4 197 rfl rfl
set_option maxRecDepth 8000 in
theorem w_983 : Cond.methodLink "KindSayingsModel" 182 (⟨"KindSayingsModel", "isSet", "(I)Z"⟩) ∈ Gd := Gd_4 198 rfl rfl
set_option maxRecDepth 8000 in
theorem w_984 : Cond.static (⟨"KindSayingsModel", "isSet", "(I)Z"⟩) ∈ Gd := Gd_4 199 rfl rfl
set_option maxRecDepth 8000 in
theorem w_985 : Cond.code (⟨"KindSayingsModel", "isSet", "(I)Z"⟩) prog_9_method_8_code 1 (Option.some FieldType.boolean) ∈ Gd := Gd_4 200 rfl rfl
set_option maxRecDepth 8000 in
theorem w_986 : Cond.methodLink "KindSayingsModel" 185 (⟨"KindSayingsModel", "canBe", "(I)I"⟩) ∈ Gd := Gd_4 201 rfl rfl
set_option maxRecDepth 8000 in
theorem w_988 : Cond.instanceMethod (⟨"KindSayingsModel", "canBe", "(I)I"⟩) ∈ Gd := Gd_4 203 rfl rfl
set_option maxRecDepth 8000 in
theorem w_989 : Cond.code (⟨"KindSayingsModel", "canBe", "(I)I"⟩) prog_9_method_39_code 4 (Option.some FieldType.int) ∈ Gd := Gd_4 204 rfl rfl
set_option maxRecDepth 8000 in
theorem w_990 : Cond.methodLink "KindSayingsModel" 178 (⟨"KindSayingsModel", "isIn", "(II)Z"⟩) ∈ Gd := Gd_4 205 rfl rfl
set_option maxRecDepth 8000 in
theorem w_991 : Cond.static (⟨"KindSayingsModel", "isIn", "(II)Z"⟩) ∈ Gd := Gd_4 206 rfl rfl
set_option maxRecDepth 8000 in
theorem w_992 : Cond.code (⟨"KindSayingsModel", "isIn", "(II)Z"⟩) prog_9_method_38_code 2 (Option.some FieldType.boolean) ∈ Gd := Gd_4 207 rfl rfl
set_option maxRecDepth 8000 in
theorem w_993 : Cond.methodLink "KindSayingsLaw" 66 (⟨"KindSayingsModel", "least", "(II)I"⟩) ∈ Gd := Gd_4 208 rfl rfl
set_option maxRecDepth 8000 in
theorem w_994 : Cond.instanceMethod (⟨"KindSayingsModel", "least", "(II)I"⟩) ∈ Gd := Gd_4 209 rfl rfl
set_option maxRecDepth 8000 in
theorem w_995 : Cond.selects "KindSayingsModel" (⟨"KindSayingsModel", "least", "(II)I"⟩) (⟨"KindSayingsModel", "least", "(II)I"⟩) ∈ Gd := Gd_4 210 rfl rfl
set_option maxRecDepth 8000 in
theorem w_996 : Cond.code (⟨"KindSayingsModel", "least", "(II)I"⟩) prog_9_method_43_code 3 (Option.some FieldType.int) ∈ Gd := Gd_4 211 rfl rfl
set_option maxRecDepth 8000 in
theorem w_997 : Cond.methodLink "KindSayingsModel" 188 (⟨"KindSayingsModel", "firstOf", "(II)I"⟩) ∈ Gd := Gd_4 212 rfl rfl
set_option maxRecDepth 8000 in
theorem w_999 : Cond.instanceMethod (⟨"KindSayingsModel", "firstOf", "(II)I"⟩) ∈ Gd := Gd_4 214 rfl rfl
set_option maxRecDepth 8000 in
theorem w_1000 : Cond.code (⟨"KindSayingsModel", "firstOf", "(II)I"⟩) prog_9_method_41_code 6 (Option.some FieldType.int) ∈ Gd := Gd_4 215 rfl rfl
set_option maxRecDepth 8000 in
theorem w_1001 : Cond.methodLink "KindSayingsModel" 192 (⟨"KindSayingsModel", "told", "(II)I"⟩) ∈ Gd := Gd_4 216 rfl rfl
set_option maxRecDepth 8000 in
theorem w_1003 : Cond.instanceMethod (⟨"KindSayingsModel", "told", "(II)I"⟩) ∈ Gd := Gd_4 218 rfl rfl
set_option maxRecDepth 8000 in
theorem w_1004 : Cond.code (⟨"KindSayingsModel", "told", "(II)I"⟩) prog_9_method_42_code 5 (Option.some FieldType.int) ∈ Gd := Gd_4 219 rfl rfl
set_option maxRecDepth 8000 in
theorem w_1005 : Cond.methodLink "KindSayingsLaw" 70 (⟨"KindSayingsModel", "follows", "(II)I"⟩) ∈ Gd := Gd_4 220 rfl rfl
set_option maxRecDepth 8000 in
theorem w_1006 : Cond.instanceMethod (⟨"KindSayingsModel", "follows", "(II)I"⟩) ∈ Gd := Gd_4 221 rfl rfl
set_option maxRecDepth 8000 in
theorem w_1007 : Cond.selects "KindSayingsModel" (⟨"KindSayingsModel", "follows", "(II)I"⟩) (⟨"KindSayingsModel", "follows", "(II)I"⟩) ∈ Gd := Gd_4 222 rfl rfl
set_option maxRecDepth 8000 in
theorem w_1008 : Cond.code (⟨"KindSayingsModel", "follows", "(II)I"⟩) prog_9_method_44_code 3 (Option.some FieldType.int) ∈ Gd := Gd_4 223 rfl rfl
set_option maxRecDepth 8000 in
theorem w_1009 : Cond.methodLink "KindSayingsLaw" 75 (⟨"KindSayingsModel", "against", "(III)I"⟩) ∈ Gd := Gd_4 224 rfl rfl
set_option maxRecDepth 8000 in
theorem w_1010 : Cond.instanceMethod (⟨"KindSayingsModel", "against", "(III)I"⟩) ∈ Gd := Gd_4 225 rfl rfl
set_option maxRecDepth 8000 in
theorem w_1011 : Cond.selects "KindSayingsModel" (⟨"KindSayingsModel", "against", "(III)I"⟩) (⟨"KindSayingsModel", "against", "(III)I"⟩) ∈ Gd := Gd_4 226 rfl rfl
set_option maxRecDepth 8000 in
theorem w_1012 : Cond.code (⟨"KindSayingsModel", "against", "(III)I"⟩) prog_9_method_45_code 4 (Option.some FieldType.int) ∈ Gd := Gd_4 227 rfl rfl
set_option maxRecDepth 8000 in
theorem w_1013 : Cond.methodLink "KindSayingsLaw" 79 (⟨"KindSayingsModel", "unsaid", "(I)I"⟩) ∈ Gd := Gd_4 228 rfl rfl
set_option maxRecDepth 8000 in
theorem w_1014 : Cond.instanceMethod (⟨"KindSayingsModel", "unsaid", "(I)I"⟩) ∈ Gd := Gd_4 229 rfl rfl
set_option maxRecDepth 8000 in
theorem w_1015 : Cond.selects "KindSayingsModel" (⟨"KindSayingsModel", "unsaid", "(I)I"⟩) (⟨"KindSayingsModel", "unsaid", "(I)I"⟩) ∈ Gd := Gd_4 230 rfl rfl
set_option maxRecDepth 8000 in
theorem w_1016 : Cond.code (⟨"KindSayingsModel", "unsaid", "(I)I"⟩) prog_9_method_46_code 4 (Option.some FieldType.int) ∈ Gd := Gd_4 231 rfl rfl
set_option maxRecDepth 8000 in
theorem w_1017 : Cond.methodLink "KindSayingsLaw" 83 (⟨"KindSayingsModel", "clash", "(II)I"⟩) ∈ Gd := Gd_4 232 rfl rfl
set_option maxRecDepth 8000 in
theorem w_1018 : Cond.instanceMethod (⟨"KindSayingsModel", "clash", "(II)I"⟩) ∈ Gd := Gd_4 233 rfl rfl
set_option maxRecDepth 8000 in
theorem w_1019 : Cond.selects "KindSayingsModel" (⟨"KindSayingsModel", "clash", "(II)I"⟩) (⟨"KindSayingsModel", "clash", "(II)I"⟩) ∈ Gd := Gd_4 234 rfl rfl
set_option maxRecDepth 8000 in
theorem w_1020 : Cond.code (⟨"KindSayingsModel", "clash", "(II)I"⟩) prog_9_method_48_code 5 (Option.some FieldType.int) ∈ Gd := Gd_4 235 rfl rfl
set_option maxRecDepth 8000 in
theorem w_1021 : Cond.methodLink "KindSayingsModel" 195 (⟨"KindSayingsModel", "ones", "(I)I"⟩) ∈ Gd := Gd_4 236 rfl rfl
set_option maxRecDepth 8000 in
theorem w_1022 : Cond.static (⟨"KindSayingsModel", "ones", "(I)I"⟩) ∈ Gd := Gd_4 237 rfl rfl
set_option maxRecDepth 8000 in
theorem w_1023 : Cond.code (⟨"KindSayingsModel", "ones", "(I)I"⟩) prog_9_method_47_code 3 (Option.some FieldType.int) ∈ Gd := Gd_4 238 rfl rfl
set_option maxRecDepth 8000 in
theorem w_1024 : Cond.methodLink "KindSayingsLaw" 87 (⟨"KindSayingsModel", "ask", "(I)I"⟩) ∈ Gd := Gd_4 239 rfl rfl
set_option maxRecDepth 8000 in
theorem w_1025 : Cond.instanceMethod (⟨"KindSayingsModel", "ask", "(I)I"⟩) ∈ Gd := Gd_5 0 rfl rfl
set_option maxRecDepth 8000 in
theorem w_1026 : Cond.selects "KindSayingsModel" (⟨"KindSayingsModel", "ask", "(I)I"⟩) (⟨"KindSayingsModel", "ask", "(I)I"⟩) ∈ Gd := Gd_5 1 rfl rfl
set_option maxRecDepth 8000 in
theorem w_1027 : Cond.code (⟨"KindSayingsModel", "ask", "(I)I"⟩) prog_9_method_49_code 8 (Option.some FieldType.int) ∈ Gd := Gd_5 2 rfl rfl
set_option maxRecDepth 8000 in
theorem w_1028 : Cond.methodLink "KindSayingsLaw" 91 (⟨"KindSayingsModel", "heaps", "(I)I"⟩) ∈ Gd := Gd_5 3 rfl rfl
set_option maxRecDepth 8000 in
theorem w_1029 : Cond.instanceMethod (⟨"KindSayingsModel", "heaps", "(I)I"⟩) ∈ Gd := Gd_5 4 rfl rfl
set_option maxRecDepth 8000 in
theorem w_1030 : Cond.selects "KindSayingsModel" (⟨"KindSayingsModel", "heaps", "(I)I"⟩) (⟨"KindSayingsModel", "heaps", "(I)I"⟩) ∈ Gd := Gd_5 5 rfl rfl
set_option maxRecDepth 8000 in
theorem w_1031 : Cond.code (⟨"KindSayingsModel", "heaps", "(I)I"⟩) prog_9_method_50_code 4 (Option.some FieldType.int) ∈ Gd := Gd_5 6 rfl rfl
set_option maxRecDepth 8000 in
theorem w_1032 : Cond.methodLink "KindSayingsLaw" 95 (⟨"KindSayingsModel", "twin", "(I)I"⟩) ∈ Gd := Gd_5 7 rfl rfl
set_option maxRecDepth 8000 in
theorem w_1033 : Cond.instanceMethod (⟨"KindSayingsModel", "twin", "(I)I"⟩) ∈ Gd := Gd_5 8 rfl rfl
set_option maxRecDepth 8000 in
theorem w_1034 : Cond.selects "KindSayingsModel" (⟨"KindSayingsModel", "twin", "(I)I"⟩) (⟨"KindSayingsModel", "twin", "(I)I"⟩) ∈ Gd := Gd_5 9 rfl rfl
set_option maxRecDepth 8000 in
theorem w_1035 : Cond.code (⟨"KindSayingsModel", "twin", "(I)I"⟩) prog_9_method_51_code 5 (Option.some FieldType.int) ∈ Gd := Gd_5 10 rfl rfl
set_option maxRecDepth 8000 in
theorem w_1036 : Cond.methodLink "KindSayingsLaw" 99 (⟨"KindSayingsModel", "moods", "(I)I"⟩) ∈ Gd := Gd_5 11 rfl rfl
set_option maxRecDepth 8000 in
theorem w_1037 : Cond.instanceMethod (⟨"KindSayingsModel", "moods", "(I)I"⟩) ∈ Gd := Gd_5 12 rfl rfl
set_option maxRecDepth 8000 in
theorem w_1038 : Cond.selects "KindSayingsModel" (⟨"KindSayingsModel", "moods", "(I)I"⟩) (⟨"KindSayingsModel", "moods", "(I)I"⟩) ∈ Gd := Gd_5 13 rfl rfl
set_option maxRecDepth 8000 in
theorem w_1039 : Cond.code (⟨"KindSayingsModel", "moods", "(I)I"⟩) prog_9_method_52_code 3 (Option.some FieldType.int) ∈ Gd := Gd_5 14 rfl rfl
set_option maxRecDepth 8000 in
theorem w_1040 : Cond.methodLink "KindSayingsLaw" 104 (⟨"KindSayingsModel", "round", "(IIII)I"⟩) ∈ Gd := Gd_5 15 rfl rfl
set_option maxRecDepth 8000 in
theorem w_1041 : Cond.instanceMethod (⟨"KindSayingsModel", "round", "(IIII)I"⟩) ∈ Gd := Gd_5 16 rfl rfl
set_option maxRecDepth 8000 in
theorem w_1042 : Cond.selects "KindSayingsModel" (⟨"KindSayingsModel", "round", "(IIII)I"⟩) (⟨"KindSayingsModel", "round", "(IIII)I"⟩) ∈ Gd := Gd_5 17 rfl rfl
set_option maxRecDepth 8000 in
theorem w_1043 : Cond.code (⟨"KindSayingsModel", "round", "(IIII)I"⟩) prog_9_method_58_code 5 (Option.some FieldType.int) ∈ Gd := Gd_5 18 rfl rfl
set_option maxRecDepth 8000 in
theorem w_1044 : Cond.methodLink "KindSayingsModel" 220 (⟨"KindSayingsModel", "isAsked", "(IIII)Z"⟩) ∈ Gd := Gd_5 19 rfl rfl
set_option maxRecDepth 8000 in
theorem w_1046 : Cond.instanceMethod (⟨"KindSayingsModel", "isAsked", "(IIII)Z"⟩) ∈ Gd := Gd_5 21 rfl rfl
set_option maxRecDepth 8000 in
theorem w_1047 : Cond.code (⟨"KindSayingsModel", "isAsked", "(IIII)Z"⟩) prog_9_method_57_code 5 (Option.some FieldType.boolean) ∈ Gd := Gd_5 22 rfl rfl
set_option maxRecDepth 8000 in
theorem w_1048 : Cond.methodLink "KindSayingsModel" 224 (⟨"KindSayingsModel", "shows", "(I)V"⟩) ∈ Gd := Gd_5 23 rfl rfl
set_option maxRecDepth 8000 in
theorem w_1050 : Cond.instanceMethod (⟨"KindSayingsModel", "shows", "(I)V"⟩) ∈ Gd := Gd_5 25 rfl rfl
set_option maxRecDepth 8000 in
theorem w_1051 : Cond.code (⟨"KindSayingsModel", "shows", "(I)V"⟩) prog_9_method_56_code 7 none ∈ Gd := Gd_5 26 rfl rfl
set_option maxRecDepth 8000 in
theorem w_1052 : Cond.methodLink "KindSayingsModel" 210 (⟨"KindSayingsModel", "isTold", "(II)Z"⟩) ∈ Gd := Gd_5 27 rfl rfl
set_option maxRecDepth 8000 in
theorem w_1054 : Cond.instanceMethod (⟨"KindSayingsModel", "isTold", "(II)Z"⟩) ∈ Gd := Gd_5 29 rfl rfl
set_option maxRecDepth 8000 in
theorem w_1055 : Cond.code (⟨"KindSayingsModel", "isTold", "(II)Z"⟩) prog_9_method_55_code 5 (Option.some FieldType.boolean) ∈ Gd := Gd_5 30 rfl rfl
set_option maxRecDepth 8000 in
theorem w_1056 : Cond.methodLink "KindSayingsModel" 216 (⟨"KindSayingsModel", "isShown", "(IIIII)Z"⟩) ∈ Gd := Gd_5 31 rfl rfl
set_option maxRecDepth 8000 in
theorem w_1058 : Cond.instanceMethod (⟨"KindSayingsModel", "isShown", "(IIIII)Z"⟩) ∈ Gd := Gd_5 33 rfl rfl
set_option maxRecDepth 8000 in
theorem w_1059 : Cond.code (⟨"KindSayingsModel", "isShown", "(IIIII)Z"⟩) prog_9_method_54_code 11 (Option.some FieldType.boolean) ∈ Gd := Gd_5 34 rfl rfl
set_option maxRecDepth 8000 in
theorem w_1060 : Cond.methodLink "KindSayingsModel" 207 (⟨"KindSayingsModel", "isBy", "(II)Z"⟩) ∈ Gd := Gd_5 35 rfl rfl
set_option maxRecDepth 8000 in
theorem w_1062 : Cond.instanceMethod (⟨"KindSayingsModel", "isBy", "(II)Z"⟩) ∈ Gd := Gd_5 37 rfl rfl
set_option maxRecDepth 8000 in
theorem w_1063 : Cond.code (⟨"KindSayingsModel", "isBy", "(II)Z"⟩) prog_9_method_53_code 3 (Option.some FieldType.boolean) ∈ Gd := Gd_5 38 rfl rfl
set_option maxRecDepth 8000 in
theorem w_1064 : Cond.methodLink "KindSayingsLaw" 109 (⟨"KindSayingsModel", "by", "(IIIII)I"⟩) ∈ Gd := Gd_5 39 rfl rfl
set_option maxRecDepth 8000 in
theorem w_1065 : Cond.instanceMethod (⟨"KindSayingsModel", "by", "(IIIII)I"⟩) ∈ Gd := Gd_5 40 rfl rfl
set_option maxRecDepth 8000 in
theorem w_1066 : Cond.selects "KindSayingsModel" (⟨"KindSayingsModel", "by", "(IIIII)I"⟩) (⟨"KindSayingsModel", "by", "(IIIII)I"⟩) ∈ Gd := Gd_5 41 rfl rfl
set_option maxRecDepth 8000 in
theorem w_1067 : Cond.code (⟨"KindSayingsModel", "by", "(IIIII)I"⟩) prog_9_method_59_code 9 (Option.some FieldType.int) ∈ Gd := Gd_5 42 rfl rfl
set_option maxRecDepth 8000 in
theorem w_1068 : Cond.methodLink "KindSayingsLaw" 113 (⟨"KindSayingsModel", "shown", "(II)I"⟩) ∈ Gd := Gd_5 43 rfl rfl
set_option maxRecDepth 8000 in
theorem w_1069 : Cond.instanceMethod (⟨"KindSayingsModel", "shown", "(II)I"⟩) ∈ Gd := Gd_5 44 rfl rfl
set_option maxRecDepth 8000 in
theorem w_1070 : Cond.selects "KindSayingsModel" (⟨"KindSayingsModel", "shown", "(II)I"⟩) (⟨"KindSayingsModel", "shown", "(II)I"⟩) ∈ Gd := Gd_5 45 rfl rfl
set_option maxRecDepth 8000 in
theorem w_1071 : Cond.code (⟨"KindSayingsModel", "shown", "(II)I"⟩) prog_9_method_60_code 7 (Option.some FieldType.int) ∈ Gd := Gd_5 46 rfl rfl
set_option maxRecDepth 8000 in
theorem w_1072 : Cond.methodLink "KindSayingsLaw" 117 (⟨"KindSayingsModel", "count", "(I)I"⟩) ∈ Gd := Gd_5 47 rfl rfl
set_option maxRecDepth 8000 in
theorem w_1073 : Cond.instanceMethod (⟨"KindSayingsModel", "count", "(I)I"⟩) ∈ Gd := Gd_5 48 rfl rfl
set_option maxRecDepth 8000 in
theorem w_1074 : Cond.selects "KindSayingsModel" (⟨"KindSayingsModel", "count", "(I)I"⟩) (⟨"KindSayingsModel", "count", "(I)I"⟩) ∈ Gd := Gd_5 49 rfl rfl
set_option maxRecDepth 8000 in
theorem w_1075 : Cond.code (⟨"KindSayingsModel", "count", "(I)I"⟩) prog_9_method_61_code 4 (Option.some FieldType.int) ∈ Gd := Gd_5 50 rfl rfl
set_option maxRecDepth 8000 in
theorem w_1076 : Cond.constantLong "KindSayingsLaw" 40 (4294967295 : Int64) ∈ Gd := Gd_5 51 rfl rfl
