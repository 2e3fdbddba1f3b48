section
-- ===== PART A: goes FIRST, ahead of the names: the tables' words, and 'selects' of the private methods out of them =====
/-- a private method of a class that the tables say can be made, by its rows of tables_1 -/
def lw_okq (q : MethodName × Nat) : Prop := (q.1.cls ≠ "java/lang/invoke/MethodHandle" ∧ q.1.cls ≠ "java/lang/invoke/VarHandle") ∧ Cond.instantiable q.1.cls q.2 ∈ tables_1 ∧ Cond.privateMethod q.1 ∈ tables_1 ∧ Cond.instanceMethod q.1 ∈ tables_1
theorem lw_p0 : lw_okq (⟨"HeardWords$Roads", "seekQuickest", "()V"⟩, 2) := ⟨⟨by decide +kernel, by decide +kernel⟩, List.mem_of_getElem? (i := 27) (by decide +kernel), List.mem_of_getElem? (i := 33) (by decide +kernel), List.mem_of_getElem? (i := 34) (by decide +kernel)⟩
theorem lw_p1 : lw_okq (⟨"HeardWords$Roads", "shortenThrough", "(I)V"⟩, 2) := ⟨⟨by decide +kernel, by decide +kernel⟩, List.mem_of_getElem? (i := 27) (by decide +kernel), List.mem_of_getElem? (i := 37) (by decide +kernel), List.mem_of_getElem? (i := 38) (by decide +kernel)⟩
theorem lw_p2 : lw_okq (⟨"HeardWords$Words", "isTooFar", "(IILHeardWords$Roads;)Z"⟩, 13) := ⟨⟨by decide +kernel, by decide +kernel⟩, List.mem_of_getElem? (i := 49) (by decide +kernel), List.mem_of_getElem? (i := 269) (by decide +kernel), List.mem_of_getElem? (i := 270) (by decide +kernel)⟩
theorem lw_p3 : lw_okq (⟨"HeardWords", "mayBeTold", "(IIIII)Z"⟩, 8) := ⟨⟨by decide +kernel, by decide +kernel⟩, List.mem_of_getElem? (i := 19) (by decide +kernel), List.mem_of_getElem? (i := 289) (by decide +kernel), List.mem_of_getElem? (i := 290) (by decide +kernel)⟩
theorem lw_p4 : lw_okq (⟨"HeardWords", "sheetOf", "(I)LHeardWords$Sheet;"⟩, 8) := ⟨⟨by decide +kernel, by decide +kernel⟩, List.mem_of_getElem? (i := 19) (by decide +kernel), List.mem_of_getElem? (i := 312) (by decide +kernel), List.mem_of_getElem? (i := 313) (by decide +kernel)⟩
theorem lw_p5 : lw_okq (⟨"HeardWords", "find", "(I)I"⟩, 8) := ⟨⟨by decide +kernel, by decide +kernel⟩, List.mem_of_getElem? (i := 19) (by decide +kernel), List.mem_of_getElem? (i := 316) (by decide +kernel), List.mem_of_getElem? (i := 317) (by decide +kernel)⟩
theorem lw_p6 : lw_okq (⟨"HeardWords", "lawOf", "(I)LHeardWords$Law;"⟩, 8) := ⟨⟨by decide +kernel, by decide +kernel⟩, List.mem_of_getElem? (i := 19) (by decide +kernel), List.mem_of_getElem? (i := 337) (by decide +kernel), List.mem_of_getElem? (i := 338) (by decide +kernel)⟩
theorem lw_p7 : lw_okq (⟨"HeardWords$Law", "understand", "()V"⟩, 7) := ⟨⟨by decide +kernel, by decide +kernel⟩, List.mem_of_getElem? (i := 116) (by decide +kernel), List.mem_of_getElem? (i := 345) (by decide +kernel), List.mem_of_getElem? (i := 346) (by decide +kernel)⟩
theorem lw_p8 : lw_okq (⟨"HeardWords$Law", "seekFault", "()I"⟩, 7) := ⟨⟨by decide +kernel, by decide +kernel⟩, List.mem_of_getElem? (i := 116) (by decide +kernel), List.mem_of_getElem? (i := 349) (by decide +kernel), List.mem_of_getElem? (i := 350) (by decide +kernel)⟩
theorem lw_p9 : lw_okq (⟨"HeardWords$Law", "fits", "(I)Z"⟩, 7) := ⟨⟨by decide +kernel, by decide +kernel⟩, List.mem_of_getElem? (i := 116) (by decide +kernel), List.mem_of_getElem? (i := 353) (by decide +kernel), List.mem_of_getElem? (i := 354) (by decide +kernel)⟩
theorem lw_p10 : lw_okq (⟨"HeardWords$Law", "takePart", "(II)V"⟩, 7) := ⟨⟨by decide +kernel, by decide +kernel⟩, List.mem_of_getElem? (i := 116) (by decide +kernel), List.mem_of_getElem? (i := 470) (by decide +kernel), List.mem_of_getElem? (i := 471) (by decide +kernel)⟩
theorem lw_p11 : lw_okq (⟨"HeardWords$Hearing", "isAble", "(LHeardWords$Law;I)Z"⟩, 4) := ⟨⟨by decide +kernel, by decide +kernel⟩, List.mem_of_getElem? (i := 158) (by decide +kernel), List.mem_of_getElem? (i := 511) (by decide +kernel), List.mem_of_getElem? (i := 512) (by decide +kernel)⟩
theorem lw_p12 : lw_okq (⟨"HeardWords$Hearing", "quarrel", "(LHeardWords$Law;I)V"⟩, 4) := ⟨⟨by decide +kernel, by decide +kernel⟩, List.mem_of_getElem? (i := 158) (by decide +kernel), List.mem_of_getElem? (i := 516) (by decide +kernel), List.mem_of_getElem? (i := 517) (by decide +kernel)⟩
theorem lw_p13 : lw_okq (⟨"HeardWords$Hearing", "fallen", "(LHeardWords$Law;II)I"⟩, 4) := ⟨⟨by decide +kernel, by decide +kernel⟩, List.mem_of_getElem? (i := 158) (by decide +kernel), List.mem_of_getElem? (i := 520) (by decide +kernel), List.mem_of_getElem? (i := 521) (by decide +kernel)⟩
theorem lw_p14 : lw_okq (⟨"HeardWords$Hearing", "beElsewhere", "(LHeardWords$Law;I)V"⟩, 4) := ⟨⟨by decide +kernel, by decide +kernel⟩, List.mem_of_getElem? (i := 158) (by decide +kernel), List.mem_of_getElem? (i := 524) (by decide +kernel), List.mem_of_getElem? (i := 525) (by decide +kernel)⟩
theorem lw_p15 : lw_okq (⟨"HeardWords$Hearing", "undo", "(LHeardWords$Law;I)V"⟩, 4) := ⟨⟨by decide +kernel, by decide +kernel⟩, List.mem_of_getElem? (i := 158) (by decide +kernel), List.mem_of_getElem? (i := 528) (by decide +kernel), List.mem_of_getElem? (i := 529) (by decide +kernel)⟩
def lw_privs_1 : List (MethodName × Nat) := [(⟨"HeardWords$Roads", "seekQuickest", "()V"⟩, 2), (⟨"HeardWords$Roads", "shortenThrough", "(I)V"⟩, 2), (⟨"HeardWords$Words", "isTooFar", "(IILHeardWords$Roads;)Z"⟩, 13), (⟨"HeardWords", "mayBeTold", "(IIIII)Z"⟩, 8), (⟨"HeardWords", "sheetOf", "(I)LHeardWords$Sheet;"⟩, 8), (⟨"HeardWords", "find", "(I)I"⟩, 8), (⟨"HeardWords", "lawOf", "(I)LHeardWords$Law;"⟩, 8), (⟨"HeardWords$Law", "understand", "()V"⟩, 7), (⟨"HeardWords$Law", "seekFault", "()I"⟩, 7), (⟨"HeardWords$Law", "fits", "(I)Z"⟩, 7), (⟨"HeardWords$Law", "takePart", "(II)V"⟩, 7), (⟨"HeardWords$Hearing", "isAble", "(LHeardWords$Law;I)Z"⟩, 4), (⟨"HeardWords$Hearing", "quarrel", "(LHeardWords$Law;I)V"⟩, 4), (⟨"HeardWords$Hearing", "fallen", "(LHeardWords$Law;II)I"⟩, 4), (⟨"HeardWords$Hearing", "beElsewhere", "(LHeardWords$Law;I)V"⟩, 4), (⟨"HeardWords$Hearing", "undo", "(LHeardWords$Law;I)V"⟩, 4)]
theorem lw_r1 : ∀ q ∈ lw_privs_1, lw_okq q := List.forall_mem_cons.mpr ⟨lw_p0, List.forall_mem_cons.mpr ⟨lw_p1, List.forall_mem_cons.mpr ⟨lw_p2, List.forall_mem_cons.mpr ⟨lw_p3, List.forall_mem_cons.mpr ⟨lw_p4, List.forall_mem_cons.mpr ⟨lw_p5, List.forall_mem_cons.mpr ⟨lw_p6, List.forall_mem_cons.mpr ⟨lw_p7, List.forall_mem_cons.mpr ⟨lw_p8, List.forall_mem_cons.mpr ⟨lw_p9, List.forall_mem_cons.mpr ⟨lw_p10, List.forall_mem_cons.mpr ⟨lw_p11, List.forall_mem_cons.mpr ⟨lw_p12, List.forall_mem_cons.mpr ⟨lw_p13, List.forall_mem_cons.mpr ⟨lw_p14, List.forall_mem_cons.mpr ⟨lw_p15, fun _ h => absurd h List.not_mem_nil⟩⟩⟩⟩⟩⟩⟩⟩⟩⟩⟩⟩⟩⟩⟩⟩
theorem lw_p16 : lw_okq (⟨"HeardWords", "isOrder", "(LHeardWords$Sheet;)Z"⟩, 8) := ⟨⟨by decide +kernel, by decide +kernel⟩, List.mem_of_getElem? (i := 19) (by decide +kernel), List.mem_of_getElem? (i := 540) (by decide +kernel), List.mem_of_getElem? (i := 541) (by decide +kernel)⟩
theorem lw_p17 : lw_okq (⟨"HeardWords$Hearing", "ordersWith", "(LHeardWords$Law;III)I"⟩, 4) := ⟨⟨by decide +kernel, by decide +kernel⟩, List.mem_of_getElem? (i := 158) (by decide +kernel), List.mem_of_getElem? (i := 562) (by decide +kernel), List.mem_of_getElem? (i := 563) (by decide +kernel)⟩
theorem lw_p18 : lw_okq (⟨"HeardWords$AtOnce", "meetEarlier", "(LHeardWords$Law;I)V"⟩, 6) := ⟨⟨by decide +kernel, by decide +kernel⟩, List.mem_of_getElem? (i := 178) (by decide +kernel), List.mem_of_getElem? (i := 576) (by decide +kernel), List.mem_of_getElem? (i := 577) (by decide +kernel)⟩
theorem lw_p19 : lw_okq (⟨"HeardWords$AtOnce", "meetFoe", "(III)V"⟩, 6) := ⟨⟨by decide +kernel, by decide +kernel⟩, List.mem_of_getElem? (i := 178) (by decide +kernel), List.mem_of_getElem? (i := 580) (by decide +kernel), List.mem_of_getElem? (i := 581) (by decide +kernel)⟩
theorem lw_p20 : lw_okq (⟨"HeardWords$AtOnce", "strike", "(II)V"⟩, 6) := ⟨⟨by decide +kernel, by decide +kernel⟩, List.mem_of_getElem? (i := 178) (by decide +kernel), List.mem_of_getElem? (i := 584) (by decide +kernel), List.mem_of_getElem? (i := 585) (by decide +kernel)⟩
theorem lw_p21 : lw_okq (⟨"HeardWords$AtOnce", "unionOver", "([II)I"⟩, 6) := ⟨⟨by decide +kernel, by decide +kernel⟩, List.mem_of_getElem? (i := 178) (by decide +kernel), List.mem_of_getElem? (i := 592) (by decide +kernel), List.mem_of_getElem? (i := 593) (by decide +kernel)⟩
theorem lw_p22 : lw_okq (⟨"HeardWords$AtOnce", "unstruckBut", "(I)I"⟩, 6) := ⟨⟨by decide +kernel, by decide +kernel⟩, List.mem_of_getElem? (i := 178) (by decide +kernel), List.mem_of_getElem? (i := 613) (by decide +kernel), List.mem_of_getElem? (i := 614) (by decide +kernel)⟩
theorem lw_p23 : lw_okq (⟨"HeardWords$AtOnce", "hasGreater", "(I)Z"⟩, 6) := ⟨⟨by decide +kernel, by decide +kernel⟩, List.mem_of_getElem? (i := 178) (by decide +kernel), List.mem_of_getElem? (i := 626) (by decide +kernel), List.mem_of_getElem? (i := 627) (by decide +kernel)⟩
theorem lw_p24 : lw_okq (⟨"HeardWords$AtOnce", "isFullSet", "(I)Z"⟩, 6) := ⟨⟨by decide +kernel, by decide +kernel⟩, List.mem_of_getElem? (i := 178) (by decide +kernel), List.mem_of_getElem? (i := 634) (by decide +kernel), List.mem_of_getElem? (i := 635) (by decide +kernel)⟩
theorem lw_p25 : lw_okq (⟨"HeardWords", "isHeardUnlike", "(I)Z"⟩, 8) := ⟨⟨by decide +kernel, by decide +kernel⟩, List.mem_of_getElem? (i := 19) (by decide +kernel), List.mem_of_getElem? (i := 699) (by decide +kernel), List.mem_of_getElem? (i := 700) (by decide +kernel)⟩
theorem lw_p26 : lw_okq (⟨"HeardWords", "digestOfLaw", "(JI)J"⟩, 8) := ⟨⟨by decide +kernel, by decide +kernel⟩, List.mem_of_getElem? (i := 19) (by decide +kernel), List.mem_of_getElem? (i := 766) (by decide +kernel), List.mem_of_getElem? (i := 767) (by decide +kernel)⟩
theorem lw_p27 : lw_okq (⟨"HeardWordsModel", "laysWays", "()V"⟩, 29) := ⟨⟨by decide +kernel, by decide +kernel⟩, List.mem_of_getElem? (i := 777) (by decide +kernel), List.mem_of_getElem? (i := 886) (by decide +kernel), List.mem_of_getElem? (i := 887) (by decide +kernel)⟩
theorem lw_p28 : lw_okq (⟨"HeardWordsModel", "adds", "(IIIII)I"⟩, 29) := ⟨⟨by decide +kernel, by decide +kernel⟩, List.mem_of_getElem? (i := 777) (by decide +kernel), List.mem_of_getElem? (i := 894) (by decide +kernel), List.mem_of_getElem? (i := 895) (by decide +kernel)⟩
theorem lw_p29 : lw_okq (⟨"HeardWordsModel", "meets", "(I)I"⟩, 29) := ⟨⟨by decide +kernel, by decide +kernel⟩, List.mem_of_getElem? (i := 777) (by decide +kernel), List.mem_of_getElem? (i := 905) (by decide +kernel), List.mem_of_getElem? (i := 906) (by decide +kernel)⟩
theorem lw_p30 : lw_okq (⟨"HeardWordsModel", "isWord", "(I)Z"⟩, 29) := ⟨⟨by decide +kernel, by decide +kernel⟩, List.mem_of_getElem? (i := 777) (by decide +kernel), List.mem_of_getElem? (i := 913) (by decide +kernel), List.mem_of_getElem? (i := 914) (by decide +kernel)⟩
theorem lw_p31 : lw_okq (⟨"HeardWordsModel", "laysPossible", "()V"⟩, 29) := ⟨⟨by decide +kernel, by decide +kernel⟩, List.mem_of_getElem? (i := 777) (by decide +kernel), List.mem_of_getElem? (i := 917) (by decide +kernel), List.mem_of_getElem? (i := 918) (by decide +kernel)⟩
def lw_privs_2 : List (MethodName × Nat) := [(⟨"HeardWords", "isOrder", "(LHeardWords$Sheet;)Z"⟩, 8), (⟨"HeardWords$Hearing", "ordersWith", "(LHeardWords$Law;III)I"⟩, 4), (⟨"HeardWords$AtOnce", "meetEarlier", "(LHeardWords$Law;I)V"⟩, 6), (⟨"HeardWords$AtOnce", "meetFoe", "(III)V"⟩, 6), (⟨"HeardWords$AtOnce", "strike", "(II)V"⟩, 6), (⟨"HeardWords$AtOnce", "unionOver", "([II)I"⟩, 6), (⟨"HeardWords$AtOnce", "unstruckBut", "(I)I"⟩, 6), (⟨"HeardWords$AtOnce", "hasGreater", "(I)Z"⟩, 6), (⟨"HeardWords$AtOnce", "isFullSet", "(I)Z"⟩, 6), (⟨"HeardWords", "isHeardUnlike", "(I)Z"⟩, 8), (⟨"HeardWords", "digestOfLaw", "(JI)J"⟩, 8), (⟨"HeardWordsModel", "laysWays", "()V"⟩, 29), (⟨"HeardWordsModel", "adds", "(IIIII)I"⟩, 29), (⟨"HeardWordsModel", "meets", "(I)I"⟩, 29), (⟨"HeardWordsModel", "isWord", "(I)Z"⟩, 29), (⟨"HeardWordsModel", "laysPossible", "()V"⟩, 29)]
theorem lw_r2 : ∀ q ∈ lw_privs_2, lw_okq q := List.forall_mem_cons.mpr ⟨lw_p16, List.forall_mem_cons.mpr ⟨lw_p17, List.forall_mem_cons.mpr ⟨lw_p18, List.forall_mem_cons.mpr ⟨lw_p19, List.forall_mem_cons.mpr ⟨lw_p20, List.forall_mem_cons.mpr ⟨lw_p21, List.forall_mem_cons.mpr ⟨lw_p22, List.forall_mem_cons.mpr ⟨lw_p23, List.forall_mem_cons.mpr ⟨lw_p24, List.forall_mem_cons.mpr ⟨lw_p25, List.forall_mem_cons.mpr ⟨lw_p26, List.forall_mem_cons.mpr ⟨lw_p27, List.forall_mem_cons.mpr ⟨lw_p28, List.forall_mem_cons.mpr ⟨lw_p29, List.forall_mem_cons.mpr ⟨lw_p30, List.forall_mem_cons.mpr ⟨lw_p31, fun _ h => absurd h List.not_mem_nil⟩⟩⟩⟩⟩⟩⟩⟩⟩⟩⟩⟩⟩⟩⟩⟩
theorem lw_p32 : lw_okq (⟨"HeardWordsModel", "isNow", "(II)I"⟩, 29) := ⟨⟨by decide +kernel, by decide +kernel⟩, List.mem_of_getElem? (i := 777) (by decide +kernel), List.mem_of_getElem? (i := 924) (by decide +kernel), List.mem_of_getElem? (i := 925) (by decide +kernel)⟩
theorem lw_p33 : lw_okq (⟨"HeardWordsModel", "all", "()I"⟩, 29) := ⟨⟨by decide +kernel, by decide +kernel⟩, List.mem_of_getElem? (i := 777) (by decide +kernel), List.mem_of_getElem? (i := 932) (by decide +kernel), List.mem_of_getElem? (i := 933) (by decide +kernel)⟩
theorem lw_p34 : lw_okq (⟨"HeardWordsModel", "reads", "(I)V"⟩, 29) := ⟨⟨by decide +kernel, by decide +kernel⟩, List.mem_of_getElem? (i := 777) (by decide +kernel), List.mem_of_getElem? (i := 951) (by decide +kernel), List.mem_of_getElem? (i := 952) (by decide +kernel)⟩
theorem lw_p35 : lw_okq (⟨"HeardWordsModel", "faultOf", "(I)I"⟩, 29) := ⟨⟨by decide +kernel, by decide +kernel⟩, List.mem_of_getElem? (i := 777) (by decide +kernel), List.mem_of_getElem? (i := 955) (by decide +kernel), List.mem_of_getElem? (i := 956) (by decide +kernel)⟩
theorem lw_p36 : lw_okq (⟨"HeardWordsModel", "plain", "(I)V"⟩, 29) := ⟨⟨by decide +kernel, by decide +kernel⟩, List.mem_of_getElem? (i := 777) (by decide +kernel), List.mem_of_getElem? (i := 959) (by decide +kernel), List.mem_of_getElem? (i := 960) (by decide +kernel)⟩
theorem lw_p37 : lw_okq (⟨"HeardWordsModel", "byteAt", "(II)I"⟩, 29) := ⟨⟨by decide +kernel, by decide +kernel⟩, List.mem_of_getElem? (i := 777) (by decide +kernel), List.mem_of_getElem? (i := 963) (by decide +kernel), List.mem_of_getElem? (i := 964) (by decide +kernel)⟩
theorem lw_p38 : lw_okq (⟨"HeardWordsModel", "heardNow", "(II)I"⟩, 29) := ⟨⟨by decide +kernel, by decide +kernel⟩, List.mem_of_getElem? (i := 777) (by decide +kernel), List.mem_of_getElem? (i := 975) (by decide +kernel), List.mem_of_getElem? (i := 976) (by decide +kernel)⟩
theorem lw_p39 : lw_okq (⟨"HeardWordsModel", "hearsAll", "(I)V"⟩, 29) := ⟨⟨by decide +kernel, by decide +kernel⟩, List.mem_of_getElem? (i := 777) (by decide +kernel), List.mem_of_getElem? (i := 979) (by decide +kernel), List.mem_of_getElem? (i := 980) (by decide +kernel)⟩
theorem lw_p40 : lw_okq (⟨"HeardWordsModel", "heardOnes", "()I"⟩, 29) := ⟨⟨by decide +kernel, by decide +kernel⟩, List.mem_of_getElem? (i := 777) (by decide +kernel), List.mem_of_getElem? (i := 983) (by decide +kernel), List.mem_of_getElem? (i := 984) (by decide +kernel)⟩
theorem lw_p41 : lw_okq (⟨"HeardWordsModel", "lines", "(I)V"⟩, 29) := ⟨⟨by decide +kernel, by decide +kernel⟩, List.mem_of_getElem? (i := 777) (by decide +kernel), List.mem_of_getElem? (i := 987) (by decide +kernel), List.mem_of_getElem? (i := 988) (by decide +kernel)⟩
theorem lw_p42 : lw_okq (⟨"HeardWordsModel", "hears", "(I)V"⟩, 29) := ⟨⟨by decide +kernel, by decide +kernel⟩, List.mem_of_getElem? (i := 777) (by decide +kernel), List.mem_of_getElem? (i := 994) (by decide +kernel), List.mem_of_getElem? (i := 995) (by decide +kernel)⟩
theorem lw_p43 : lw_okq (⟨"HeardWordsModel", "quarrel", "(II)Z"⟩, 29) := ⟨⟨by decide +kernel, by decide +kernel⟩, List.mem_of_getElem? (i := 777) (by decide +kernel), List.mem_of_getElem? (i := 1001) (by decide +kernel), List.mem_of_getElem? (i := 1002) (by decide +kernel)⟩
theorem lw_p44 : lw_okq (⟨"HeardWordsModel", "undoes", "(IZ)V"⟩, 29) := ⟨⟨by decide +kernel, by decide +kernel⟩, List.mem_of_getElem? (i := 777) (by decide +kernel), List.mem_of_getElem? (i := 1005) (by decide +kernel), List.mem_of_getElem? (i := 1006) (by decide +kernel)⟩
theorem lw_p45 : lw_okq (⟨"HeardWordsModel", "tells", "(I)I"⟩, 29) := ⟨⟨by decide +kernel, by decide +kernel⟩, List.mem_of_getElem? (i := 777) (by decide +kernel), List.mem_of_getElem? (i := 1009) (by decide +kernel), List.mem_of_getElem? (i := 1010) (by decide +kernel)⟩
theorem lw_p46 : lw_okq (⟨"HeardWordsModel", "headNow", "(I)I"⟩, 29) := ⟨⟨by decide +kernel, by decide +kernel⟩, List.mem_of_getElem? (i := 777) (by decide +kernel), List.mem_of_getElem? (i := 1021) (by decide +kernel), List.mem_of_getElem? (i := 1022) (by decide +kernel)⟩
theorem lw_p47 : lw_okq (⟨"HeardWordsModel", "turns", "()Z"⟩, 29) := ⟨⟨by decide +kernel, by decide +kernel⟩, List.mem_of_getElem? (i := 777) (by decide +kernel), List.mem_of_getElem? (i := 1029) (by decide +kernel), List.mem_of_getElem? (i := 1030) (by decide +kernel)⟩
def lw_privs_3 : List (MethodName × Nat) := [(⟨"HeardWordsModel", "isNow", "(II)I"⟩, 29), (⟨"HeardWordsModel", "all", "()I"⟩, 29), (⟨"HeardWordsModel", "reads", "(I)V"⟩, 29), (⟨"HeardWordsModel", "faultOf", "(I)I"⟩, 29), (⟨"HeardWordsModel", "plain", "(I)V"⟩, 29), (⟨"HeardWordsModel", "byteAt", "(II)I"⟩, 29), (⟨"HeardWordsModel", "heardNow", "(II)I"⟩, 29), (⟨"HeardWordsModel", "hearsAll", "(I)V"⟩, 29), (⟨"HeardWordsModel", "heardOnes", "()I"⟩, 29), (⟨"HeardWordsModel", "lines", "(I)V"⟩, 29), (⟨"HeardWordsModel", "hears", "(I)V"⟩, 29), (⟨"HeardWordsModel", "quarrel", "(II)Z"⟩, 29), (⟨"HeardWordsModel", "undoes", "(IZ)V"⟩, 29), (⟨"HeardWordsModel", "tells", "(I)I"⟩, 29), (⟨"HeardWordsModel", "headNow", "(I)I"⟩, 29), (⟨"HeardWordsModel", "turns", "()Z"⟩, 29)]
theorem lw_r3 : ∀ q ∈ lw_privs_3, lw_okq q := List.forall_mem_cons.mpr ⟨lw_p32, List.forall_mem_cons.mpr ⟨lw_p33, List.forall_mem_cons.mpr ⟨lw_p34, List.forall_mem_cons.mpr ⟨lw_p35, List.forall_mem_cons.mpr ⟨lw_p36, List.forall_mem_cons.mpr ⟨lw_p37, List.forall_mem_cons.mpr ⟨lw_p38, List.forall_mem_cons.mpr ⟨lw_p39, List.forall_mem_cons.mpr ⟨lw_p40, List.forall_mem_cons.mpr ⟨lw_p41, List.forall_mem_cons.mpr ⟨lw_p42, List.forall_mem_cons.mpr ⟨lw_p43, List.forall_mem_cons.mpr ⟨lw_p44, List.forall_mem_cons.mpr ⟨lw_p45, List.forall_mem_cons.mpr ⟨lw_p46, List.forall_mem_cons.mpr ⟨lw_p47, fun _ h => absurd h List.not_mem_nil⟩⟩⟩⟩⟩⟩⟩⟩⟩⟩⟩⟩⟩⟩⟩⟩
theorem lw_p48 : lw_okq (⟨"HeardWordsModel", "meetsAll", "(II)V"⟩, 29) := ⟨⟨by decide +kernel, by decide +kernel⟩, List.mem_of_getElem? (i := 777) (by decide +kernel), List.mem_of_getElem? (i := 1037) (by decide +kernel), List.mem_of_getElem? (i := 1038) (by decide +kernel)⟩
theorem lw_p49 : lw_okq (⟨"HeardWordsModel", "hits", "(III)Z"⟩, 29) := ⟨⟨by decide +kernel, by decide +kernel⟩, List.mem_of_getElem? (i := 777) (by decide +kernel), List.mem_of_getElem? (i := 1041) (by decide +kernel), List.mem_of_getElem? (i := 1042) (by decide +kernel)⟩
theorem lw_p50 : lw_okq (⟨"HeardWordsModel", "isSound", "(I)Z"⟩, 29) := ⟨⟨by decide +kernel, by decide +kernel⟩, List.mem_of_getElem? (i := 777) (by decide +kernel), List.mem_of_getElem? (i := 1049) (by decide +kernel), List.mem_of_getElem? (i := 1050) (by decide +kernel)⟩
theorem lw_p51 : lw_okq (⟨"HeardWordsModel", "answers", "(II)Z"⟩, 29) := ⟨⟨by decide +kernel, by decide +kernel⟩, List.mem_of_getElem? (i := 777) (by decide +kernel), List.mem_of_getElem? (i := 1053) (by decide +kernel), List.mem_of_getElem? (i := 1054) (by decide +kernel)⟩
theorem lw_p52 : lw_okq (⟨"HeardWordsModel", "leastOf", "(I)I"⟩, 29) := ⟨⟨by decide +kernel, by decide +kernel⟩, List.mem_of_getElem? (i := 777) (by decide +kernel), List.mem_of_getElem? (i := 1061) (by decide +kernel), List.mem_of_getElem? (i := 1062) (by decide +kernel)⟩
theorem lw_p53 : lw_okq (⟨"HeardWordsModel", "leastNow", "()I"⟩, 29) := ⟨⟨by decide +kernel, by decide +kernel⟩, List.mem_of_getElem? (i := 777) (by decide +kernel), List.mem_of_getElem? (i := 1065) (by decide +kernel), List.mem_of_getElem? (i := 1066) (by decide +kernel)⟩
theorem lw_p54 : lw_okq (⟨"HeardWordsModel", "fullNow", "(II)I"⟩, 29) := ⟨⟨by decide +kernel, by decide +kernel⟩, List.mem_of_getElem? (i := 777) (by decide +kernel), List.mem_of_getElem? (i := 1073) (by decide +kernel), List.mem_of_getElem? (i := 1074) (by decide +kernel)⟩
theorem lw_p55 : lw_okq (⟨"HeardWordsModel", "laysSounds", "()V"⟩, 29) := ⟨⟨by decide +kernel, by decide +kernel⟩, List.mem_of_getElem? (i := 777) (by decide +kernel), List.mem_of_getElem? (i := 1077) (by decide +kernel), List.mem_of_getElem? (i := 1078) (by decide +kernel)⟩
theorem lw_p56 : lw_okq (⟨"HeardWordsModel", "isFull", "(I)Z"⟩, 29) := ⟨⟨by decide +kernel, by decide +kernel⟩, List.mem_of_getElem? (i := 777) (by decide +kernel), List.mem_of_getElem? (i := 1081) (by decide +kernel), List.mem_of_getElem? (i := 1082) (by decide +kernel)⟩
theorem lw_p57 : lw_okq (⟨"HeardWordsModel", "ringNow", "()I"⟩, 29) := ⟨⟨by decide +kernel, by decide +kernel⟩, List.mem_of_getElem? (i := 777) (by decide +kernel), List.mem_of_getElem? (i := 1093) (by decide +kernel), List.mem_of_getElem? (i := 1094) (by decide +kernel)⟩
theorem lw_p58 : lw_okq (⟨"HeardWordsModel", "hangsNow", "(I)I"⟩, 29) := ⟨⟨by decide +kernel, by decide +kernel⟩, List.mem_of_getElem? (i := 777) (by decide +kernel), List.mem_of_getElem? (i := 1105) (by decide +kernel), List.mem_of_getElem? (i := 1106) (by decide +kernel)⟩
theorem lw_p59 : lw_okq (⟨"HeardWordsModel", "mostNow", "()I"⟩, 29) := ⟨⟨by decide +kernel, by decide +kernel⟩, List.mem_of_getElem? (i := 777) (by decide +kernel), List.mem_of_getElem? (i := 1113) (by decide +kernel), List.mem_of_getElem? (i := 1114) (by decide +kernel)⟩
theorem lw_p60 : lw_okq (⟨"HeardWordsModel", "lacks", "(III)I"⟩, 29) := ⟨⟨by decide +kernel, by decide +kernel⟩, List.mem_of_getElem? (i := 777) (by decide +kernel), List.mem_of_getElem? (i := 1137) (by decide +kernel), List.mem_of_getElem? (i := 1138) (by decide +kernel)⟩
theorem lw_p61 : lw_okq (⟨"HeardWordsModel", "lay", "(III)V"⟩, 29) := ⟨⟨by decide +kernel, by decide +kernel⟩, List.mem_of_getElem? (i := 777) (by decide +kernel), List.mem_of_getElem? (i := 1141) (by decide +kernel), List.mem_of_getElem? (i := 1142) (by decide +kernel)⟩
theorem lw_p62 : lw_okq (⟨"HeardWordsModel", "roadMany", "()I"⟩, 29) := ⟨⟨by decide +kernel, by decide +kernel⟩, List.mem_of_getElem? (i := 777) (by decide +kernel), List.mem_of_getElem? (i := 1162) (by decide +kernel), List.mem_of_getElem? (i := 1163) (by decide +kernel)⟩
def lw_privs_4 : List (MethodName × Nat) := [(⟨"HeardWordsModel", "meetsAll", "(II)V"⟩, 29), (⟨"HeardWordsModel", "hits", "(III)Z"⟩, 29), (⟨"HeardWordsModel", "isSound", "(I)Z"⟩, 29), (⟨"HeardWordsModel", "answers", "(II)Z"⟩, 29), (⟨"HeardWordsModel", "leastOf", "(I)I"⟩, 29), (⟨"HeardWordsModel", "leastNow", "()I"⟩, 29), (⟨"HeardWordsModel", "fullNow", "(II)I"⟩, 29), (⟨"HeardWordsModel", "laysSounds", "()V"⟩, 29), (⟨"HeardWordsModel", "isFull", "(I)Z"⟩, 29), (⟨"HeardWordsModel", "ringNow", "()I"⟩, 29), (⟨"HeardWordsModel", "hangsNow", "(I)I"⟩, 29), (⟨"HeardWordsModel", "mostNow", "()I"⟩, 29), (⟨"HeardWordsModel", "lacks", "(III)I"⟩, 29), (⟨"HeardWordsModel", "lay", "(III)V"⟩, 29), (⟨"HeardWordsModel", "roadMany", "()I"⟩, 29)]
theorem lw_r4 : ∀ q ∈ lw_privs_4, lw_okq q := List.forall_mem_cons.mpr ⟨lw_p48, List.forall_mem_cons.mpr ⟨lw_p49, List.forall_mem_cons.mpr ⟨lw_p50, List.forall_mem_cons.mpr ⟨lw_p51, List.forall_mem_cons.mpr ⟨lw_p52, List.forall_mem_cons.mpr ⟨lw_p53, List.forall_mem_cons.mpr ⟨lw_p54, List.forall_mem_cons.mpr ⟨lw_p55, List.forall_mem_cons.mpr ⟨lw_p56, List.forall_mem_cons.mpr ⟨lw_p57, List.forall_mem_cons.mpr ⟨lw_p58, List.forall_mem_cons.mpr ⟨lw_p59, List.forall_mem_cons.mpr ⟨lw_p60, List.forall_mem_cons.mpr ⟨lw_p61, List.forall_mem_cons.mpr ⟨lw_p62, fun _ h => absurd h List.not_mem_nil⟩⟩⟩⟩⟩⟩⟩⟩⟩⟩⟩⟩⟩⟩⟩
def lw_privs : List (MethodName × Nat) := lw_privs_1 ++ (lw_privs_2 ++ (lw_privs_3 ++ (lw_privs_4)))
def lw_tbl : List Cond := k2_sels lw_privs ++ tables_1
theorem lw_privs_ok : ∀ q ∈ lw_privs, lw_okq q := by
  show ∀ q ∈ lw_privs_1 ++ (lw_privs_2 ++ (lw_privs_3 ++ (lw_privs_4))), lw_okq q
  exact List.forall_mem_append.mpr ⟨lw_r1, List.forall_mem_append.mpr ⟨lw_r2, List.forall_mem_append.mpr ⟨lw_r3, lw_r4⟩⟩⟩
end
section
def RX0 : String := "HeardWords$AtOnce"
def TX0 : u_T := fun k => match k with
  | 0 => ("HeardWords$AtOnce", "words", "LHeardWords$Words;", true)
  | 1 => ("HeardWords$AtOnce", "struck", "[I", true)
  | 2 => ("HeardWords$AtOnce", "strikers", "[I", true)
  | 3 => ("HeardWords$AtOnce", "reached", "[I", true)
  | 4 => ("HeardWords$AtOnce", "marks", "[B", true)
  | _ => ("HeardWords$AtOnce", "admitted", "I", false)
def tyX0 : Nat → FieldType := fun k => match k with
  | 0 => .object "HeardWords$Words"
  | 1 => .array .int
  | 2 => .array .int
  | 3 => .array .int
  | 4 => .array .byte
  | _ => .int
abbrev wsX00 : List Cond := u_ws RX0 TX0 6
theorem nmX0 : ∀ a, a < 6 → ∀ b, b < 6 → a ≠ b → (TX0 a).2.1 ≠ (TX0 b).2.1 := by decide +kernel
theorem tyX0_ok : ∀ k, k < 6 → parseFieldDescriptor (TX0 k).2.2.1 = some (tyX0 k) := by decide +kernel
abbrev cX0_init : ByteArray := prog_2_method_1_code
def yX0_init : MethodName := ⟨RX0, "<init>", "(LHeardWords$Words;)V"⟩
abbrev cX0_takeUp : ByteArray := prog_2_method_2_code
def yX0_takeUp : MethodName := ⟨RX0, "takeUp", "(LHeardWords$Law;I)V"⟩
abbrev cX0_meetEarlier : ByteArray := prog_2_method_3_code
def yX0_meetEarlier : MethodName := ⟨RX0, "meetEarlier", "(LHeardWords$Law;I)V"⟩
abbrev cX0_meetFoe : ByteArray := prog_2_method_4_code
def yX0_meetFoe : MethodName := ⟨RX0, "meetFoe", "(III)V"⟩
abbrev cX0_strike : ByteArray := prog_2_method_5_code
def yX0_strike : MethodName := ⟨RX0, "strike", "(II)V"⟩
abbrev cX0_struckBy : ByteArray := prog_2_method_6_code
def yX0_struckBy : MethodName := ⟨RX0, "struckBy", "(I)I"⟩
abbrev cX0_unionOver : ByteArray := prog_2_method_7_code
def yX0_unionOver : MethodName := ⟨RX0, "unionOver", "([II)I"⟩
abbrev cX0_answersForItself : ByteArray := prog_2_method_8_code
def yX0_answersForItself : MethodName := ⟨RX0, "answersForItself", "(I)Z"⟩
abbrev cX0_leastSet : ByteArray := prog_2_method_9_code
def yX0_leastSet : MethodName := ⟨RX0, "leastSet", "()I"⟩
abbrev cX0_unstruckBut : ByteArray := prog_2_method_10_code
def yX0_unstruckBut : MethodName := ⟨RX0, "unstruckBut", "(I)I"⟩
abbrev cX0_markFullSets : ByteArray := prog_2_method_11_code
def yX0_markFullSets : MethodName := ⟨RX0, "markFullSets", "()V"⟩
abbrev cX0_hasGreater : ByteArray := prog_2_method_12_code
def yX0_hasGreater : MethodName := ⟨RX0, "hasGreater", "(I)Z"⟩
abbrev cX0_isFullSet : ByteArray := prog_2_method_13_code
def yX0_isFullSet : MethodName := ⟨RX0, "isFullSet", "(I)Z"⟩
abbrev cX0_fullSets : ByteArray := prog_2_method_14_code
def yX0_fullSets : MethodName := ⟨RX0, "fullSets", "()I"⟩
abbrev cX0_fullSet : ByteArray := prog_2_method_15_code
def yX0_fullSet : MethodName := ⟨RX0, "fullSet", "(I)I"⟩
abbrev cX0_firmness : ByteArray := prog_2_method_16_code
def yX0_firmness : MethodName := ⟨RX0, "firmness", "(I)I"⟩
abbrev cX0_onRings : ByteArray := prog_2_method_17_code
def yX0_onRings : MethodName := ⟨RX0, "onRings", "()I"⟩
def RX1 : String := "HeardWords$Hearing"
def TX1 : u_T := fun k => match k with
  | 0 => ("HeardWords$Hearing", "words", "LHeardWords$Words;", true)
  | 1 => ("HeardWords$Hearing", "stand", "I", false)
  | 2 => ("HeardWords$Hearing", "undone", "I", false)
  | _ => ("HeardWords$Hearing", "out", "I", false)
def tyX1 : Nat → FieldType := fun k => match k with
  | 0 => .object "HeardWords$Words"
  | 1 => .int
  | 2 => .int
  | _ => .int
abbrev wsX10 : List Cond := u_ws RX1 TX1 4
theorem nmX1 : ∀ a, a < 4 → ∀ b, b < 4 → a ≠ b → (TX1 a).2.1 ≠ (TX1 b).2.1 := by decide +kernel
theorem tyX1_ok : ∀ k, k < 4 → parseFieldDescriptor (TX1 k).2.2.1 = some (tyX1 k) := by decide +kernel
abbrev cX1_init : ByteArray := prog_3_method_1_code
def yX1_init : MethodName := ⟨RX1, "<init>", "(LHeardWords$Words;)V"⟩
abbrev cX1_begin : ByteArray := prog_3_method_2_code
def yX1_begin : MethodName := ⟨RX1, "begin", "()V"⟩
abbrev cX1_byNumbers : ByteArray := prog_3_method_3_code
def yX1_byNumbers : MethodName := ⟨RX1, "byNumbers", "(LHeardWords$Law;I)V"⟩
abbrev cX1_outcome : ByteArray := prog_3_method_4_code
def yX1_outcome : MethodName := ⟨RX1, "outcome", "(I)I"⟩
abbrev cX1_onHead : ByteArray := prog_3_method_5_code
def yX1_onHead : MethodName := ⟨RX1, "onHead", "(I)I"⟩
abbrev cX1_hangingOn : ByteArray := prog_3_method_6_code
def yX1_hangingOn : MethodName := ⟨RX1, "hangingOn", "(LHeardWords$Law;II)I"⟩
abbrev cX1_ordersWith : ByteArray := prog_3_method_7_code
def yX1_ordersWith : MethodName := ⟨RX1, "ordersWith", "(LHeardWords$Law;III)I"⟩
abbrev cX1_hearNext : ByteArray := prog_3_method_8_code
def yX1_hearNext : MethodName := ⟨RX1, "hearNext", "(LHeardWords$Law;I)V"⟩
abbrev cX1_isAble : ByteArray := prog_3_method_9_code
def yX1_isAble : MethodName := ⟨RX1, "isAble", "(LHeardWords$Law;I)Z"⟩
abbrev cX1_quarrel : ByteArray := prog_3_method_10_code
def yX1_quarrel : MethodName := ⟨RX1, "quarrel", "(LHeardWords$Law;I)V"⟩
abbrev cX1_fallen : ByteArray := prog_3_method_11_code
def yX1_fallen : MethodName := ⟨RX1, "fallen", "(LHeardWords$Law;II)I"⟩
abbrev cX1_beElsewhere : ByteArray := prog_3_method_12_code
def yX1_beElsewhere : MethodName := ⟨RX1, "beElsewhere", "(LHeardWords$Law;I)V"⟩
abbrev cX1_undo : ByteArray := prog_3_method_13_code
def yX1_undo : MethodName := ⟨RX1, "undo", "(LHeardWords$Law;I)V"⟩
def RX2 : String := "HeardWords$Law"
def TX2 : u_T := fun k => match k with
  | 0 => ("HeardWords$Law", "text", "[I", true)
  | 1 => ("HeardWords$Law", "size", "I", false)
  | 2 => ("HeardWords$Law", "firstFault", "I", false)
  | 3 => ("HeardWords$Law", "enough", "I", false)
  | 4 => ("HeardWords$Law", "contradiction", "I", false)
  | 5 => ("HeardWords$Law", "elsewhere", "I", false)
  | _ => ("HeardWords$Law", "partial", "I", false)
def tyX2 : Nat → FieldType := fun k => match k with
  | 0 => .array .int
  | 1 => .int
  | 2 => .int
  | 3 => .int
  | 4 => .int
  | 5 => .int
  | _ => .int
abbrev wsX20 : List Cond := u_ws RX2 TX2 7
theorem nmX2 : ∀ a, a < 7 → ∀ b, b < 7 → a ≠ b → (TX2 a).2.1 ≠ (TX2 b).2.1 := by decide +kernel
theorem tyX2_ok : ∀ k, k < 7 → parseFieldDescriptor (TX2 k).2.2.1 = some (tyX2 k) := by decide +kernel
abbrev cX2_init : ByteArray := prog_4_method_1_code
def yX2_init : MethodName := ⟨RX2, "<init>", "()V"⟩
abbrev cX2_append : ByteArray := prog_4_method_2_code
def yX2_append : MethodName := ⟨RX2, "append", "(I)V"⟩
abbrev cX2_empty : ByteArray := prog_4_method_3_code
def yX2_empty : MethodName := ⟨RX2, "empty", "()V"⟩
abbrev cX2_saysTheSameAs : ByteArray := prog_4_method_4_code
def yX2_saysTheSameAs : MethodName := ⟨RX2, "saysTheSameAs", "(LHeardWords$Law;)Z"⟩
abbrev cX2_understand : ByteArray := prog_4_method_5_code
def yX2_understand : MethodName := ⟨RX2, "understand", "()V"⟩
abbrev cX2_takePart : ByteArray := prog_4_method_6_code
def yX2_takePart : MethodName := ⟨RX2, "takePart", "(II)V"⟩
abbrev cX2_seekFault : ByteArray := prog_4_method_7_code
def yX2_seekFault : MethodName := ⟨RX2, "seekFault", "()I"⟩
abbrev cX2_fits : ByteArray := prog_4_method_8_code
def yX2_fits : MethodName := ⟨RX2, "fits", "(I)Z"⟩
abbrev cX2_isFigureOf : ByteArray := prog_4_method_9_code
def yX2_isFigureOf : MethodName := ⟨RX2, "isFigureOf", "(II)Z"⟩
def RX3 : String := "HeardWords$Roads"
def TX3 : u_T := fun k => match k with
  | 0 => ("HeardWords$Roads", "hours", "[I", true)
  | _ => ("HeardWords$Roads", "quickest", "[I", true)
def tyX3 : Nat → FieldType := fun k => match k with
  | 0 => .array .int
  | _ => .array .int
abbrev wsX30 : List Cond := u_ws RX3 TX3 2
theorem nmX3 : ∀ a, a < 2 → ∀ b, b < 2 → a ≠ b → (TX3 a).2.1 ≠ (TX3 b).2.1 := by decide +kernel
theorem tyX3_ok : ∀ k, k < 2 → parseFieldDescriptor (TX3 k).2.2.1 = some (tyX3 k) := by decide +kernel
abbrev cX3_init : ByteArray := prog_5_method_1_code
def yX3_init : MethodName := ⟨RX3, "<init>", "()V"⟩
abbrev cX3_build : ByteArray := prog_5_method_2_code
def yX3_build : MethodName := ⟨RX3, "build", "(III)I"⟩
abbrev cX3_between : ByteArray := prog_5_method_3_code
def yX3_between : MethodName := ⟨RX3, "between", "(II)I"⟩
abbrev cX3_number : ByteArray := prog_5_method_4_code
def yX3_number : MethodName := ⟨RX3, "number", "()I"⟩
abbrev cX3_seekQuickest : ByteArray := prog_5_method_5_code
def yX3_seekQuickest : MethodName := ⟨RX3, "seekQuickest", "()V"⟩
abbrev cX3_shortenThrough : ByteArray := prog_5_method_6_code
def yX3_shortenThrough : MethodName := ⟨RX3, "shortenThrough", "(I)V"⟩
def RX4 : String := "HeardWords$Sheet"
def TX4 : u_T := fun k => match k with
  | 0 => ("HeardWords$Sheet", "items", "[I", true)
  | 1 => ("HeardWords$Sheet", "lost", "Z", false)
  | 2 => ("HeardWords$Sheet", "form", "I", false)
  | _ => ("HeardWords$Sheet", "size", "I", false)
def tyX4 : Nat → FieldType := fun k => match k with
  | 0 => .array .int
  | 1 => .boolean
  | 2 => .int
  | _ => .int
abbrev wsX40 : List Cond := u_ws RX4 TX4 4
theorem nmX4 : ∀ a, a < 4 → ∀ b, b < 4 → a ≠ b → (TX4 a).2.1 ≠ (TX4 b).2.1 := by decide +kernel
theorem tyX4_ok : ∀ k, k < 4 → parseFieldDescriptor (TX4 k).2.2.1 = some (tyX4 k) := by decide +kernel
abbrev cX4_init : ByteArray := prog_6_method_1_code
def yX4_init : MethodName := ⟨RX4, "<init>", "()V"⟩
abbrev cX4_renew : ByteArray := prog_6_method_2_code
def yX4_renew : MethodName := ⟨RX4, "renew", "(II)V"⟩
abbrev cX4_set : ByteArray := prog_6_method_3_code
def yX4_set : MethodName := ⟨RX4, "set", "(II)V"⟩
abbrev cX4_findingOf : ByteArray := prog_6_method_4_code
def yX4_findingOf : MethodName := ⟨RX4, "findingOf", "(II)I"⟩
abbrev cX4_holds : ByteArray := prog_6_method_5_code
def yX4_holds : MethodName := ⟨RX4, "holds", "(II)Z"⟩
def RX5 : String := "HeardWords$Words"
def TX5 : u_T := fun k => match k with
  | 0 => ("HeardWords$Words", "kind", "[I", true)
  | 1 => ("HeardWords$Words", "group", "[I", true)
  | 2 => ("HeardWords$Words", "groupSize", "[I", true)
  | 3 => ("HeardWords$Words", "town", "[I", true)
  | 4 => ("HeardWords$Words", "hour", "[I", true)
  | 5 => ("HeardWords$Words", "about", "[I", true)
  | 6 => ("HeardWords$Words", "foes", "[I", true)
  | 7 => ("HeardWords$Words", "undoes", "[I", true)
  | 8 => ("HeardWords$Words", "undoers", "[I", true)
  | 9 => ("HeardWords$Words", "chains", "[I", true)
  | 10 => ("HeardWords$Words", "size", "I", false)
  | 11 => ("HeardWords$Words", "kept", "I", false)
  | _ => ("HeardWords$Words", "possible", "I", false)
def tyX5 : Nat → FieldType := fun k => match k with
  | 0 => .array .int
  | 1 => .array .int
  | 2 => .array .int
  | 3 => .array .int
  | 4 => .array .int
  | 5 => .array .int
  | 6 => .array .int
  | 7 => .array .int
  | 8 => .array .int
  | 9 => .array .int
  | 10 => .int
  | 11 => .int
  | _ => .int
abbrev wsX50 : List Cond := u_ws RX5 TX5 13
theorem nmX5 : ∀ a, a < 13 → ∀ b, b < 13 → a ≠ b → (TX5 a).2.1 ≠ (TX5 b).2.1 := by decide +kernel
theorem tyX5_ok : ∀ k, k < 13 → parseFieldDescriptor (TX5 k).2.2.1 = some (tyX5 k) := by decide +kernel
abbrev cX5_init : ByteArray := prog_7_method_1_code
def yX5_init : MethodName := ⟨RX5, "<init>", "()V"⟩
abbrev cX5_has : ByteArray := prog_7_method_2_code
def yX5_has : MethodName := ⟨RX5, "has", "(I)Z"⟩
abbrev cX5_all : ByteArray := prog_7_method_3_code
def yX5_all : MethodName := ⟨RX5, "all", "()I"⟩
abbrev cX5_heardOnes : ByteArray := prog_7_method_4_code
def yX5_heardOnes : MethodName := ⟨RX5, "heardOnes", "()I"⟩
abbrev cX5_tell : ByteArray := prog_7_method_5_code
def yX5_tell : MethodName := ⟨RX5, "tell", "(IIIIILHeardWords$Roads;)I"⟩
abbrev cX5_weighAll : ByteArray := prog_7_method_6_code
def yX5_weighAll : MethodName := ⟨RX5, "weighAll", "(LHeardWords$Roads;)V"⟩
abbrev cX5_isTooFar : ByteArray := prog_7_method_7_code
def yX5_isTooFar : MethodName := ⟨RX5, "isTooFar", "(IILHeardWords$Roads;)Z"⟩
abbrev cX5_longestChain : ByteArray := prog_7_method_8_code
def yX5_longestChain : MethodName := ⟨RX5, "longestChain", "(I)I"⟩
def RX6 : String := "HeardWords"
def TX6 : u_T := fun k => match k with
  | 0 => ("HeardWords", "roads", "LHeardWords$Roads;", true)
  | 1 => ("HeardWords", "words", "LHeardWords$Words;", true)
  | 2 => ("HeardWords", "firstLaw", "LHeardWords$Law;", true)
  | 3 => ("HeardWords", "secondLaw", "LHeardWords$Law;", true)
  | 4 => ("HeardWords", "sheets", "[LHeardWords$Sheet;", true)
  | 5 => ("HeardWords", "hearing", "LHeardWords$Hearing;", true)
  | 6 => ("HeardWords", "atOnce", "LHeardWords$AtOnce;", true)
  | _ => ("HeardWords", "latestFinding", "I", false)
def tyX6 : Nat → FieldType := fun k => match k with
  | 0 => .object "HeardWords$Roads"
  | 1 => .object "HeardWords$Words"
  | 2 => .object "HeardWords$Law"
  | 3 => .object "HeardWords$Law"
  | 4 => .array (.object "HeardWords$Sheet")
  | 5 => .object "HeardWords$Hearing"
  | 6 => .object "HeardWords$AtOnce"
  | _ => .int
abbrev wsX60 : List Cond := u_ws RX6 TX6 8
theorem nmX6 : ∀ a, a < 8 → ∀ b, b < 8 → a ≠ b → (TX6 a).2.1 ≠ (TX6 b).2.1 := by decide +kernel
theorem tyX6_ok : ∀ k, k < 8 → parseFieldDescriptor (TX6 k).2.2.1 = some (tyX6 k) := by decide +kernel
abbrev cX6_init : ByteArray := prog_1_method_1_code
def yX6_init : MethodName := ⟨RX6, "<init>", "()V"⟩
abbrev cX6_road : ByteArray := prog_1_method_2_code
def yX6_road : MethodName := ⟨RX6, "road", "(III)I"⟩
abbrev cX6_away : ByteArray := prog_1_method_3_code
def yX6_away : MethodName := ⟨RX6, "away", "(II)I"⟩
abbrev cX6_word : ByteArray := prog_1_method_4_code
def yX6_word : MethodName := ⟨RX6, "word", "(IIIII)I"⟩
abbrev cX6_read : ByteArray := prog_1_method_5_code
def yX6_read : MethodName := ⟨RX6, "read", "(I)I"⟩
abbrev cX6_is : ByteArray := prog_1_method_6_code
def yX6_is : MethodName := ⟨RX6, "is", "(II)I"⟩
abbrev cX6_keep : ByteArray := prog_1_method_7_code
def yX6_keep : MethodName := ⟨RX6, "keep", "(I)I"⟩
abbrev cX6_mayBeTold : ByteArray := prog_1_method_8_code
def yX6_mayBeTold : MethodName := ⟨RX6, "mayBeTold", "(IIIII)Z"⟩
abbrev cX6_isTown : ByteArray := prog_1_method_9_code
def yX6_isTown : MethodName := ⟨RX6, "isTown", "(I)Z"⟩
abbrev cX6_type : ByteArray := prog_1_method_10_code
def yX6_type : MethodName := ⟨RX6, "type", "(II)I"⟩
abbrev cX6_wipe : ByteArray := prog_1_method_11_code
def yX6_wipe : MethodName := ⟨RX6, "wipe", "(I)I"⟩
abbrev cX6_fault : ByteArray := prog_1_method_12_code
def yX6_fault : MethodName := ⟨RX6, "fault", "(I)I"⟩
abbrev cX6_law : ByteArray := prog_1_method_13_code
def yX6_law : MethodName := ⟨RX6, "law", "(II)I"⟩
abbrev cX6_lawOf : ByteArray := prog_1_method_14_code
def yX6_lawOf : MethodName := ⟨RX6, "lawOf", "(I)LHeardWords$Law;"⟩
abbrev cX6_heard : ByteArray := prog_1_method_15_code
def yX6_heard : MethodName := ⟨RX6, "heard", "(II)I"⟩
abbrev cX6_ordered : ByteArray := prog_1_method_16_code
def yX6_ordered : MethodName := ⟨RX6, "ordered", "(III)I"⟩
abbrev cX6_head : ByteArray := prog_1_method_17_code
def yX6_head : MethodName := ⟨RX6, "head", "(II)I"⟩
abbrev cX6_orders : ByteArray := prog_1_method_18_code
def yX6_orders : MethodName := ⟨RX6, "orders", "(II)I"⟩
abbrev cX6_isOrder : ByteArray := prog_1_method_19_code
def yX6_isOrder : MethodName := ⟨RX6, "isOrder", "(LHeardWords$Sheet;)Z"⟩
abbrev cX6_factorial : ByteArray := prog_1_method_20_code
def yX6_factorial : MethodName := ⟨RX6, "factorial", "(I)I"⟩
abbrev cX6_strikes : ByteArray := prog_1_method_21_code
def yX6_strikes : MethodName := ⟨RX6, "strikes", "(III)I"⟩
abbrev cX6_sound : ByteArray := prog_1_method_22_code
def yX6_sound : MethodName := ⟨RX6, "sound", "(II)I"⟩
abbrev cX6_least : ByteArray := prog_1_method_23_code
def yX6_least : MethodName := ⟨RX6, "least", "(I)I"⟩
abbrev cX6_full : ByteArray := prog_1_method_24_code
def yX6_full : MethodName := ⟨RX6, "full", "(II)I"⟩
abbrev cX6_firm : ByteArray := prog_1_method_25_code
def yX6_firm : MethodName := ⟨RX6, "firm", "(II)I"⟩
abbrev cX6_ring : ByteArray := prog_1_method_26_code
def yX6_ring : MethodName := ⟨RX6, "ring", "()I"⟩
abbrev cX6_chain : ByteArray := prog_1_method_27_code
def yX6_chain : MethodName := ⟨RX6, "chain", "(I)I"⟩
abbrev cX6_hangs : ByteArray := prog_1_method_28_code
def yX6_hangs : MethodName := ⟨RX6, "hangs", "(I)I"⟩
abbrev cX6_most : ByteArray := prog_1_method_29_code
def yX6_most : MethodName := ⟨RX6, "most", "()I"⟩
abbrev cX6_brings : ByteArray := prog_1_method_30_code
def yX6_brings : MethodName := ⟨RX6, "brings", "(II)I"⟩
abbrev cX6_part : ByteArray := prog_1_method_31_code
def yX6_part : MethodName := ⟨RX6, "part", "()I"⟩
abbrev cX6_isFewer : ByteArray := prog_1_method_32_code
def yX6_isFewer : MethodName := ⟨RX6, "isFewer", "(II)Z"⟩
abbrev cX6_isHeardUnlike : ByteArray := prog_1_method_33_code
def yX6_isHeardUnlike : MethodName := ⟨RX6, "isHeardUnlike", "(I)Z"⟩
abbrev cX6_sheet : ByteArray := prog_1_method_34_code
def yX6_sheet : MethodName := ⟨RX6, "sheet", "(III)I"⟩
abbrev cX6_lose : ByteArray := prog_1_method_35_code
def yX6_lose : MethodName := ⟨RX6, "lose", "(I)I"⟩
abbrev cX6_put : ByteArray := prog_1_method_36_code
def yX6_put : MethodName := ⟨RX6, "put", "(IIII)I"⟩
abbrev cX6_get : ByteArray := prog_1_method_37_code
def yX6_get : MethodName := ⟨RX6, "get", "(III)I"⟩
abbrev cX6_copy : ByteArray := prog_1_method_38_code
def yX6_copy : MethodName := ⟨RX6, "copy", "(IIIII)I"⟩
abbrev cX6_write : ByteArray := prog_1_method_39_code
def yX6_write : MethodName := ⟨RX6, "write", "(I)I"⟩
abbrev cX6_count : ByteArray := prog_1_method_40_code
def yX6_count : MethodName := ⟨RX6, "count", "(I)I"⟩
abbrev cX6_digest : ByteArray := prog_1_method_41_code
def yX6_digest : MethodName := ⟨RX6, "digest", "()J"⟩
abbrev cX6_digestOfLaw : ByteArray := prog_1_method_42_code
def yX6_digestOfLaw : MethodName := ⟨RX6, "digestOfLaw", "(JI)J"⟩
abbrev cX6_sheetOf : ByteArray := prog_1_method_43_code
def yX6_sheetOf : MethodName := ⟨RX6, "sheetOf", "(I)LHeardWords$Sheet;"⟩
abbrev cX6_isForm : ByteArray := prog_1_method_44_code
def yX6_isForm : MethodName := ⟨RX6, "isForm", "(I)Z"⟩
abbrev cX6_find : ByteArray := prog_1_method_45_code
def yX6_find : MethodName := ⟨RX6, "find", "(I)I"⟩
def RX7 : String := "HeardWordsModel"
def TX7 : u_T := fun k => match k with
  | 0 => ("HeardWordsModel", "roads", "[I", true)
  | 1 => ("HeardWordsModel", "ways", "[I", true)
  | 2 => ("HeardWordsModel", "words", "I", false)
  | 3 => ("HeardWordsModel", "kinds", "[I", true)
  | 4 => ("HeardWordsModel", "groups", "[I", true)
  | 5 => ("HeardWordsModel", "towns", "[I", true)
  | 6 => ("HeardWordsModel", "hours", "[I", true)
  | 7 => ("HeardWordsModel", "abouts", "[I", true)
  | 8 => ("HeardWordsModel", "kept", "I", false)
  | 9 => ("HeardWordsModel", "possible", "I", false)
  | 10 => ("HeardWordsModel", "typed", "[I", true)
  | 11 => ("HeardWordsModel", "texts", "[I", true)
  | 12 => ("HeardWordsModel", "faults", "[I", true)
  | 13 => ("HeardWordsModel", "told", "[I", true)
  | 14 => ("HeardWordsModel", "order", "[I", true)
  | 15 => ("HeardWordsModel", "ordered", "I", false)
  | 16 => ("HeardWordsModel", "stands", "I", false)
  | 17 => ("HeardWordsModel", "undone", "I", false)
  | 18 => ("HeardWordsModel", "out", "I", false)
  | 19 => ("HeardWordsModel", "present", "I", false)
  | 20 => ("HeardWordsModel", "strikers", "[I", true)
  | 21 => ("HeardWordsModel", "sounds", "[Z", true)
  | 22 => ("HeardWordsModel", "chains", "[I", true)
  | 23 => ("HeardWordsModel", "isThere", "[Z", true)
  | 24 => ("HeardWordsModel", "forms", "[I", true)
  | 25 => ("HeardWordsModel", "sizes", "[I", true)
  | 26 => ("HeardWordsModel", "items", "[I", true)
  | 27 => ("HeardWordsModel", "moved", "[I", true)
  | _ => ("HeardWordsModel", "finding", "I", false)
def tyX7 : Nat → FieldType := fun k => match k with
  | 0 => .array .int
  | 1 => .array .int
  | 2 => .int
  | 3 => .array .int
  | 4 => .array .int
  | 5 => .array .int
  | 6 => .array .int
  | 7 => .array .int
  | 8 => .int
  | 9 => .int
  | 10 => .array .int
  | 11 => .array .int
  | 12 => .array .int
  | 13 => .array .int
  | 14 => .array .int
  | 15 => .int
  | 16 => .int
  | 17 => .int
  | 18 => .int
  | 19 => .int
  | 20 => .array .int
  | 21 => .array .boolean
  | 22 => .array .int
  | 23 => .array .boolean
  | 24 => .array .int
  | 25 => .array .int
  | 26 => .array .int
  | 27 => .array .int
  | _ => .int
abbrev wsX70 : List Cond := u_ws RX7 TX7 29
theorem nmX7 : ∀ a, a < 29 → ∀ b, b < 29 → a ≠ b → (TX7 a).2.1 ≠ (TX7 b).2.1 := by decide +kernel
theorem tyX7_ok : ∀ k, k < 29 → parseFieldDescriptor (TX7 k).2.2.1 = some (tyX7 k) := by decide +kernel
abbrev cX7_init : ByteArray := prog_9_method_1_code
def yX7_init : MethodName := ⟨RX7, "<init>", "()V"⟩
abbrev cX7_in : ByteArray := prog_9_method_3_code
def yX7_in : MethodName := ⟨RX7, "in", "(III)Z"⟩
abbrev cX7_has : ByteArray := prog_9_method_4_code
def yX7_has : MethodName := ⟨RX7, "has", "(II)Z"⟩
abbrev cX7_ones : ByteArray := prog_9_method_5_code
def yX7_ones : MethodName := ⟨RX7, "ones", "(I)I"⟩
abbrev cX7_apart : ByteArray := prog_9_method_6_code
def yX7_apart : MethodName := ⟨RX7, "apart", "(II)I"⟩
abbrev cX7_isTown : ByteArray := prog_9_method_7_code
def yX7_isTown : MethodName := ⟨RX7, "isTown", "(I)Z"⟩
abbrev cX7_road : ByteArray := prog_9_method_8_code
def yX7_road : MethodName := ⟨RX7, "road", "(III)I"⟩
abbrev cX7_laysWays : ByteArray := prog_9_method_9_code
def yX7_laysWays : MethodName := ⟨RX7, "laysWays", "()V"⟩
abbrev cX7_away : ByteArray := prog_9_method_10_code
def yX7_away : MethodName := ⟨RX7, "away", "(II)I"⟩
abbrev cX7_adds : ByteArray := prog_9_method_11_code
def yX7_adds : MethodName := ⟨RX7, "adds", "(IIIII)I"⟩
abbrev cX7_word : ByteArray := prog_9_method_12_code
def yX7_word : MethodName := ⟨RX7, "word", "(IIIII)I"⟩
abbrev cX7_read : ByteArray := prog_9_method_13_code
def yX7_read : MethodName := ⟨RX7, "read", "(I)I"⟩
abbrev cX7_isWord : ByteArray := prog_9_method_14_code
def yX7_isWord : MethodName := ⟨RX7, "isWord", "(I)Z"⟩
abbrev cX7_all : ByteArray := prog_9_method_15_code
def yX7_all : MethodName := ⟨RX7, "all", "()I"⟩
abbrev cX7_heardOnes : ByteArray := prog_9_method_16_code
def yX7_heardOnes : MethodName := ⟨RX7, "heardOnes", "()I"⟩
abbrev cX7_laysPossible : ByteArray := prog_9_method_17_code
def yX7_laysPossible : MethodName := ⟨RX7, "laysPossible", "()V"⟩
abbrev cX7_isNow : ByteArray := prog_9_method_18_code
def yX7_isNow : MethodName := ⟨RX7, "isNow", "(II)I"⟩
abbrev cX7_is : ByteArray := prog_9_method_19_code
def yX7_is : MethodName := ⟨RX7, "is", "(II)I"⟩
abbrev cX7_keep : ByteArray := prog_9_method_20_code
def yX7_keep : MethodName := ⟨RX7, "keep", "(I)I"⟩
abbrev cX7_isLaw : ByteArray := prog_9_method_21_code
def yX7_isLaw : MethodName := ⟨RX7, "isLaw", "(I)Z"⟩
abbrev cX7_type : ByteArray := prog_9_method_22_code
def yX7_type : MethodName := ⟨RX7, "type", "(II)I"⟩
abbrev cX7_wipe : ByteArray := prog_9_method_23_code
def yX7_wipe : MethodName := ⟨RX7, "wipe", "(I)I"⟩
abbrev cX7_byteAt : ByteArray := prog_9_method_24_code
def yX7_byteAt : MethodName := ⟨RX7, "byteAt", "(II)I"⟩
abbrev cX7_plain : ByteArray := prog_9_method_25_code
def yX7_plain : MethodName := ⟨RX7, "plain", "(I)V"⟩
abbrev cX7_faultOf : ByteArray := prog_9_method_26_code
def yX7_faultOf : MethodName := ⟨RX7, "faultOf", "(I)I"⟩
abbrev cX7_reads : ByteArray := prog_9_method_27_code
def yX7_reads : MethodName := ⟨RX7, "reads", "(I)V"⟩
abbrev cX7_fault : ByteArray := prog_9_method_28_code
def yX7_fault : MethodName := ⟨RX7, "fault", "(I)I"⟩
abbrev cX7_law : ByteArray := prog_9_method_29_code
def yX7_law : MethodName := ⟨RX7, "law", "(II)I"⟩
abbrev cX7_undoes : ByteArray := prog_9_method_30_code
def yX7_undoes : MethodName := ⟨RX7, "undoes", "(IZ)V"⟩
abbrev cX7_quarrel : ByteArray := prog_9_method_31_code
def yX7_quarrel : MethodName := ⟨RX7, "quarrel", "(II)Z"⟩
abbrev cX7_hears : ByteArray := prog_9_method_32_code
def yX7_hears : MethodName := ⟨RX7, "hears", "(I)V"⟩
abbrev cX7_lines : ByteArray := prog_9_method_33_code
def yX7_lines : MethodName := ⟨RX7, "lines", "(I)V"⟩
abbrev cX7_tells : ByteArray := prog_9_method_34_code
def yX7_tells : MethodName := ⟨RX7, "tells", "(I)I"⟩
abbrev cX7_hearsAll : ByteArray := prog_9_method_35_code
def yX7_hearsAll : MethodName := ⟨RX7, "hearsAll", "(I)V"⟩
abbrev cX7_heardNow : ByteArray := prog_9_method_36_code
def yX7_heardNow : MethodName := ⟨RX7, "heardNow", "(II)I"⟩
abbrev cX7_heard : ByteArray := prog_9_method_37_code
def yX7_heard : MethodName := ⟨RX7, "heard", "(II)I"⟩
abbrev cX7_ordered : ByteArray := prog_9_method_38_code
def yX7_ordered : MethodName := ⟨RX7, "ordered", "(III)I"⟩
abbrev cX7_headNow : ByteArray := prog_9_method_39_code
def yX7_headNow : MethodName := ⟨RX7, "headNow", "(I)I"⟩
abbrev cX7_head : ByteArray := prog_9_method_40_code
def yX7_head : MethodName := ⟨RX7, "head", "(II)I"⟩
abbrev cX7_turns : ByteArray := prog_9_method_41_code
def yX7_turns : MethodName := ⟨RX7, "turns", "()Z"⟩
abbrev cX7_orders : ByteArray := prog_9_method_42_code
def yX7_orders : MethodName := ⟨RX7, "orders", "(II)I"⟩
abbrev cX7_hits : ByteArray := prog_9_method_43_code
def yX7_hits : MethodName := ⟨RX7, "hits", "(III)Z"⟩
abbrev cX7_meetsAll : ByteArray := prog_9_method_44_code
def yX7_meetsAll : MethodName := ⟨RX7, "meetsAll", "(II)V"⟩
abbrev cX7_strikes : ByteArray := prog_9_method_45_code
def yX7_strikes : MethodName := ⟨RX7, "strikes", "(III)I"⟩
abbrev cX7_answers : ByteArray := prog_9_method_46_code
def yX7_answers : MethodName := ⟨RX7, "answers", "(II)Z"⟩
abbrev cX7_isSound : ByteArray := prog_9_method_47_code
def yX7_isSound : MethodName := ⟨RX7, "isSound", "(I)Z"⟩
abbrev cX7_sound : ByteArray := prog_9_method_48_code
def yX7_sound : MethodName := ⟨RX7, "sound", "(II)I"⟩
abbrev cX7_leastNow : ByteArray := prog_9_method_49_code
def yX7_leastNow : MethodName := ⟨RX7, "leastNow", "()I"⟩
abbrev cX7_leastOf : ByteArray := prog_9_method_50_code
def yX7_leastOf : MethodName := ⟨RX7, "leastOf", "(I)I"⟩
abbrev cX7_least : ByteArray := prog_9_method_51_code
def yX7_least : MethodName := ⟨RX7, "least", "(I)I"⟩
abbrev cX7_laysSounds : ByteArray := prog_9_method_52_code
def yX7_laysSounds : MethodName := ⟨RX7, "laysSounds", "()V"⟩
abbrev cX7_isFull : ByteArray := prog_9_method_53_code
def yX7_isFull : MethodName := ⟨RX7, "isFull", "(I)Z"⟩
abbrev cX7_fullNow : ByteArray := prog_9_method_54_code
def yX7_fullNow : MethodName := ⟨RX7, "fullNow", "(II)I"⟩
abbrev cX7_full : ByteArray := prog_9_method_55_code
def yX7_full : MethodName := ⟨RX7, "full", "(II)I"⟩
abbrev cX7_firm : ByteArray := prog_9_method_56_code
def yX7_firm : MethodName := ⟨RX7, "firm", "(II)I"⟩
abbrev cX7_ringNow : ByteArray := prog_9_method_57_code
def yX7_ringNow : MethodName := ⟨RX7, "ringNow", "()I"⟩
abbrev cX7_ring : ByteArray := prog_9_method_58_code
def yX7_ring : MethodName := ⟨RX7, "ring", "()I"⟩
abbrev cX7_chain : ByteArray := prog_9_method_59_code
def yX7_chain : MethodName := ⟨RX7, "chain", "(I)I"⟩
abbrev cX7_hangsNow : ByteArray := prog_9_method_60_code
def yX7_hangsNow : MethodName := ⟨RX7, "hangsNow", "(I)I"⟩
abbrev cX7_hangs : ByteArray := prog_9_method_61_code
def yX7_hangs : MethodName := ⟨RX7, "hangs", "(I)I"⟩
abbrev cX7_mostNow : ByteArray := prog_9_method_62_code
def yX7_mostNow : MethodName := ⟨RX7, "mostNow", "()I"⟩
abbrev cX7_most : ByteArray := prog_9_method_63_code
def yX7_most : MethodName := ⟨RX7, "most", "()I"⟩
abbrev cX7_brings : ByteArray := prog_9_method_64_code
def yX7_brings : MethodName := ⟨RX7, "brings", "(II)I"⟩
abbrev cX7_part : ByteArray := prog_9_method_65_code
def yX7_part : MethodName := ⟨RX7, "part", "()I"⟩
abbrev cX7_meets : ByteArray := prog_9_method_66_code
def yX7_meets : MethodName := ⟨RX7, "meets", "(I)I"⟩
abbrev cX7_isSheet : ByteArray := prog_9_method_67_code
def yX7_isSheet : MethodName := ⟨RX7, "isSheet", "(I)Z"⟩
abbrev cX7_sheet : ByteArray := prog_9_method_68_code
def yX7_sheet : MethodName := ⟨RX7, "sheet", "(III)I"⟩
abbrev cX7_lose : ByteArray := prog_9_method_69_code
def yX7_lose : MethodName := ⟨RX7, "lose", "(I)I"⟩
abbrev cX7_lacks : ByteArray := prog_9_method_70_code
def yX7_lacks : MethodName := ⟨RX7, "lacks", "(III)I"⟩
abbrev cX7_lay : ByteArray := prog_9_method_71_code
def yX7_lay : MethodName := ⟨RX7, "lay", "(III)V"⟩
abbrev cX7_put : ByteArray := prog_9_method_72_code
def yX7_put : MethodName := ⟨RX7, "put", "(IIII)I"⟩
abbrev cX7_get : ByteArray := prog_9_method_73_code
def yX7_get : MethodName := ⟨RX7, "get", "(III)I"⟩
abbrev cX7_copy : ByteArray := prog_9_method_74_code
def yX7_copy : MethodName := ⟨RX7, "copy", "(IIIII)I"⟩
abbrev cX7_write : ByteArray := prog_9_method_75_code
def yX7_write : MethodName := ⟨RX7, "write", "(I)I"⟩
abbrev cX7_roadMany : ByteArray := prog_9_method_76_code
def yX7_roadMany : MethodName := ⟨RX7, "roadMany", "()I"⟩
abbrev cX7_count : ByteArray := prog_9_method_77_code
def yX7_count : MethodName := ⟨RX7, "count", "(I)I"⟩
abbrev cX7_digest : ByteArray := prog_9_method_78_code
def yX7_digest : MethodName := ⟨RX7, "digest", "()J"⟩
def RJ11 : String := "java/lang/Character"
def TJ11 : u_T := fun k => match k with
  | _ => ("", "", "", false)
def tyJ11 : Nat → FieldType := fun k => match k with
  | _ => .int
abbrev cJ11_isValidCodePoint_9a6ad : ByteArray := prog_10_method_11_code
def yJ11_isValidCodePoint_9a6ad : MethodName := ⟨RJ11, "isValidCodePoint", "(I)Z"⟩
abbrev cJ11_highSurrogate_5068e : ByteArray := prog_10_method_28_code
def yJ11_highSurrogate_5068e : MethodName := ⟨RJ11, "highSurrogate", "(I)C"⟩
abbrev cJ11_lowSurrogate_5068e : ByteArray := prog_10_method_29_code
def yJ11_lowSurrogate_5068e : MethodName := ⟨RJ11, "lowSurrogate", "(I)C"⟩
def RJ6 : String := "java/lang/Integer"
def TJ6 : u_T := fun k => match k with
  | _ => ("", "", "", false)
def tyJ6 : Nat → FieldType := fun k => match k with
  | _ => .int
abbrev cJ6_bitCount_0f7a4 : ByteArray := prog_11_method_49_code
def yJ6_bitCount_0f7a4 : MethodName := ⟨RJ6, "bitCount", "(I)I"⟩
def RJ9 : String := "java/lang/Math"
def TJ9 : u_T := fun k => match k with
  | _ => ("", "", "", false)
def tyJ9 : Nat → FieldType := fun k => match k with
  | _ => .int
abbrev cJ9_abs_0f7a4 : ByteArray := prog_12_method_59_code
def yJ9_abs_0f7a4 : MethodName := ⟨RJ9, "abs", "(I)I"⟩
abbrev cJ9_max_7cf53 : ByteArray := prog_12_method_65_code
def yJ9_max_7cf53 : MethodName := ⟨RJ9, "max", "(II)I"⟩
abbrev cJ9_min_7cf53 : ByteArray := prog_12_method_69_code
def yJ9_min_7cf53 : MethodName := ⟨RJ9, "min", "(II)I"⟩
def RJ0 : String := "java/lang/String"
def TJ0 : u_T := fun k => match k with
  | _ => ("", "", "", false)
def tyJ0 : Nat → FieldType := fun k => match k with
  | _ => .int
abbrev cJ0_length_8abf5 : ByteArray := prog_13_method_54_code
def yJ0_length_8abf5 : MethodName := ⟨RJ0, "length", "()I"⟩
abbrev cJ0_charAt_5068e : ByteArray := prog_13_method_56_code
def yJ0_charAt_5068e : MethodName := ⟨RJ0, "charAt", "(I)C"⟩
abbrev cJ0_indexOf_0f7a4 : ByteArray := prog_13_method_79_code
def yJ0_indexOf_0f7a4 : MethodName := ⟨RJ0, "indexOf", "(I)I"⟩
abbrev cJ0_indexOf_7cf53 : ByteArray := prog_13_method_80_code
def yJ0_indexOf_7cf53 : MethodName := ⟨RJ0, "indexOf", "(II)I"⟩
abbrev cJ0_coder_7d493 : ByteArray := prog_13_method_152_code
def yJ0_coder_7d493 : MethodName := ⟨RJ0, "coder", "()B"⟩
abbrev cJ0_isLatin1_aae02 : ByteArray := prog_13_method_154_code
def yJ0_isLatin1_aae02 : MethodName := ⟨RJ0, "isLatin1", "()Z"⟩
abbrev cJ0_checkIndex_df160 : ByteArray := prog_13_method_155_code
def yJ0_checkIndex_df160 : MethodName := ⟨RJ0, "checkIndex", "(II)V"⟩
abbrev cJ0_checkBoundsBeginEnd_23922 : ByteArray := prog_13_method_158_code
def yJ0_checkBoundsBeginEnd_23922 : MethodName := ⟨RJ0, "checkBoundsBeginEnd", "(III)V"⟩
def RJ1 : String := "java/lang/StringLatin1"
def TJ1 : u_T := fun k => match k with
  | _ => ("", "", "", false)
def tyJ1 : Nat → FieldType := fun k => match k with
  | _ => .int
abbrev cJ1_charAt_3b067 : ByteArray := prog_14_method_2_code
def yJ1_charAt_3b067 : MethodName := ⟨RJ1, "charAt", "([BI)C"⟩
abbrev cJ1_canEncode_9a6ad : ByteArray := prog_14_method_4_code
def yJ1_canEncode_9a6ad : MethodName := ⟨RJ1, "canEncode", "(I)Z"⟩
abbrev cJ1_indexOf_4cfef : ByteArray := prog_14_method_22_code
def yJ1_indexOf_4cfef : MethodName := ⟨RJ1, "indexOf", "([BIII)I"⟩
abbrev cJ1_indexOfChar_4cfef : ByteArray := prog_14_method_23_code
def yJ1_indexOfChar_4cfef : MethodName := ⟨RJ1, "indexOfChar", "([BIII)I"⟩
def RJ2 : String := "java/lang/StringUTF16"
def TJ2 : u_T := fun k => match k with
  | _ => ("", "", "", false)
def tyJ2 : Nat → FieldType := fun k => match k with
  | _ => .int
abbrev cJ2_getChar_3b067 : ByteArray := prog_15_method_5_code
def yJ2_getChar_3b067 : MethodName := ⟨RJ2, "getChar", "([BI)C"⟩
abbrev cJ2_length_9d52b : ByteArray := prog_15_method_6_code
def yJ2_length_9d52b : MethodName := ⟨RJ2, "length", "([B)I"⟩
abbrev cJ2_indexOf_4cfef : ByteArray := prog_15_method_40_code
def yJ2_indexOf_4cfef : MethodName := ⟨RJ2, "indexOf", "([BIII)I"⟩
abbrev cJ2_indexOfChar_4cfef : ByteArray := prog_15_method_47_code
def yJ2_indexOfChar_4cfef : MethodName := ⟨RJ2, "indexOfChar", "([BIII)I"⟩
abbrev cJ2_indexOfCharUnsafe_4cfef : ByteArray := prog_15_method_48_code
def yJ2_indexOfCharUnsafe_4cfef : MethodName := ⟨RJ2, "indexOfCharUnsafe", "([BIII)I"⟩
abbrev cJ2_indexOfSupplementary_4cfef : ByteArray := prog_15_method_49_code
def yJ2_indexOfSupplementary_4cfef : MethodName := ⟨RJ2, "indexOfSupplementary", "([BIII)I"⟩
abbrev cJ2_charAt_3b067 : ByteArray := prog_15_method_83_code
def yJ2_charAt_3b067 : MethodName := ⟨RJ2, "charAt", "([BI)C"⟩
abbrev cJ2_checkIndex_2214a : ByteArray := prog_15_method_91_code
def yJ2_checkIndex_2214a : MethodName := ⟨RJ2, "checkIndex", "(I[B)V"⟩
abbrev cJ2_checkBoundsBeginEnd_d044e : ByteArray := prog_15_method_93_code
def yJ2_checkBoundsBeginEnd_d044e : MethodName := ⟨RJ2, "checkBoundsBeginEnd", "(II[B)V"⟩
def RJ10 : String := "java/lang/System"
def TJ10 : u_T := fun k => match k with
  | _ => ("", "", "", false)
def tyJ10 : Nat → FieldType := fun k => match k with
  | _ => .int
def RJ7 : String := "java/util/Arrays"
def TJ7 : u_T := fun k => match k with
  | _ => ("", "", "", false)
def tyJ7 : Nat → FieldType := fun k => match k with
  | _ => .int
abbrev cJ7_fill_53178 : ByteArray := prog_17_method_103_code
def yJ7_fill_53178 : MethodName := ⟨RJ7, "fill", "([II)V"⟩
def RJ3 : String := "jdk/internal/util/Preconditions"
def TJ3 : u_T := fun k => match k with
  | _ => ("", "", "", false)
def tyJ3 : Nat → FieldType := fun k => match k with
  | _ => .int
abbrev cJ3_checkIndex_8e157 : ByteArray := prog_18_method_11_code
def yJ3_checkIndex_8e157 : MethodName := ⟨RJ3, "checkIndex", "(IILjava/util/function/BiFunction;)I"⟩
abbrev cJ3_checkFromToIndex_8c36e : ByteArray := prog_18_method_12_code
def yJ3_checkFromToIndex_8c36e : MethodName := ⟨RJ3, "checkFromToIndex", "(IIILjava/util/function/BiFunction;)I"⟩
def RL : String := "HeardWordsLaw"
abbrev cL_law : ByteArray := code
def yL_law : MethodName := ⟨RL, "law", "([I)Z"⟩
abbrev vwCl : List vw_C := [(RX0, TX0, 6), (RX1, TX1, 4), (RX2, TX2, 7), (RX3, TX3, 2), (RX4, TX4, 4), (RX5, TX5, 13), (RX6, TX6, 8), (RX7, TX7, 29)]
end
section
theorem dX0_init_0 : decode cX0_init 0 = .ok (.aload_n 0, 1) := by decide +kernel
theorem dX0_init_1 : decode cX0_init 1 = .ok (.invokespecial 3, 3) := by decide +kernel
theorem dX0_init_4 : decode cX0_init 4 = .ok (.aload_n 0, 1) := by decide +kernel
theorem dX0_init_5 : decode cX0_init 5 = .ok (.bipush 10, 2) := by decide +kernel
theorem dX0_init_7 : decode cX0_init 7 = .ok (.newarray .int, 2) := by decide +kernel
theorem dX0_init_9 : decode cX0_init 9 = .ok (.putfield 9, 3) := by decide +kernel
theorem dX0_init_12 : decode cX0_init 12 = .ok (.aload_n 0, 1) := by decide +kernel
theorem dX0_init_13 : decode cX0_init 13 = .ok (.bipush 10, 2) := by decide +kernel
theorem dX0_init_15 : decode cX0_init 15 = .ok (.newarray .int, 2) := by decide +kernel
theorem dX0_init_17 : decode cX0_init 17 = .ok (.putfield 15, 3) := by decide +kernel
theorem dX0_init_20 : decode cX0_init 20 = .ok (.aload_n 0, 1) := by decide +kernel
theorem dX0_init_21 : decode cX0_init 21 = .ok (.bipush 10, 2) := by decide +kernel
theorem dX0_init_23 : decode cX0_init 23 = .ok (.newarray .int, 2) := by decide +kernel
theorem dX0_init_25 : decode cX0_init 25 = .ok (.putfield 18, 3) := by decide +kernel
theorem dX0_init_28 : decode cX0_init 28 = .ok (.aload_n 0, 1) := by decide +kernel
theorem dX0_init_29 : decode cX0_init 29 = .ok (.sipush 1024, 3) := by decide +kernel
theorem dX0_init_32 : decode cX0_init 32 = .ok (.newarray .byte, 2) := by decide +kernel
theorem dX0_init_34 : decode cX0_init 34 = .ok (.putfield 21, 3) := by decide +kernel
theorem dX0_init_37 : decode cX0_init 37 = .ok (.aload_n 0, 1) := by decide +kernel
theorem dX0_init_38 : decode cX0_init 38 = .ok (.iconst 0, 1) := by decide +kernel
theorem dX0_init_39 : decode cX0_init 39 = .ok (.putfield 25, 3) := by decide +kernel
theorem dX0_init_42 : decode cX0_init 42 = .ok (.aload_n 0, 1) := by decide +kernel
theorem dX0_init_43 : decode cX0_init 43 = .ok (.aload_n 1, 1) := by decide +kernel
theorem dX0_init_44 : decode cX0_init 44 = .ok (.putfield 29, 3) := by decide +kernel
theorem dX0_init_47 : decode cX0_init 47 = .ok (.return_, 1) := by decide +kernel
theorem dX0_takeUp_0 : decode cX0_takeUp 0 = .ok (.aload_n 0, 1) := by decide +kernel
theorem dX0_takeUp_1 : decode cX0_takeUp 1 = .ok (.iconst 0, 1) := by decide +kernel
theorem dX0_takeUp_2 : decode cX0_takeUp 2 = .ok (.putfield 25, 3) := by decide +kernel
theorem dX0_takeUp_5 : decode cX0_takeUp 5 = .ok (.aload_n 0, 1) := by decide +kernel
theorem dX0_takeUp_6 : decode cX0_takeUp 6 = .ok (.getfield 9, 3) := by decide +kernel
theorem dX0_takeUp_9 : decode cX0_takeUp 9 = .ok (.iconst 0, 1) := by decide +kernel
theorem dX0_takeUp_10 : decode cX0_takeUp 10 = .ok (.invokestatic 33, 3) := by decide +kernel
theorem dX0_takeUp_13 : decode cX0_takeUp 13 = .ok (.aload_n 0, 1) := by decide +kernel
theorem dX0_takeUp_14 : decode cX0_takeUp 14 = .ok (.getfield 15, 3) := by decide +kernel
theorem dX0_takeUp_17 : decode cX0_takeUp 17 = .ok (.iconst 0, 1) := by decide +kernel
theorem dX0_takeUp_18 : decode cX0_takeUp 18 = .ok (.invokestatic 33, 3) := by decide +kernel
theorem dX0_takeUp_21 : decode cX0_takeUp 21 = .ok (.iconst 0, 1) := by decide +kernel
theorem dX0_takeUp_22 : decode cX0_takeUp 22 = .ok (.istore_n 3, 1) := by decide +kernel
theorem dX0_takeUp_23 : decode cX0_takeUp 23 = .ok (.iload_n 3, 1) := by decide +kernel
theorem dX0_takeUp_24 : decode cX0_takeUp 24 = .ok (.aload_n 0, 1) := by decide +kernel
theorem dX0_takeUp_25 : decode cX0_takeUp 25 = .ok (.getfield 29, 3) := by decide +kernel
theorem dX0_takeUp_28 : decode cX0_takeUp 28 = .ok (.getfield 39, 3) := by decide +kernel
theorem dX0_takeUp_31 : decode cX0_takeUp 31 = .ok (.if_icmp .ge 51, 3) := by decide +kernel
theorem dX0_takeUp_34 : decode cX0_takeUp 34 = .ok (.iload_n 2, 1) := by decide +kernel
theorem dX0_takeUp_35 : decode cX0_takeUp 35 = .ok (.iload_n 3, 1) := by decide +kernel
theorem dX0_takeUp_36 : decode cX0_takeUp 36 = .ok (.ishr, 1) := by decide +kernel
theorem dX0_takeUp_37 : decode cX0_takeUp 37 = .ok (.iconst 1, 1) := by decide +kernel
theorem dX0_takeUp_38 : decode cX0_takeUp 38 = .ok (.iand, 1) := by decide +kernel
theorem dX0_takeUp_39 : decode cX0_takeUp 39 = .ok (.ifCond .eq 37, 3) := by decide +kernel
theorem dX0_takeUp_42 : decode cX0_takeUp 42 = .ok (.aload_n 0, 1) := by decide +kernel
theorem dX0_takeUp_43 : decode cX0_takeUp 43 = .ok (.getfield 29, 3) := by decide +kernel
theorem dX0_takeUp_46 : decode cX0_takeUp 46 = .ok (.getfield 44, 3) := by decide +kernel
theorem dX0_takeUp_49 : decode cX0_takeUp 49 = .ok (.iload_n 3, 1) := by decide +kernel
theorem dX0_takeUp_50 : decode cX0_takeUp 50 = .ok (.iaload, 1) := by decide +kernel
theorem dX0_takeUp_51 : decode cX0_takeUp 51 = .ok (.aload_n 1, 1) := by decide +kernel
theorem dX0_takeUp_52 : decode cX0_takeUp 52 = .ok (.getfield 47, 3) := by decide +kernel
theorem dX0_takeUp_55 : decode cX0_takeUp 55 = .ok (.if_icmp .lt 21, 3) := by decide +kernel
theorem dX0_takeUp_58 : decode cX0_takeUp 58 = .ok (.aload_n 0, 1) := by decide +kernel
theorem dX0_takeUp_59 : decode cX0_takeUp 59 = .ok (.dup, 1) := by decide +kernel
theorem dX0_takeUp_60 : decode cX0_takeUp 60 = .ok (.getfield 25, 3) := by decide +kernel
theorem dX0_takeUp_63 : decode cX0_takeUp 63 = .ok (.iconst 1, 1) := by decide +kernel
theorem dX0_takeUp_64 : decode cX0_takeUp 64 = .ok (.iload_n 3, 1) := by decide +kernel
theorem dX0_takeUp_65 : decode cX0_takeUp 65 = .ok (.ishl, 1) := by decide +kernel
theorem dX0_takeUp_66 : decode cX0_takeUp 66 = .ok (.ior, 1) := by decide +kernel
theorem dX0_takeUp_67 : decode cX0_takeUp 67 = .ok (.putfield 25, 3) := by decide +kernel
theorem dX0_takeUp_70 : decode cX0_takeUp 70 = .ok (.aload_n 0, 1) := by decide +kernel
theorem dX0_takeUp_71 : decode cX0_takeUp 71 = .ok (.aload_n 1, 1) := by decide +kernel
theorem dX0_takeUp_72 : decode cX0_takeUp 72 = .ok (.iload_n 3, 1) := by decide +kernel
theorem dX0_takeUp_73 : decode cX0_takeUp 73 = .ok (.invokevirtual 52, 3) := by decide +kernel
theorem dX0_takeUp_76 : decode cX0_takeUp 76 = .ok (.iinc 3 1, 3) := by decide +kernel
theorem dX0_takeUp_79 : decode cX0_takeUp 79 = .ok (.goto (-56), 3) := by decide +kernel
theorem dX0_takeUp_82 : decode cX0_takeUp 82 = .ok (.return_, 1) := by decide +kernel
theorem dX0_meetEarlier_0 : decode cX0_meetEarlier 0 = .ok (.aload_n 0, 1) := by decide +kernel
theorem dX0_meetEarlier_1 : decode cX0_meetEarlier 1 = .ok (.getfield 29, 3) := by decide +kernel
theorem dX0_meetEarlier_4 : decode cX0_meetEarlier 4 = .ok (.getfield 56, 3) := by decide +kernel
theorem dX0_meetEarlier_7 : decode cX0_meetEarlier 7 = .ok (.iload_n 2, 1) := by decide +kernel
theorem dX0_meetEarlier_8 : decode cX0_meetEarlier 8 = .ok (.iaload, 1) := by decide +kernel
theorem dX0_meetEarlier_9 : decode cX0_meetEarlier 9 = .ok (.istore_n 3, 1) := by decide +kernel
theorem dX0_meetEarlier_10 : decode cX0_meetEarlier 10 = .ok (.aload_n 0, 1) := by decide +kernel
theorem dX0_meetEarlier_11 : decode cX0_meetEarlier 11 = .ok (.getfield 29, 3) := by decide +kernel
theorem dX0_meetEarlier_14 : decode cX0_meetEarlier 14 = .ok (.getfield 59, 3) := by decide +kernel
theorem dX0_meetEarlier_17 : decode cX0_meetEarlier 17 = .ok (.iload_n 2, 1) := by decide +kernel
theorem dX0_meetEarlier_18 : decode cX0_meetEarlier 18 = .ok (.iaload, 1) := by decide +kernel
theorem dX0_meetEarlier_19 : decode cX0_meetEarlier 19 = .ok (.ifCond .eq 14, 3) := by decide +kernel
theorem dX0_meetEarlier_22 : decode cX0_meetEarlier 22 = .ok (.aload_n 0, 1) := by decide +kernel
theorem dX0_meetEarlier_23 : decode cX0_meetEarlier 23 = .ok (.getfield 25, 3) := by decide +kernel
theorem dX0_meetEarlier_26 : decode cX0_meetEarlier 26 = .ok (.iload_n 3, 1) := by decide +kernel
theorem dX0_meetEarlier_27 : decode cX0_meetEarlier 27 = .ok (.ishr, 1) := by decide +kernel
theorem dX0_meetEarlier_28 : decode cX0_meetEarlier 28 = .ok (.iconst 1, 1) := by decide +kernel
theorem dX0_meetEarlier_29 : decode cX0_meetEarlier 29 = .ok (.iand, 1) := by decide +kernel
theorem dX0_meetEarlier_30 : decode cX0_meetEarlier 30 = .ok (.ifCond .ne 4, 3) := by decide +kernel
theorem dX0_meetEarlier_33 : decode cX0_meetEarlier 33 = .ok (.return_, 1) := by decide +kernel
theorem dX0_meetEarlier_34 : decode cX0_meetEarlier 34 = .ok (.aload_n 0, 1) := by decide +kernel
theorem dX0_meetEarlier_35 : decode cX0_meetEarlier 35 = .ok (.getfield 29, 3) := by decide +kernel
theorem dX0_meetEarlier_38 : decode cX0_meetEarlier 38 = .ok (.getfield 59, 3) := by decide +kernel
theorem dX0_meetEarlier_41 : decode cX0_meetEarlier 41 = .ok (.iload_n 2, 1) := by decide +kernel
theorem dX0_meetEarlier_42 : decode cX0_meetEarlier 42 = .ok (.iaload, 1) := by decide +kernel
theorem dX0_meetEarlier_43 : decode cX0_meetEarlier 43 = .ok (.iconst 1, 1) := by decide +kernel
theorem dX0_meetEarlier_44 : decode cX0_meetEarlier 44 = .ok (.if_icmp .ne 16, 3) := by decide +kernel
theorem dX0_meetEarlier_47 : decode cX0_meetEarlier 47 = .ok (.aload_n 0, 1) := by decide +kernel
theorem dX0_meetEarlier_48 : decode cX0_meetEarlier 48 = .ok (.aload_n 1, 1) := by decide +kernel
theorem dX0_meetEarlier_49 : decode cX0_meetEarlier 49 = .ok (.getfield 62, 3) := by decide +kernel
theorem dX0_meetEarlier_52 : decode cX0_meetEarlier 52 = .ok (.iload_n 2, 1) := by decide +kernel
theorem dX0_meetEarlier_53 : decode cX0_meetEarlier 53 = .ok (.iload_n 3, 1) := by decide +kernel
theorem dX0_meetEarlier_54 : decode cX0_meetEarlier 54 = .ok (.invokevirtual 65, 3) := by decide +kernel
theorem dX0_meetEarlier_57 : decode cX0_meetEarlier 57 = .ok (.goto 21, 3) := by decide +kernel
theorem dX0_meetEarlier_60 : decode cX0_meetEarlier 60 = .ok (.aload_n 0, 1) := by decide +kernel
theorem dX0_meetEarlier_61 : decode cX0_meetEarlier 61 = .ok (.getfield 29, 3) := by decide +kernel
theorem dX0_meetEarlier_64 : decode cX0_meetEarlier 64 = .ok (.getfield 69, 3) := by decide +kernel
theorem dX0_meetEarlier_67 : decode cX0_meetEarlier 67 = .ok (.iload_n 2, 1) := by decide +kernel
theorem dX0_meetEarlier_68 : decode cX0_meetEarlier 68 = .ok (.iaload, 1) := by decide +kernel
theorem dX0_meetEarlier_69 : decode cX0_meetEarlier 69 = .ok (.ifCond .eq 9, 3) := by decide +kernel
theorem dX0_meetEarlier_72 : decode cX0_meetEarlier 72 = .ok (.aload_n 0, 1) := by decide +kernel
theorem dX0_meetEarlier_73 : decode cX0_meetEarlier 73 = .ok (.iload_n 2, 1) := by decide +kernel
theorem dX0_meetEarlier_74 : decode cX0_meetEarlier 74 = .ok (.iload_n 3, 1) := by decide +kernel
theorem dX0_meetEarlier_75 : decode cX0_meetEarlier 75 = .ok (.invokevirtual 72, 3) := by decide +kernel
theorem dX0_meetEarlier_78 : decode cX0_meetEarlier 78 = .ok (.return_, 1) := by decide +kernel
theorem dX0_meetFoe_0 : decode cX0_meetFoe 0 = .ok (.aload_n 0, 1) := by decide +kernel
theorem dX0_meetFoe_1 : decode cX0_meetFoe 1 = .ok (.getfield 29, 3) := by decide +kernel
theorem dX0_meetFoe_4 : decode cX0_meetFoe 4 = .ok (.getfield 44, 3) := by decide +kernel
theorem dX0_meetFoe_7 : decode cX0_meetFoe 7 = .ok (.iload_n 2, 1) := by decide +kernel
theorem dX0_meetFoe_8 : decode cX0_meetFoe 8 = .ok (.iaload, 1) := by decide +kernel
theorem dX0_meetFoe_9 : decode cX0_meetFoe 9 = .ok (.aload_n 0, 1) := by decide +kernel
theorem dX0_meetFoe_10 : decode cX0_meetFoe 10 = .ok (.getfield 29, 3) := by decide +kernel
theorem dX0_meetFoe_13 : decode cX0_meetFoe 13 = .ok (.getfield 44, 3) := by decide +kernel
theorem dX0_meetFoe_16 : decode cX0_meetFoe 16 = .ok (.iload_n 3, 1) := by decide +kernel
theorem dX0_meetFoe_17 : decode cX0_meetFoe 17 = .ok (.iaload, 1) := by decide +kernel
theorem dX0_meetFoe_18 : decode cX0_meetFoe 18 = .ok (.isub, 1) := by decide +kernel
theorem dX0_meetFoe_19 : decode cX0_meetFoe 19 = .ok (.istore 4, 2) := by decide +kernel
theorem dX0_meetFoe_21 : decode cX0_meetFoe 21 = .ok (.iload_n 1, 1) := by decide +kernel
theorem dX0_meetFoe_22 : decode cX0_meetFoe 22 = .ok (.ifCond .eq 13, 3) := by decide +kernel
theorem dX0_meetFoe_25 : decode cX0_meetFoe 25 = .ok (.iload_n 1, 1) := by decide +kernel
theorem dX0_meetFoe_26 : decode cX0_meetFoe 26 = .ok (.iconst 2, 1) := by decide +kernel
theorem dX0_meetFoe_27 : decode cX0_meetFoe 27 = .ok (.if_icmp .ne 14, 3) := by decide +kernel
theorem dX0_meetFoe_30 : decode cX0_meetFoe 30 = .ok (.iload 4, 2) := by decide +kernel
theorem dX0_meetFoe_32 : decode cX0_meetFoe 32 = .ok (.ifCond .lt 9, 3) := by decide +kernel
theorem dX0_meetFoe_35 : decode cX0_meetFoe 35 = .ok (.aload_n 0, 1) := by decide +kernel
theorem dX0_meetFoe_36 : decode cX0_meetFoe 36 = .ok (.iload_n 2, 1) := by decide +kernel
theorem dX0_meetFoe_37 : decode cX0_meetFoe 37 = .ok (.iload_n 3, 1) := by decide +kernel
theorem dX0_meetFoe_38 : decode cX0_meetFoe 38 = .ok (.invokevirtual 72, 3) := by decide +kernel
theorem dX0_meetFoe_41 : decode cX0_meetFoe 41 = .ok (.iload_n 1, 1) := by decide +kernel
theorem dX0_meetFoe_42 : decode cX0_meetFoe 42 = .ok (.iconst 2, 1) := by decide +kernel
theorem dX0_meetFoe_43 : decode cX0_meetFoe 43 = .ok (.if_icmp .ne 8, 3) := by decide +kernel
theorem dX0_meetFoe_46 : decode cX0_meetFoe 46 = .ok (.iload 4, 2) := by decide +kernel
theorem dX0_meetFoe_48 : decode cX0_meetFoe 48 = .ok (.ifCond .gt 9, 3) := by decide +kernel
theorem dX0_meetFoe_51 : decode cX0_meetFoe 51 = .ok (.aload_n 0, 1) := by decide +kernel
theorem dX0_meetFoe_52 : decode cX0_meetFoe 52 = .ok (.iload_n 3, 1) := by decide +kernel
theorem dX0_meetFoe_53 : decode cX0_meetFoe 53 = .ok (.iload_n 2, 1) := by decide +kernel
theorem dX0_meetFoe_54 : decode cX0_meetFoe 54 = .ok (.invokevirtual 72, 3) := by decide +kernel
theorem dX0_meetFoe_57 : decode cX0_meetFoe 57 = .ok (.return_, 1) := by decide +kernel
theorem dX0_strike_0 : decode cX0_strike 0 = .ok (.aload_n 0, 1) := by decide +kernel
theorem dX0_strike_1 : decode cX0_strike 1 = .ok (.getfield 9, 3) := by decide +kernel
theorem dX0_strike_4 : decode cX0_strike 4 = .ok (.iload_n 1, 1) := by decide +kernel
theorem dX0_strike_5 : decode cX0_strike 5 = .ok (.dup2, 1) := by decide +kernel
theorem dX0_strike_6 : decode cX0_strike 6 = .ok (.iaload, 1) := by decide +kernel
theorem dX0_strike_7 : decode cX0_strike 7 = .ok (.iconst 1, 1) := by decide +kernel
theorem dX0_strike_8 : decode cX0_strike 8 = .ok (.iload_n 2, 1) := by decide +kernel
theorem dX0_strike_9 : decode cX0_strike 9 = .ok (.ishl, 1) := by decide +kernel
theorem dX0_strike_10 : decode cX0_strike 10 = .ok (.ior, 1) := by decide +kernel
theorem dX0_strike_11 : decode cX0_strike 11 = .ok (.iastore, 1) := by decide +kernel
theorem dX0_strike_12 : decode cX0_strike 12 = .ok (.aload_n 0, 1) := by decide +kernel
theorem dX0_strike_13 : decode cX0_strike 13 = .ok (.getfield 15, 3) := by decide +kernel
theorem dX0_strike_16 : decode cX0_strike 16 = .ok (.iload_n 2, 1) := by decide +kernel
theorem dX0_strike_17 : decode cX0_strike 17 = .ok (.dup2, 1) := by decide +kernel
theorem dX0_strike_18 : decode cX0_strike 18 = .ok (.iaload, 1) := by decide +kernel
theorem dX0_strike_19 : decode cX0_strike 19 = .ok (.iconst 1, 1) := by decide +kernel
theorem dX0_strike_20 : decode cX0_strike 20 = .ok (.iload_n 1, 1) := by decide +kernel
theorem dX0_strike_21 : decode cX0_strike 21 = .ok (.ishl, 1) := by decide +kernel
theorem dX0_strike_22 : decode cX0_strike 22 = .ok (.ior, 1) := by decide +kernel
theorem dX0_strike_23 : decode cX0_strike 23 = .ok (.iastore, 1) := by decide +kernel
theorem dX0_strike_24 : decode cX0_strike 24 = .ok (.return_, 1) := by decide +kernel
theorem dX0_struckBy_0 : decode cX0_struckBy 0 = .ok (.aload_n 0, 1) := by decide +kernel
theorem dX0_struckBy_1 : decode cX0_struckBy 1 = .ok (.aload_n 0, 1) := by decide +kernel
theorem dX0_struckBy_2 : decode cX0_struckBy 2 = .ok (.getfield 9, 3) := by decide +kernel
theorem dX0_struckBy_5 : decode cX0_struckBy 5 = .ok (.iload_n 1, 1) := by decide +kernel
theorem dX0_struckBy_6 : decode cX0_struckBy 6 = .ok (.invokevirtual 76, 3) := by decide +kernel
theorem dX0_struckBy_9 : decode cX0_struckBy 9 = .ok (.ireturn, 1) := by decide +kernel
theorem dX0_unionOver_0 : decode cX0_unionOver 0 = .ok (.iconst 0, 1) := by decide +kernel
theorem dX0_unionOver_1 : decode cX0_unionOver 1 = .ok (.istore_n 3, 1) := by decide +kernel
theorem dX0_unionOver_2 : decode cX0_unionOver 2 = .ok (.iconst 0, 1) := by decide +kernel
theorem dX0_unionOver_3 : decode cX0_unionOver 3 = .ok (.istore 4, 2) := by decide +kernel
theorem dX0_unionOver_5 : decode cX0_unionOver 5 = .ok (.iload 4, 2) := by decide +kernel
theorem dX0_unionOver_7 : decode cX0_unionOver 7 = .ok (.aload_n 0, 1) := by decide +kernel
theorem dX0_unionOver_8 : decode cX0_unionOver 8 = .ok (.getfield 29, 3) := by decide +kernel
theorem dX0_unionOver_11 : decode cX0_unionOver 11 = .ok (.getfield 39, 3) := by decide +kernel
theorem dX0_unionOver_14 : decode cX0_unionOver 14 = .ok (.if_icmp .ge 25, 3) := by decide +kernel
theorem dX0_unionOver_17 : decode cX0_unionOver 17 = .ok (.iload_n 2, 1) := by decide +kernel
theorem dX0_unionOver_18 : decode cX0_unionOver 18 = .ok (.iload 4, 2) := by decide +kernel
theorem dX0_unionOver_20 : decode cX0_unionOver 20 = .ok (.ishr, 1) := by decide +kernel
theorem dX0_unionOver_21 : decode cX0_unionOver 21 = .ok (.iconst 1, 1) := by decide +kernel
theorem dX0_unionOver_22 : decode cX0_unionOver 22 = .ok (.iand, 1) := by decide +kernel
theorem dX0_unionOver_23 : decode cX0_unionOver 23 = .ok (.ifCond .eq 10, 3) := by decide +kernel
theorem dX0_unionOver_26 : decode cX0_unionOver 26 = .ok (.iload_n 3, 1) := by decide +kernel
theorem dX0_unionOver_27 : decode cX0_unionOver 27 = .ok (.aload_n 1, 1) := by decide +kernel
theorem dX0_unionOver_28 : decode cX0_unionOver 28 = .ok (.iload 4, 2) := by decide +kernel
theorem dX0_unionOver_30 : decode cX0_unionOver 30 = .ok (.iaload, 1) := by decide +kernel
theorem dX0_unionOver_31 : decode cX0_unionOver 31 = .ok (.ior, 1) := by decide +kernel
theorem dX0_unionOver_32 : decode cX0_unionOver 32 = .ok (.istore_n 3, 1) := by decide +kernel
theorem dX0_unionOver_33 : decode cX0_unionOver 33 = .ok (.iinc 4 1, 3) := by decide +kernel
theorem dX0_unionOver_36 : decode cX0_unionOver 36 = .ok (.goto (-31), 3) := by decide +kernel
theorem dX0_unionOver_39 : decode cX0_unionOver 39 = .ok (.iload_n 3, 1) := by decide +kernel
theorem dX0_unionOver_40 : decode cX0_unionOver 40 = .ok (.ireturn, 1) := by decide +kernel
theorem dX0_answersForItself_0 : decode cX0_answersForItself 0 = .ok (.iload_n 1, 1) := by decide +kernel
theorem dX0_answersForItself_1 : decode cX0_answersForItself 1 = .ok (.aload_n 0, 1) := by decide +kernel
theorem dX0_answersForItself_2 : decode cX0_answersForItself 2 = .ok (.getfield 25, 3) := by decide +kernel
theorem dX0_answersForItself_5 : decode cX0_answersForItself 5 = .ok (.iconst (-1), 1) := by decide +kernel
theorem dX0_answersForItself_6 : decode cX0_answersForItself 6 = .ok (.ixor, 1) := by decide +kernel
theorem dX0_answersForItself_7 : decode cX0_answersForItself 7 = .ok (.iand, 1) := by decide +kernel
theorem dX0_answersForItself_8 : decode cX0_answersForItself 8 = .ok (.ifCond .eq 5, 3) := by decide +kernel
theorem dX0_answersForItself_11 : decode cX0_answersForItself 11 = .ok (.iconst 0, 1) := by decide +kernel
theorem dX0_answersForItself_12 : decode cX0_answersForItself 12 = .ok (.ireturn, 1) := by decide +kernel
theorem dX0_answersForItself_13 : decode cX0_answersForItself 13 = .ok (.aload_n 0, 1) := by decide +kernel
theorem dX0_answersForItself_14 : decode cX0_answersForItself 14 = .ok (.iload_n 1, 1) := by decide +kernel
theorem dX0_answersForItself_15 : decode cX0_answersForItself 15 = .ok (.invokevirtual 80, 3) := by decide +kernel
theorem dX0_answersForItself_18 : decode cX0_answersForItself 18 = .ok (.istore_n 2, 1) := by decide +kernel
theorem dX0_answersForItself_19 : decode cX0_answersForItself 19 = .ok (.iload_n 2, 1) := by decide +kernel
theorem dX0_answersForItself_20 : decode cX0_answersForItself 20 = .ok (.iload_n 1, 1) := by decide +kernel
theorem dX0_answersForItself_21 : decode cX0_answersForItself 21 = .ok (.iand, 1) := by decide +kernel
theorem dX0_answersForItself_22 : decode cX0_answersForItself 22 = .ok (.ifCond .ne 23, 3) := by decide +kernel
theorem dX0_answersForItself_25 : decode cX0_answersForItself 25 = .ok (.aload_n 0, 1) := by decide +kernel
theorem dX0_answersForItself_26 : decode cX0_answersForItself 26 = .ok (.aload_n 0, 1) := by decide +kernel
theorem dX0_answersForItself_27 : decode cX0_answersForItself 27 = .ok (.getfield 15, 3) := by decide +kernel
theorem dX0_answersForItself_30 : decode cX0_answersForItself 30 = .ok (.iload_n 1, 1) := by decide +kernel
theorem dX0_answersForItself_31 : decode cX0_answersForItself 31 = .ok (.invokevirtual 76, 3) := by decide +kernel
theorem dX0_answersForItself_34 : decode cX0_answersForItself 34 = .ok (.iload_n 2, 1) := by decide +kernel
theorem dX0_answersForItself_35 : decode cX0_answersForItself 35 = .ok (.iconst (-1), 1) := by decide +kernel
theorem dX0_answersForItself_36 : decode cX0_answersForItself 36 = .ok (.ixor, 1) := by decide +kernel
theorem dX0_answersForItself_37 : decode cX0_answersForItself 37 = .ok (.iand, 1) := by decide +kernel
theorem dX0_answersForItself_38 : decode cX0_answersForItself 38 = .ok (.ifCond .ne 7, 3) := by decide +kernel
theorem dX0_answersForItself_41 : decode cX0_answersForItself 41 = .ok (.iconst 1, 1) := by decide +kernel
theorem dX0_answersForItself_42 : decode cX0_answersForItself 42 = .ok (.goto 4, 3) := by decide +kernel
theorem dX0_answersForItself_45 : decode cX0_answersForItself 45 = .ok (.iconst 0, 1) := by decide +kernel
theorem dX0_answersForItself_46 : decode cX0_answersForItself 46 = .ok (.ireturn, 1) := by decide +kernel
theorem dX0_leastSet_0 : decode cX0_leastSet 0 = .ok (.iconst 0, 1) := by decide +kernel
theorem dX0_leastSet_1 : decode cX0_leastSet 1 = .ok (.istore_n 1, 1) := by decide +kernel
theorem dX0_leastSet_2 : decode cX0_leastSet 2 = .ok (.iconst 0, 1) := by decide +kernel
theorem dX0_leastSet_3 : decode cX0_leastSet 3 = .ok (.istore_n 2, 1) := by decide +kernel
theorem dX0_leastSet_4 : decode cX0_leastSet 4 = .ok (.iload_n 2, 1) := by decide +kernel
theorem dX0_leastSet_5 : decode cX0_leastSet 5 = .ok (.aload_n 0, 1) := by decide +kernel
theorem dX0_leastSet_6 : decode cX0_leastSet 6 = .ok (.getfield 29, 3) := by decide +kernel
theorem dX0_leastSet_9 : decode cX0_leastSet 9 = .ok (.getfield 39, 3) := by decide +kernel
theorem dX0_leastSet_12 : decode cX0_leastSet 12 = .ok (.if_icmp .gt 28, 3) := by decide +kernel
theorem dX0_leastSet_15 : decode cX0_leastSet 15 = .ok (.aload_n 0, 1) := by decide +kernel
theorem dX0_leastSet_16 : decode cX0_leastSet 16 = .ok (.aload_n 0, 1) := by decide +kernel
theorem dX0_leastSet_17 : decode cX0_leastSet 17 = .ok (.iload_n 1, 1) := by decide +kernel
theorem dX0_leastSet_18 : decode cX0_leastSet 18 = .ok (.invokevirtual 80, 3) := by decide +kernel
theorem dX0_leastSet_21 : decode cX0_leastSet 21 = .ok (.invokevirtual 84, 3) := by decide +kernel
theorem dX0_leastSet_24 : decode cX0_leastSet 24 = .ok (.istore_n 3, 1) := by decide +kernel
theorem dX0_leastSet_25 : decode cX0_leastSet 25 = .ok (.iload_n 3, 1) := by decide +kernel
theorem dX0_leastSet_26 : decode cX0_leastSet 26 = .ok (.iload_n 1, 1) := by decide +kernel
theorem dX0_leastSet_27 : decode cX0_leastSet 27 = .ok (.if_icmp .ne 5, 3) := by decide +kernel
theorem dX0_leastSet_30 : decode cX0_leastSet 30 = .ok (.iload_n 1, 1) := by decide +kernel
theorem dX0_leastSet_31 : decode cX0_leastSet 31 = .ok (.ireturn, 1) := by decide +kernel
theorem dX0_leastSet_32 : decode cX0_leastSet 32 = .ok (.iload_n 3, 1) := by decide +kernel
theorem dX0_leastSet_33 : decode cX0_leastSet 33 = .ok (.istore_n 1, 1) := by decide +kernel
theorem dX0_leastSet_34 : decode cX0_leastSet 34 = .ok (.iinc 2 1, 3) := by decide +kernel
theorem dX0_leastSet_37 : decode cX0_leastSet 37 = .ok (.goto (-33), 3) := by decide +kernel
theorem dX0_leastSet_40 : decode cX0_leastSet 40 = .ok (.iload_n 1, 1) := by decide +kernel
theorem dX0_leastSet_41 : decode cX0_leastSet 41 = .ok (.ireturn, 1) := by decide +kernel
theorem dX0_unstruckBut_0 : decode cX0_unstruckBut 0 = .ok (.iconst 0, 1) := by decide +kernel
theorem dX0_unstruckBut_1 : decode cX0_unstruckBut 1 = .ok (.istore_n 2, 1) := by decide +kernel
theorem dX0_unstruckBut_2 : decode cX0_unstruckBut 2 = .ok (.iconst 0, 1) := by decide +kernel
theorem dX0_unstruckBut_3 : decode cX0_unstruckBut 3 = .ok (.istore_n 3, 1) := by decide +kernel
theorem dX0_unstruckBut_4 : decode cX0_unstruckBut 4 = .ok (.iload_n 3, 1) := by decide +kernel
theorem dX0_unstruckBut_5 : decode cX0_unstruckBut 5 = .ok (.aload_n 0, 1) := by decide +kernel
theorem dX0_unstruckBut_6 : decode cX0_unstruckBut 6 = .ok (.getfield 29, 3) := by decide +kernel
theorem dX0_unstruckBut_9 : decode cX0_unstruckBut 9 = .ok (.getfield 39, 3) := by decide +kernel
theorem dX0_unstruckBut_12 : decode cX0_unstruckBut 12 = .ok (.if_icmp .ge 39, 3) := by decide +kernel
theorem dX0_unstruckBut_15 : decode cX0_unstruckBut 15 = .ok (.aload_n 0, 1) := by decide +kernel
theorem dX0_unstruckBut_16 : decode cX0_unstruckBut 16 = .ok (.getfield 25, 3) := by decide +kernel
theorem dX0_unstruckBut_19 : decode cX0_unstruckBut 19 = .ok (.iload_n 3, 1) := by decide +kernel
theorem dX0_unstruckBut_20 : decode cX0_unstruckBut 20 = .ok (.ishr, 1) := by decide +kernel
theorem dX0_unstruckBut_21 : decode cX0_unstruckBut 21 = .ok (.iconst 1, 1) := by decide +kernel
theorem dX0_unstruckBut_22 : decode cX0_unstruckBut 22 = .ok (.iand, 1) := by decide +kernel
theorem dX0_unstruckBut_23 : decode cX0_unstruckBut 23 = .ok (.ifCond .eq 22, 3) := by decide +kernel
theorem dX0_unstruckBut_26 : decode cX0_unstruckBut 26 = .ok (.aload_n 0, 1) := by decide +kernel
theorem dX0_unstruckBut_27 : decode cX0_unstruckBut 27 = .ok (.getfield 15, 3) := by decide +kernel
theorem dX0_unstruckBut_30 : decode cX0_unstruckBut 30 = .ok (.iload_n 3, 1) := by decide +kernel
theorem dX0_unstruckBut_31 : decode cX0_unstruckBut 31 = .ok (.iaload, 1) := by decide +kernel
theorem dX0_unstruckBut_32 : decode cX0_unstruckBut 32 = .ok (.iload_n 1, 1) := by decide +kernel
theorem dX0_unstruckBut_33 : decode cX0_unstruckBut 33 = .ok (.iconst (-1), 1) := by decide +kernel
theorem dX0_unstruckBut_34 : decode cX0_unstruckBut 34 = .ok (.ixor, 1) := by decide +kernel
theorem dX0_unstruckBut_35 : decode cX0_unstruckBut 35 = .ok (.iand, 1) := by decide +kernel
theorem dX0_unstruckBut_36 : decode cX0_unstruckBut 36 = .ok (.ifCond .ne 9, 3) := by decide +kernel
theorem dX0_unstruckBut_39 : decode cX0_unstruckBut 39 = .ok (.iload_n 2, 1) := by decide +kernel
theorem dX0_unstruckBut_40 : decode cX0_unstruckBut 40 = .ok (.iconst 1, 1) := by decide +kernel
theorem dX0_unstruckBut_41 : decode cX0_unstruckBut 41 = .ok (.iload_n 3, 1) := by decide +kernel
theorem dX0_unstruckBut_42 : decode cX0_unstruckBut 42 = .ok (.ishl, 1) := by decide +kernel
theorem dX0_unstruckBut_43 : decode cX0_unstruckBut 43 = .ok (.ior, 1) := by decide +kernel
theorem dX0_unstruckBut_44 : decode cX0_unstruckBut 44 = .ok (.istore_n 2, 1) := by decide +kernel
theorem dX0_unstruckBut_45 : decode cX0_unstruckBut 45 = .ok (.iinc 3 1, 3) := by decide +kernel
theorem dX0_unstruckBut_48 : decode cX0_unstruckBut 48 = .ok (.goto (-44), 3) := by decide +kernel
theorem dX0_unstruckBut_51 : decode cX0_unstruckBut 51 = .ok (.iload_n 2, 1) := by decide +kernel
theorem dX0_unstruckBut_52 : decode cX0_unstruckBut 52 = .ok (.ireturn, 1) := by decide +kernel
theorem dX0_markFullSets_0 : decode cX0_markFullSets 0 = .ok (.aload_n 0, 1) := by decide +kernel
theorem dX0_markFullSets_1 : decode cX0_markFullSets 1 = .ok (.getfield 25, 3) := by decide +kernel
theorem dX0_markFullSets_4 : decode cX0_markFullSets 4 = .ok (.istore_n 1, 1) := by decide +kernel
theorem dX0_markFullSets_5 : decode cX0_markFullSets 5 = .ok (.iload_n 1, 1) := by decide +kernel
theorem dX0_markFullSets_6 : decode cX0_markFullSets 6 = .ok (.ifCond .lt 56, 3) := by decide +kernel
theorem dX0_markFullSets_9 : decode cX0_markFullSets 9 = .ok (.iload_n 1, 1) := by decide +kernel
theorem dX0_markFullSets_10 : decode cX0_markFullSets 10 = .ok (.aload_n 0, 1) := by decide +kernel
theorem dX0_markFullSets_11 : decode cX0_markFullSets 11 = .ok (.getfield 25, 3) := by decide +kernel
theorem dX0_markFullSets_14 : decode cX0_markFullSets 14 = .ok (.iconst (-1), 1) := by decide +kernel
theorem dX0_markFullSets_15 : decode cX0_markFullSets 15 = .ok (.ixor, 1) := by decide +kernel
theorem dX0_markFullSets_16 : decode cX0_markFullSets 16 = .ok (.iand, 1) := by decide +kernel
theorem dX0_markFullSets_17 : decode cX0_markFullSets 17 = .ok (.ifCond .ne 39, 3) := by decide +kernel
theorem dX0_markFullSets_20 : decode cX0_markFullSets 20 = .ok (.aload_n 0, 1) := by decide +kernel
theorem dX0_markFullSets_21 : decode cX0_markFullSets 21 = .ok (.iload_n 1, 1) := by decide +kernel
theorem dX0_markFullSets_22 : decode cX0_markFullSets 22 = .ok (.invokevirtual 87, 3) := by decide +kernel
theorem dX0_markFullSets_25 : decode cX0_markFullSets 25 = .ok (.ifCond .eq 7, 3) := by decide +kernel
theorem dX0_markFullSets_28 : decode cX0_markFullSets 28 = .ok (.iconst 1, 1) := by decide +kernel
theorem dX0_markFullSets_29 : decode cX0_markFullSets 29 = .ok (.goto 4, 3) := by decide +kernel
theorem dX0_markFullSets_32 : decode cX0_markFullSets 32 = .ok (.iconst 0, 1) := by decide +kernel
theorem dX0_markFullSets_33 : decode cX0_markFullSets 33 = .ok (.istore_n 2, 1) := by decide +kernel
theorem dX0_markFullSets_34 : decode cX0_markFullSets 34 = .ok (.aload_n 0, 1) := by decide +kernel
theorem dX0_markFullSets_35 : decode cX0_markFullSets 35 = .ok (.getfield 21, 3) := by decide +kernel
theorem dX0_markFullSets_38 : decode cX0_markFullSets 38 = .ok (.iload_n 1, 1) := by decide +kernel
theorem dX0_markFullSets_39 : decode cX0_markFullSets 39 = .ok (.aload_n 0, 1) := by decide +kernel
theorem dX0_markFullSets_40 : decode cX0_markFullSets 40 = .ok (.iload_n 1, 1) := by decide +kernel
theorem dX0_markFullSets_41 : decode cX0_markFullSets 41 = .ok (.invokevirtual 91, 3) := by decide +kernel
theorem dX0_markFullSets_44 : decode cX0_markFullSets 44 = .ok (.ifCond .eq 9, 3) := by decide +kernel
theorem dX0_markFullSets_47 : decode cX0_markFullSets 47 = .ok (.iload_n 2, 1) := by decide +kernel
theorem dX0_markFullSets_48 : decode cX0_markFullSets 48 = .ok (.iconst 2, 1) := by decide +kernel
theorem dX0_markFullSets_49 : decode cX0_markFullSets 49 = .ok (.ior, 1) := by decide +kernel
theorem dX0_markFullSets_50 : decode cX0_markFullSets 50 = .ok (.goto 4, 3) := by decide +kernel
theorem dX0_markFullSets_53 : decode cX0_markFullSets 53 = .ok (.iload_n 2, 1) := by decide +kernel
theorem dX0_markFullSets_54 : decode cX0_markFullSets 54 = .ok (.i2b, 1) := by decide +kernel
theorem dX0_markFullSets_55 : decode cX0_markFullSets 55 = .ok (.bastore, 1) := by decide +kernel
theorem dX0_markFullSets_56 : decode cX0_markFullSets 56 = .ok (.iinc 1 (-1), 3) := by decide +kernel
theorem dX0_markFullSets_59 : decode cX0_markFullSets 59 = .ok (.goto (-54), 3) := by decide +kernel
theorem dX0_markFullSets_62 : decode cX0_markFullSets 62 = .ok (.return_, 1) := by decide +kernel
theorem dX0_hasGreater_0 : decode cX0_hasGreater 0 = .ok (.iconst 0, 1) := by decide +kernel
theorem dX0_hasGreater_1 : decode cX0_hasGreater 1 = .ok (.istore_n 2, 1) := by decide +kernel
theorem dX0_hasGreater_2 : decode cX0_hasGreater 2 = .ok (.iload_n 2, 1) := by decide +kernel
theorem dX0_hasGreater_3 : decode cX0_hasGreater 3 = .ok (.aload_n 0, 1) := by decide +kernel
theorem dX0_hasGreater_4 : decode cX0_hasGreater 4 = .ok (.getfield 29, 3) := by decide +kernel
theorem dX0_hasGreater_7 : decode cX0_hasGreater 7 = .ok (.getfield 39, 3) := by decide +kernel
theorem dX0_hasGreater_10 : decode cX0_hasGreater 10 = .ok (.if_icmp .ge 41, 3) := by decide +kernel
theorem dX0_hasGreater_13 : decode cX0_hasGreater 13 = .ok (.iload_n 1, 1) := by decide +kernel
theorem dX0_hasGreater_14 : decode cX0_hasGreater 14 = .ok (.iconst 1, 1) := by decide +kernel
theorem dX0_hasGreater_15 : decode cX0_hasGreater 15 = .ok (.iload_n 2, 1) := by decide +kernel
theorem dX0_hasGreater_16 : decode cX0_hasGreater 16 = .ok (.ishl, 1) := by decide +kernel
theorem dX0_hasGreater_17 : decode cX0_hasGreater 17 = .ok (.ior, 1) := by decide +kernel
theorem dX0_hasGreater_18 : decode cX0_hasGreater 18 = .ok (.istore_n 3, 1) := by decide +kernel
theorem dX0_hasGreater_19 : decode cX0_hasGreater 19 = .ok (.aload_n 0, 1) := by decide +kernel
theorem dX0_hasGreater_20 : decode cX0_hasGreater 20 = .ok (.getfield 25, 3) := by decide +kernel
theorem dX0_hasGreater_23 : decode cX0_hasGreater 23 = .ok (.iload_n 1, 1) := by decide +kernel
theorem dX0_hasGreater_24 : decode cX0_hasGreater 24 = .ok (.iconst (-1), 1) := by decide +kernel
theorem dX0_hasGreater_25 : decode cX0_hasGreater 25 = .ok (.ixor, 1) := by decide +kernel
theorem dX0_hasGreater_26 : decode cX0_hasGreater 26 = .ok (.iand, 1) := by decide +kernel
theorem dX0_hasGreater_27 : decode cX0_hasGreater 27 = .ok (.iconst 1, 1) := by decide +kernel
theorem dX0_hasGreater_28 : decode cX0_hasGreater 28 = .ok (.iload_n 2, 1) := by decide +kernel
theorem dX0_hasGreater_29 : decode cX0_hasGreater 29 = .ok (.ishl, 1) := by decide +kernel
theorem dX0_hasGreater_30 : decode cX0_hasGreater 30 = .ok (.iand, 1) := by decide +kernel
theorem dX0_hasGreater_31 : decode cX0_hasGreater 31 = .ok (.ifCond .eq 14, 3) := by decide +kernel
theorem dX0_hasGreater_34 : decode cX0_hasGreater 34 = .ok (.aload_n 0, 1) := by decide +kernel
theorem dX0_hasGreater_35 : decode cX0_hasGreater 35 = .ok (.getfield 21, 3) := by decide +kernel
theorem dX0_hasGreater_38 : decode cX0_hasGreater 38 = .ok (.iload_n 3, 1) := by decide +kernel
theorem dX0_hasGreater_39 : decode cX0_hasGreater 39 = .ok (.baload, 1) := by decide +kernel
theorem dX0_hasGreater_40 : decode cX0_hasGreater 40 = .ok (.ifCond .eq 5, 3) := by decide +kernel
theorem dX0_hasGreater_43 : decode cX0_hasGreater 43 = .ok (.iconst 1, 1) := by decide +kernel
theorem dX0_hasGreater_44 : decode cX0_hasGreater 44 = .ok (.ireturn, 1) := by decide +kernel
theorem dX0_hasGreater_45 : decode cX0_hasGreater 45 = .ok (.iinc 2 1, 3) := by decide +kernel
theorem dX0_hasGreater_48 : decode cX0_hasGreater 48 = .ok (.goto (-46), 3) := by decide +kernel
theorem dX0_hasGreater_51 : decode cX0_hasGreater 51 = .ok (.iconst 0, 1) := by decide +kernel
theorem dX0_hasGreater_52 : decode cX0_hasGreater 52 = .ok (.ireturn, 1) := by decide +kernel
theorem dX0_isFullSet_0 : decode cX0_isFullSet 0 = .ok (.iload_n 1, 1) := by decide +kernel
theorem dX0_isFullSet_1 : decode cX0_isFullSet 1 = .ok (.aload_n 0, 1) := by decide +kernel
theorem dX0_isFullSet_2 : decode cX0_isFullSet 2 = .ok (.getfield 25, 3) := by decide +kernel
theorem dX0_isFullSet_5 : decode cX0_isFullSet 5 = .ok (.iconst (-1), 1) := by decide +kernel
theorem dX0_isFullSet_6 : decode cX0_isFullSet 6 = .ok (.ixor, 1) := by decide +kernel
theorem dX0_isFullSet_7 : decode cX0_isFullSet 7 = .ok (.iand, 1) := by decide +kernel
theorem dX0_isFullSet_8 : decode cX0_isFullSet 8 = .ok (.ifCond .ne 17, 3) := by decide +kernel
theorem dX0_isFullSet_11 : decode cX0_isFullSet 11 = .ok (.aload_n 0, 1) := by decide +kernel
theorem dX0_isFullSet_12 : decode cX0_isFullSet 12 = .ok (.getfield 21, 3) := by decide +kernel
theorem dX0_isFullSet_15 : decode cX0_isFullSet 15 = .ok (.iload_n 1, 1) := by decide +kernel
theorem dX0_isFullSet_16 : decode cX0_isFullSet 16 = .ok (.baload, 1) := by decide +kernel
theorem dX0_isFullSet_17 : decode cX0_isFullSet 17 = .ok (.iconst 1, 1) := by decide +kernel
theorem dX0_isFullSet_18 : decode cX0_isFullSet 18 = .ok (.if_icmp .ne 7, 3) := by decide +kernel
theorem dX0_isFullSet_21 : decode cX0_isFullSet 21 = .ok (.iconst 1, 1) := by decide +kernel
theorem dX0_isFullSet_22 : decode cX0_isFullSet 22 = .ok (.goto 4, 3) := by decide +kernel
theorem dX0_isFullSet_25 : decode cX0_isFullSet 25 = .ok (.iconst 0, 1) := by decide +kernel
theorem dX0_isFullSet_26 : decode cX0_isFullSet 26 = .ok (.ireturn, 1) := by decide +kernel
theorem dX0_fullSets_0 : decode cX0_fullSets 0 = .ok (.iconst 0, 1) := by decide +kernel
theorem dX0_fullSets_1 : decode cX0_fullSets 1 = .ok (.istore_n 1, 1) := by decide +kernel
theorem dX0_fullSets_2 : decode cX0_fullSets 2 = .ok (.iconst 0, 1) := by decide +kernel
theorem dX0_fullSets_3 : decode cX0_fullSets 3 = .ok (.istore_n 2, 1) := by decide +kernel
theorem dX0_fullSets_4 : decode cX0_fullSets 4 = .ok (.iload_n 2, 1) := by decide +kernel
theorem dX0_fullSets_5 : decode cX0_fullSets 5 = .ok (.aload_n 0, 1) := by decide +kernel
theorem dX0_fullSets_6 : decode cX0_fullSets 6 = .ok (.getfield 25, 3) := by decide +kernel
theorem dX0_fullSets_9 : decode cX0_fullSets 9 = .ok (.if_icmp .gt 20, 3) := by decide +kernel
theorem dX0_fullSets_12 : decode cX0_fullSets 12 = .ok (.aload_n 0, 1) := by decide +kernel
theorem dX0_fullSets_13 : decode cX0_fullSets 13 = .ok (.iload_n 2, 1) := by decide +kernel
theorem dX0_fullSets_14 : decode cX0_fullSets 14 = .ok (.invokevirtual 94, 3) := by decide +kernel
theorem dX0_fullSets_17 : decode cX0_fullSets 17 = .ok (.ifCond .eq 6, 3) := by decide +kernel
theorem dX0_fullSets_20 : decode cX0_fullSets 20 = .ok (.iinc 1 1, 3) := by decide +kernel
theorem dX0_fullSets_23 : decode cX0_fullSets 23 = .ok (.iinc 2 1, 3) := by decide +kernel
theorem dX0_fullSets_26 : decode cX0_fullSets 26 = .ok (.goto (-22), 3) := by decide +kernel
theorem dX0_fullSets_29 : decode cX0_fullSets 29 = .ok (.iload_n 1, 1) := by decide +kernel
theorem dX0_fullSets_30 : decode cX0_fullSets 30 = .ok (.ireturn, 1) := by decide +kernel
theorem dX0_fullSet_0 : decode cX0_fullSet 0 = .ok (.iload_n 1, 1) := by decide +kernel
theorem dX0_fullSet_1 : decode cX0_fullSet 1 = .ok (.istore_n 2, 1) := by decide +kernel
theorem dX0_fullSet_2 : decode cX0_fullSet 2 = .ok (.iconst 0, 1) := by decide +kernel
theorem dX0_fullSet_3 : decode cX0_fullSet 3 = .ok (.istore_n 3, 1) := by decide +kernel
theorem dX0_fullSet_4 : decode cX0_fullSet 4 = .ok (.iload_n 3, 1) := by decide +kernel
theorem dX0_fullSet_5 : decode cX0_fullSet 5 = .ok (.aload_n 0, 1) := by decide +kernel
theorem dX0_fullSet_6 : decode cX0_fullSet 6 = .ok (.getfield 25, 3) := by decide +kernel
theorem dX0_fullSet_9 : decode cX0_fullSet 9 = .ok (.if_icmp .gt 26, 3) := by decide +kernel
theorem dX0_fullSet_12 : decode cX0_fullSet 12 = .ok (.aload_n 0, 1) := by decide +kernel
theorem dX0_fullSet_13 : decode cX0_fullSet 13 = .ok (.iload_n 3, 1) := by decide +kernel
theorem dX0_fullSet_14 : decode cX0_fullSet 14 = .ok (.invokevirtual 94, 3) := by decide +kernel
theorem dX0_fullSet_17 : decode cX0_fullSet 17 = .ok (.ifCond .eq 12, 3) := by decide +kernel
theorem dX0_fullSet_20 : decode cX0_fullSet 20 = .ok (.iload_n 2, 1) := by decide +kernel
theorem dX0_fullSet_21 : decode cX0_fullSet 21 = .ok (.ifCond .ne 5, 3) := by decide +kernel
theorem dX0_fullSet_24 : decode cX0_fullSet 24 = .ok (.iload_n 3, 1) := by decide +kernel
theorem dX0_fullSet_25 : decode cX0_fullSet 25 = .ok (.ireturn, 1) := by decide +kernel
theorem dX0_fullSet_26 : decode cX0_fullSet 26 = .ok (.iinc 2 (-1), 3) := by decide +kernel
theorem dX0_fullSet_29 : decode cX0_fullSet 29 = .ok (.iinc 3 1, 3) := by decide +kernel
theorem dX0_fullSet_32 : decode cX0_fullSet 32 = .ok (.goto (-28), 3) := by decide +kernel
theorem dX0_fullSet_35 : decode cX0_fullSet 35 = .ok (.iconst (-1), 1) := by decide +kernel
theorem dX0_fullSet_36 : decode cX0_fullSet 36 = .ok (.ireturn, 1) := by decide +kernel
theorem dX0_firmness_0 : decode cX0_firmness 0 = .ok (.iconst 1, 1) := by decide +kernel
theorem dX0_firmness_1 : decode cX0_firmness 1 = .ok (.istore_n 2, 1) := by decide +kernel
theorem dX0_firmness_2 : decode cX0_firmness 2 = .ok (.iconst 0, 1) := by decide +kernel
theorem dX0_firmness_3 : decode cX0_firmness 3 = .ok (.istore_n 3, 1) := by decide +kernel
theorem dX0_firmness_4 : decode cX0_firmness 4 = .ok (.iconst 0, 1) := by decide +kernel
theorem dX0_firmness_5 : decode cX0_firmness 5 = .ok (.istore 4, 2) := by decide +kernel
theorem dX0_firmness_7 : decode cX0_firmness 7 = .ok (.iload 4, 2) := by decide +kernel
theorem dX0_firmness_9 : decode cX0_firmness 9 = .ok (.aload_n 0, 1) := by decide +kernel
theorem dX0_firmness_10 : decode cX0_firmness 10 = .ok (.getfield 25, 3) := by decide +kernel
theorem dX0_firmness_13 : decode cX0_firmness 13 = .ok (.if_icmp .gt 44, 3) := by decide +kernel
theorem dX0_firmness_16 : decode cX0_firmness 16 = .ok (.aload_n 0, 1) := by decide +kernel
theorem dX0_firmness_17 : decode cX0_firmness 17 = .ok (.iload 4, 2) := by decide +kernel
theorem dX0_firmness_19 : decode cX0_firmness 19 = .ok (.invokevirtual 94, 3) := by decide +kernel
theorem dX0_firmness_22 : decode cX0_firmness 22 = .ok (.ifCond .eq 29, 3) := by decide +kernel
theorem dX0_firmness_25 : decode cX0_firmness 25 = .ok (.iload 4, 2) := by decide +kernel
theorem dX0_firmness_27 : decode cX0_firmness 27 = .ok (.iload_n 1, 1) := by decide +kernel
theorem dX0_firmness_28 : decode cX0_firmness 28 = .ok (.ishr, 1) := by decide +kernel
theorem dX0_firmness_29 : decode cX0_firmness 29 = .ok (.iconst 1, 1) := by decide +kernel
theorem dX0_firmness_30 : decode cX0_firmness 30 = .ok (.iand, 1) := by decide +kernel
theorem dX0_firmness_31 : decode cX0_firmness 31 = .ok (.ifCond .eq 7, 3) := by decide +kernel
theorem dX0_firmness_34 : decode cX0_firmness 34 = .ok (.iconst 1, 1) := by decide +kernel
theorem dX0_firmness_35 : decode cX0_firmness 35 = .ok (.goto 4, 3) := by decide +kernel
theorem dX0_firmness_38 : decode cX0_firmness 38 = .ok (.iconst 0, 1) := by decide +kernel
theorem dX0_firmness_39 : decode cX0_firmness 39 = .ok (.istore 5, 2) := by decide +kernel
theorem dX0_firmness_41 : decode cX0_firmness 41 = .ok (.iload_n 2, 1) := by decide +kernel
theorem dX0_firmness_42 : decode cX0_firmness 42 = .ok (.iload 5, 2) := by decide +kernel
theorem dX0_firmness_44 : decode cX0_firmness 44 = .ok (.iand, 1) := by decide +kernel
theorem dX0_firmness_45 : decode cX0_firmness 45 = .ok (.istore_n 2, 1) := by decide +kernel
theorem dX0_firmness_46 : decode cX0_firmness 46 = .ok (.iload_n 3, 1) := by decide +kernel
theorem dX0_firmness_47 : decode cX0_firmness 47 = .ok (.iload 5, 2) := by decide +kernel
theorem dX0_firmness_49 : decode cX0_firmness 49 = .ok (.ior, 1) := by decide +kernel
theorem dX0_firmness_50 : decode cX0_firmness 50 = .ok (.istore_n 3, 1) := by decide +kernel
theorem dX0_firmness_51 : decode cX0_firmness 51 = .ok (.iinc 4 1, 3) := by decide +kernel
theorem dX0_firmness_54 : decode cX0_firmness 54 = .ok (.goto (-47), 3) := by decide +kernel
theorem dX0_firmness_57 : decode cX0_firmness 57 = .ok (.iload_n 3, 1) := by decide +kernel
theorem dX0_firmness_58 : decode cX0_firmness 58 = .ok (.ifCond .eq 15, 3) := by decide +kernel
theorem dX0_firmness_61 : decode cX0_firmness 61 = .ok (.iload_n 2, 1) := by decide +kernel
theorem dX0_firmness_62 : decode cX0_firmness 62 = .ok (.ifCond .eq 7, 3) := by decide +kernel
theorem dX0_firmness_65 : decode cX0_firmness 65 = .ok (.iconst 2, 1) := by decide +kernel
theorem dX0_firmness_66 : decode cX0_firmness 66 = .ok (.goto 8, 3) := by decide +kernel
theorem dX0_firmness_69 : decode cX0_firmness 69 = .ok (.iconst 1, 1) := by decide +kernel
theorem dX0_firmness_70 : decode cX0_firmness 70 = .ok (.goto 4, 3) := by decide +kernel
theorem dX0_firmness_73 : decode cX0_firmness 73 = .ok (.iconst 0, 1) := by decide +kernel
theorem dX0_firmness_74 : decode cX0_firmness 74 = .ok (.ireturn, 1) := by decide +kernel
theorem dX0_onRings_0 : decode cX0_onRings 0 = .ok (.aload_n 0, 1) := by decide +kernel
theorem dX0_onRings_1 : decode cX0_onRings 1 = .ok (.getfield 9, 3) := by decide +kernel
theorem dX0_onRings_4 : decode cX0_onRings 4 = .ok (.iconst 0, 1) := by decide +kernel
theorem dX0_onRings_5 : decode cX0_onRings 5 = .ok (.aload_n 0, 1) := by decide +kernel
theorem dX0_onRings_6 : decode cX0_onRings 6 = .ok (.getfield 18, 3) := by decide +kernel
theorem dX0_onRings_9 : decode cX0_onRings 9 = .ok (.iconst 0, 1) := by decide +kernel
theorem dX0_onRings_10 : decode cX0_onRings 10 = .ok (.bipush 10, 2) := by decide +kernel
theorem dX0_onRings_12 : decode cX0_onRings 12 = .ok (.invokestatic 97, 3) := by decide +kernel
theorem dX0_onRings_15 : decode cX0_onRings 15 = .ok (.iconst 0, 1) := by decide +kernel
theorem dX0_onRings_16 : decode cX0_onRings 16 = .ok (.istore_n 1, 1) := by decide +kernel
theorem dX0_onRings_17 : decode cX0_onRings 17 = .ok (.iload_n 1, 1) := by decide +kernel
theorem dX0_onRings_18 : decode cX0_onRings 18 = .ok (.aload_n 0, 1) := by decide +kernel
theorem dX0_onRings_19 : decode cX0_onRings 19 = .ok (.getfield 29, 3) := by decide +kernel
theorem dX0_onRings_22 : decode cX0_onRings 22 = .ok (.getfield 39, 3) := by decide +kernel
theorem dX0_onRings_25 : decode cX0_onRings 25 = .ok (.if_icmp .ge 56, 3) := by decide +kernel
theorem dX0_onRings_28 : decode cX0_onRings 28 = .ok (.iconst 0, 1) := by decide +kernel
theorem dX0_onRings_29 : decode cX0_onRings 29 = .ok (.istore_n 2, 1) := by decide +kernel
theorem dX0_onRings_30 : decode cX0_onRings 30 = .ok (.iload_n 2, 1) := by decide +kernel
theorem dX0_onRings_31 : decode cX0_onRings 31 = .ok (.aload_n 0, 1) := by decide +kernel
theorem dX0_onRings_32 : decode cX0_onRings 32 = .ok (.getfield 29, 3) := by decide +kernel
theorem dX0_onRings_35 : decode cX0_onRings 35 = .ok (.getfield 39, 3) := by decide +kernel
theorem dX0_onRings_38 : decode cX0_onRings 38 = .ok (.if_icmp .ge 37, 3) := by decide +kernel
theorem dX0_onRings_41 : decode cX0_onRings 41 = .ok (.aload_n 0, 1) := by decide +kernel
theorem dX0_onRings_42 : decode cX0_onRings 42 = .ok (.getfield 18, 3) := by decide +kernel
theorem dX0_onRings_45 : decode cX0_onRings 45 = .ok (.iload_n 2, 1) := by decide +kernel
theorem dX0_onRings_46 : decode cX0_onRings 46 = .ok (.iaload, 1) := by decide +kernel
theorem dX0_onRings_47 : decode cX0_onRings 47 = .ok (.iload_n 1, 1) := by decide +kernel
theorem dX0_onRings_48 : decode cX0_onRings 48 = .ok (.ishr, 1) := by decide +kernel
theorem dX0_onRings_49 : decode cX0_onRings 49 = .ok (.iconst 1, 1) := by decide +kernel
theorem dX0_onRings_50 : decode cX0_onRings 50 = .ok (.iand, 1) := by decide +kernel
theorem dX0_onRings_51 : decode cX0_onRings 51 = .ok (.ifCond .eq 18, 3) := by decide +kernel
theorem dX0_onRings_54 : decode cX0_onRings 54 = .ok (.aload_n 0, 1) := by decide +kernel
theorem dX0_onRings_55 : decode cX0_onRings 55 = .ok (.getfield 18, 3) := by decide +kernel
theorem dX0_onRings_58 : decode cX0_onRings 58 = .ok (.iload_n 2, 1) := by decide +kernel
theorem dX0_onRings_59 : decode cX0_onRings 59 = .ok (.dup2, 1) := by decide +kernel
theorem dX0_onRings_60 : decode cX0_onRings 60 = .ok (.iaload, 1) := by decide +kernel
theorem dX0_onRings_61 : decode cX0_onRings 61 = .ok (.aload_n 0, 1) := by decide +kernel
theorem dX0_onRings_62 : decode cX0_onRings 62 = .ok (.getfield 18, 3) := by decide +kernel
theorem dX0_onRings_65 : decode cX0_onRings 65 = .ok (.iload_n 1, 1) := by decide +kernel
theorem dX0_onRings_66 : decode cX0_onRings 66 = .ok (.iaload, 1) := by decide +kernel
theorem dX0_onRings_67 : decode cX0_onRings 67 = .ok (.ior, 1) := by decide +kernel
theorem dX0_onRings_68 : decode cX0_onRings 68 = .ok (.iastore, 1) := by decide +kernel
theorem dX0_onRings_69 : decode cX0_onRings 69 = .ok (.iinc 2 1, 3) := by decide +kernel
theorem dX0_onRings_72 : decode cX0_onRings 72 = .ok (.goto (-42), 3) := by decide +kernel
theorem dX0_onRings_75 : decode cX0_onRings 75 = .ok (.iinc 1 1, 3) := by decide +kernel
theorem dX0_onRings_78 : decode cX0_onRings 78 = .ok (.goto (-61), 3) := by decide +kernel
theorem dX0_onRings_81 : decode cX0_onRings 81 = .ok (.iconst 0, 1) := by decide +kernel
theorem dX0_onRings_82 : decode cX0_onRings 82 = .ok (.istore_n 1, 1) := by decide +kernel
theorem dX0_onRings_83 : decode cX0_onRings 83 = .ok (.iconst 0, 1) := by decide +kernel
theorem dX0_onRings_84 : decode cX0_onRings 84 = .ok (.istore_n 2, 1) := by decide +kernel
theorem dX0_onRings_85 : decode cX0_onRings 85 = .ok (.iload_n 2, 1) := by decide +kernel
theorem dX0_onRings_86 : decode cX0_onRings 86 = .ok (.aload_n 0, 1) := by decide +kernel
theorem dX0_onRings_87 : decode cX0_onRings 87 = .ok (.getfield 29, 3) := by decide +kernel
theorem dX0_onRings_90 : decode cX0_onRings 90 = .ok (.getfield 39, 3) := by decide +kernel
theorem dX0_onRings_93 : decode cX0_onRings 93 = .ok (.if_icmp .ge 22, 3) := by decide +kernel
theorem dX0_onRings_96 : decode cX0_onRings 96 = .ok (.iload_n 1, 1) := by decide +kernel
theorem dX0_onRings_97 : decode cX0_onRings 97 = .ok (.aload_n 0, 1) := by decide +kernel
theorem dX0_onRings_98 : decode cX0_onRings 98 = .ok (.getfield 18, 3) := by decide +kernel
theorem dX0_onRings_101 : decode cX0_onRings 101 = .ok (.iload_n 2, 1) := by decide +kernel
theorem dX0_onRings_102 : decode cX0_onRings 102 = .ok (.iaload, 1) := by decide +kernel
theorem dX0_onRings_103 : decode cX0_onRings 103 = .ok (.iconst 1, 1) := by decide +kernel
theorem dX0_onRings_104 : decode cX0_onRings 104 = .ok (.iload_n 2, 1) := by decide +kernel
theorem dX0_onRings_105 : decode cX0_onRings 105 = .ok (.ishl, 1) := by decide +kernel
theorem dX0_onRings_106 : decode cX0_onRings 106 = .ok (.iand, 1) := by decide +kernel
theorem dX0_onRings_107 : decode cX0_onRings 107 = .ok (.ior, 1) := by decide +kernel
theorem dX0_onRings_108 : decode cX0_onRings 108 = .ok (.istore_n 1, 1) := by decide +kernel
theorem dX0_onRings_109 : decode cX0_onRings 109 = .ok (.iinc 2 1, 3) := by decide +kernel
theorem dX0_onRings_112 : decode cX0_onRings 112 = .ok (.goto (-27), 3) := by decide +kernel
theorem dX0_onRings_115 : decode cX0_onRings 115 = .ok (.iload_n 1, 1) := by decide +kernel
theorem dX0_onRings_116 : decode cX0_onRings 116 = .ok (.ireturn, 1) := by decide +kernel
theorem dX1_init_0 : decode cX1_init 0 = .ok (.aload_n 0, 1) := by decide +kernel
theorem dX1_init_1 : decode cX1_init 1 = .ok (.invokespecial 3, 3) := by decide +kernel
theorem dX1_init_4 : decode cX1_init 4 = .ok (.aload_n 0, 1) := by decide +kernel
theorem dX1_init_5 : decode cX1_init 5 = .ok (.iconst 0, 1) := by decide +kernel
theorem dX1_init_6 : decode cX1_init 6 = .ok (.putfield 9, 3) := by decide +kernel
theorem dX1_init_9 : decode cX1_init 9 = .ok (.aload_n 0, 1) := by decide +kernel
theorem dX1_init_10 : decode cX1_init 10 = .ok (.iconst 0, 1) := by decide +kernel
theorem dX1_init_11 : decode cX1_init 11 = .ok (.putfield 15, 3) := by decide +kernel
theorem dX1_init_14 : decode cX1_init 14 = .ok (.aload_n 0, 1) := by decide +kernel
theorem dX1_init_15 : decode cX1_init 15 = .ok (.iconst 0, 1) := by decide +kernel
theorem dX1_init_16 : decode cX1_init 16 = .ok (.putfield 18, 3) := by decide +kernel
theorem dX1_init_19 : decode cX1_init 19 = .ok (.aload_n 0, 1) := by decide +kernel
theorem dX1_init_20 : decode cX1_init 20 = .ok (.aload_n 1, 1) := by decide +kernel
theorem dX1_init_21 : decode cX1_init 21 = .ok (.putfield 21, 3) := by decide +kernel
theorem dX1_init_24 : decode cX1_init 24 = .ok (.return_, 1) := by decide +kernel
theorem dX1_begin_0 : decode cX1_begin 0 = .ok (.aload_n 0, 1) := by decide +kernel
theorem dX1_begin_1 : decode cX1_begin 1 = .ok (.iconst 0, 1) := by decide +kernel
theorem dX1_begin_2 : decode cX1_begin 2 = .ok (.putfield 9, 3) := by decide +kernel
theorem dX1_begin_5 : decode cX1_begin 5 = .ok (.aload_n 0, 1) := by decide +kernel
theorem dX1_begin_6 : decode cX1_begin 6 = .ok (.iconst 0, 1) := by decide +kernel
theorem dX1_begin_7 : decode cX1_begin 7 = .ok (.putfield 15, 3) := by decide +kernel
theorem dX1_begin_10 : decode cX1_begin 10 = .ok (.aload_n 0, 1) := by decide +kernel
theorem dX1_begin_11 : decode cX1_begin 11 = .ok (.iconst 0, 1) := by decide +kernel
theorem dX1_begin_12 : decode cX1_begin 12 = .ok (.putfield 18, 3) := by decide +kernel
theorem dX1_begin_15 : decode cX1_begin 15 = .ok (.return_, 1) := by decide +kernel
theorem dX1_byNumbers_0 : decode cX1_byNumbers 0 = .ok (.aload_n 0, 1) := by decide +kernel
theorem dX1_byNumbers_1 : decode cX1_byNumbers 1 = .ok (.invokevirtual 25, 3) := by decide +kernel
theorem dX1_byNumbers_4 : decode cX1_byNumbers 4 = .ok (.iconst 0, 1) := by decide +kernel
theorem dX1_byNumbers_5 : decode cX1_byNumbers 5 = .ok (.istore_n 3, 1) := by decide +kernel
theorem dX1_byNumbers_6 : decode cX1_byNumbers 6 = .ok (.iload_n 3, 1) := by decide +kernel
theorem dX1_byNumbers_7 : decode cX1_byNumbers 7 = .ok (.aload_n 0, 1) := by decide +kernel
theorem dX1_byNumbers_8 : decode cX1_byNumbers 8 = .ok (.getfield 21, 3) := by decide +kernel
theorem dX1_byNumbers_11 : decode cX1_byNumbers 11 = .ok (.getfield 28, 3) := by decide +kernel
theorem dX1_byNumbers_14 : decode cX1_byNumbers 14 = .ok (.if_icmp .ge 23, 3) := by decide +kernel
theorem dX1_byNumbers_17 : decode cX1_byNumbers 17 = .ok (.iload_n 2, 1) := by decide +kernel
theorem dX1_byNumbers_18 : decode cX1_byNumbers 18 = .ok (.iload_n 3, 1) := by decide +kernel
theorem dX1_byNumbers_19 : decode cX1_byNumbers 19 = .ok (.ishr, 1) := by decide +kernel
theorem dX1_byNumbers_20 : decode cX1_byNumbers 20 = .ok (.iconst 1, 1) := by decide +kernel
theorem dX1_byNumbers_21 : decode cX1_byNumbers 21 = .ok (.iand, 1) := by decide +kernel
theorem dX1_byNumbers_22 : decode cX1_byNumbers 22 = .ok (.ifCond .eq 9, 3) := by decide +kernel
theorem dX1_byNumbers_25 : decode cX1_byNumbers 25 = .ok (.aload_n 0, 1) := by decide +kernel
theorem dX1_byNumbers_26 : decode cX1_byNumbers 26 = .ok (.aload_n 1, 1) := by decide +kernel
theorem dX1_byNumbers_27 : decode cX1_byNumbers 27 = .ok (.iload_n 3, 1) := by decide +kernel
theorem dX1_byNumbers_28 : decode cX1_byNumbers 28 = .ok (.invokevirtual 33, 3) := by decide +kernel
theorem dX1_byNumbers_31 : decode cX1_byNumbers 31 = .ok (.iinc 3 1, 3) := by decide +kernel
theorem dX1_byNumbers_34 : decode cX1_byNumbers 34 = .ok (.goto (-28), 3) := by decide +kernel
theorem dX1_byNumbers_37 : decode cX1_byNumbers 37 = .ok (.return_, 1) := by decide +kernel
theorem dX1_outcome_0 : decode cX1_outcome 0 = .ok (.iload_n 1, 1) := by decide +kernel
theorem dX1_outcome_1 : decode cX1_outcome 1 = .ok (.ifCond .ne 8, 3) := by decide +kernel
theorem dX1_outcome_4 : decode cX1_outcome 4 = .ok (.aload_n 0, 1) := by decide +kernel
theorem dX1_outcome_5 : decode cX1_outcome 5 = .ok (.getfield 9, 3) := by decide +kernel
theorem dX1_outcome_8 : decode cX1_outcome 8 = .ok (.ireturn, 1) := by decide +kernel
theorem dX1_outcome_9 : decode cX1_outcome 9 = .ok (.iload_n 1, 1) := by decide +kernel
theorem dX1_outcome_10 : decode cX1_outcome 10 = .ok (.iconst 1, 1) := by decide +kernel
theorem dX1_outcome_11 : decode cX1_outcome 11 = .ok (.if_icmp .ne 10, 3) := by decide +kernel
theorem dX1_outcome_14 : decode cX1_outcome 14 = .ok (.aload_n 0, 1) := by decide +kernel
theorem dX1_outcome_15 : decode cX1_outcome 15 = .ok (.getfield 15, 3) := by decide +kernel
theorem dX1_outcome_18 : decode cX1_outcome 18 = .ok (.goto 7, 3) := by decide +kernel
theorem dX1_outcome_21 : decode cX1_outcome 21 = .ok (.aload_n 0, 1) := by decide +kernel
theorem dX1_outcome_22 : decode cX1_outcome 22 = .ok (.getfield 18, 3) := by decide +kernel
theorem dX1_outcome_25 : decode cX1_outcome 25 = .ok (.ireturn, 1) := by decide +kernel
theorem dX1_onHead_0 : decode cX1_onHead 0 = .ok (.iconst 0, 1) := by decide +kernel
theorem dX1_onHead_1 : decode cX1_onHead 1 = .ok (.istore_n 2, 1) := by decide +kernel
theorem dX1_onHead_2 : decode cX1_onHead 2 = .ok (.iconst 0, 1) := by decide +kernel
theorem dX1_onHead_3 : decode cX1_onHead 3 = .ok (.istore_n 3, 1) := by decide +kernel
theorem dX1_onHead_4 : decode cX1_onHead 4 = .ok (.iload_n 3, 1) := by decide +kernel
theorem dX1_onHead_5 : decode cX1_onHead 5 = .ok (.aload_n 0, 1) := by decide +kernel
theorem dX1_onHead_6 : decode cX1_onHead 6 = .ok (.getfield 21, 3) := by decide +kernel
theorem dX1_onHead_9 : decode cX1_onHead 9 = .ok (.getfield 28, 3) := by decide +kernel
theorem dX1_onHead_12 : decode cX1_onHead 12 = .ok (.if_icmp .ge 60, 3) := by decide +kernel
theorem dX1_onHead_15 : decode cX1_onHead 15 = .ok (.aload_n 0, 1) := by decide +kernel
theorem dX1_onHead_16 : decode cX1_onHead 16 = .ok (.getfield 21, 3) := by decide +kernel
theorem dX1_onHead_19 : decode cX1_onHead 19 = .ok (.getfield 37, 3) := by decide +kernel
theorem dX1_onHead_22 : decode cX1_onHead 22 = .ok (.iload_n 3, 1) := by decide +kernel
theorem dX1_onHead_23 : decode cX1_onHead 23 = .ok (.iaload, 1) := by decide +kernel
theorem dX1_onHead_24 : decode cX1_onHead 24 = .ok (.ifCond .ne 42, 3) := by decide +kernel
theorem dX1_onHead_27 : decode cX1_onHead 27 = .ok (.aload_n 0, 1) := by decide +kernel
theorem dX1_onHead_28 : decode cX1_onHead 28 = .ok (.getfield 15, 3) := by decide +kernel
theorem dX1_onHead_31 : decode cX1_onHead 31 = .ok (.iload_n 3, 1) := by decide +kernel
theorem dX1_onHead_32 : decode cX1_onHead 32 = .ok (.ishr, 1) := by decide +kernel
theorem dX1_onHead_33 : decode cX1_onHead 33 = .ok (.iconst 1, 1) := by decide +kernel
theorem dX1_onHead_34 : decode cX1_onHead 34 = .ok (.iand, 1) := by decide +kernel
theorem dX1_onHead_35 : decode cX1_onHead 35 = .ok (.ifCond .eq 31, 3) := by decide +kernel
theorem dX1_onHead_38 : decode cX1_onHead 38 = .ok (.aload_n 0, 1) := by decide +kernel
theorem dX1_onHead_39 : decode cX1_onHead 39 = .ok (.getfield 21, 3) := by decide +kernel
theorem dX1_onHead_42 : decode cX1_onHead 42 = .ok (.getfield 41, 3) := by decide +kernel
theorem dX1_onHead_45 : decode cX1_onHead 45 = .ok (.iload_n 3, 1) := by decide +kernel
theorem dX1_onHead_46 : decode cX1_onHead 46 = .ok (.iaload, 1) := by decide +kernel
theorem dX1_onHead_47 : decode cX1_onHead 47 = .ok (.iload_n 1, 1) := by decide +kernel
theorem dX1_onHead_48 : decode cX1_onHead 48 = .ok (.ishr, 1) := by decide +kernel
theorem dX1_onHead_49 : decode cX1_onHead 49 = .ok (.iconst 1, 1) := by decide +kernel
theorem dX1_onHead_50 : decode cX1_onHead 50 = .ok (.iand, 1) := by decide +kernel
theorem dX1_onHead_51 : decode cX1_onHead 51 = .ok (.ifCond .eq 15, 3) := by decide +kernel
theorem dX1_onHead_54 : decode cX1_onHead 54 = .ok (.iload_n 2, 1) := by decide +kernel
theorem dX1_onHead_55 : decode cX1_onHead 55 = .ok (.aload_n 0, 1) := by decide +kernel
theorem dX1_onHead_56 : decode cX1_onHead 56 = .ok (.getfield 21, 3) := by decide +kernel
theorem dX1_onHead_59 : decode cX1_onHead 59 = .ok (.getfield 44, 3) := by decide +kernel
theorem dX1_onHead_62 : decode cX1_onHead 62 = .ok (.iload_n 3, 1) := by decide +kernel
theorem dX1_onHead_63 : decode cX1_onHead 63 = .ok (.iaload, 1) := by decide +kernel
theorem dX1_onHead_64 : decode cX1_onHead 64 = .ok (.iadd, 1) := by decide +kernel
theorem dX1_onHead_65 : decode cX1_onHead 65 = .ok (.istore_n 2, 1) := by decide +kernel
theorem dX1_onHead_66 : decode cX1_onHead 66 = .ok (.iinc 3 1, 3) := by decide +kernel
theorem dX1_onHead_69 : decode cX1_onHead 69 = .ok (.goto (-65), 3) := by decide +kernel
theorem dX1_onHead_72 : decode cX1_onHead 72 = .ok (.iload_n 2, 1) := by decide +kernel
theorem dX1_onHead_73 : decode cX1_onHead 73 = .ok (.ireturn, 1) := by decide +kernel
theorem dX1_hangingOn_0 : decode cX1_hangingOn 0 = .ok (.aload_n 0, 1) := by decide +kernel
theorem dX1_hangingOn_1 : decode cX1_hangingOn 1 = .ok (.aload_n 1, 1) := by decide +kernel
theorem dX1_hangingOn_2 : decode cX1_hangingOn 2 = .ok (.iload_n 2, 1) := by decide +kernel
theorem dX1_hangingOn_3 : decode cX1_hangingOn 3 = .ok (.invokevirtual 47, 3) := by decide +kernel
theorem dX1_hangingOn_6 : decode cX1_hangingOn 6 = .ok (.aload_n 0, 1) := by decide +kernel
theorem dX1_hangingOn_7 : decode cX1_hangingOn 7 = .ok (.getfield 9, 3) := by decide +kernel
theorem dX1_hangingOn_10 : decode cX1_hangingOn 10 = .ok (.istore 4, 2) := by decide +kernel
theorem dX1_hangingOn_12 : decode cX1_hangingOn 12 = .ok (.aload_n 0, 1) := by decide +kernel
theorem dX1_hangingOn_13 : decode cX1_hangingOn 13 = .ok (.aload_n 1, 1) := by decide +kernel
theorem dX1_hangingOn_14 : decode cX1_hangingOn 14 = .ok (.iload_n 2, 1) := by decide +kernel
theorem dX1_hangingOn_15 : decode cX1_hangingOn 15 = .ok (.iconst 1, 1) := by decide +kernel
theorem dX1_hangingOn_16 : decode cX1_hangingOn 16 = .ok (.iload_n 3, 1) := by decide +kernel
theorem dX1_hangingOn_17 : decode cX1_hangingOn 17 = .ok (.ishl, 1) := by decide +kernel
theorem dX1_hangingOn_18 : decode cX1_hangingOn 18 = .ok (.iconst (-1), 1) := by decide +kernel
theorem dX1_hangingOn_19 : decode cX1_hangingOn 19 = .ok (.ixor, 1) := by decide +kernel
theorem dX1_hangingOn_20 : decode cX1_hangingOn 20 = .ok (.iand, 1) := by decide +kernel
theorem dX1_hangingOn_21 : decode cX1_hangingOn 21 = .ok (.invokevirtual 47, 3) := by decide +kernel
theorem dX1_hangingOn_24 : decode cX1_hangingOn 24 = .ok (.iload 4, 2) := by decide +kernel
theorem dX1_hangingOn_26 : decode cX1_hangingOn 26 = .ok (.aload_n 0, 1) := by decide +kernel
theorem dX1_hangingOn_27 : decode cX1_hangingOn 27 = .ok (.getfield 9, 3) := by decide +kernel
theorem dX1_hangingOn_30 : decode cX1_hangingOn 30 = .ok (.ixor, 1) := by decide +kernel
theorem dX1_hangingOn_31 : decode cX1_hangingOn 31 = .ok (.iconst 1, 1) := by decide +kernel
theorem dX1_hangingOn_32 : decode cX1_hangingOn 32 = .ok (.iload_n 3, 1) := by decide +kernel
theorem dX1_hangingOn_33 : decode cX1_hangingOn 33 = .ok (.ishl, 1) := by decide +kernel
theorem dX1_hangingOn_34 : decode cX1_hangingOn 34 = .ok (.iconst (-1), 1) := by decide +kernel
theorem dX1_hangingOn_35 : decode cX1_hangingOn 35 = .ok (.ixor, 1) := by decide +kernel
theorem dX1_hangingOn_36 : decode cX1_hangingOn 36 = .ok (.iand, 1) := by decide +kernel
theorem dX1_hangingOn_37 : decode cX1_hangingOn 37 = .ok (.invokestatic 50, 3) := by decide +kernel
theorem dX1_hangingOn_40 : decode cX1_hangingOn 40 = .ok (.ireturn, 1) := by decide +kernel
theorem dX1_ordersWith_0 : decode cX1_ordersWith 0 = .ok (.iload_n 2, 1) := by decide +kernel
theorem dX1_ordersWith_1 : decode cX1_ordersWith 1 = .ok (.ifCond .ne 5, 3) := by decide +kernel
theorem dX1_ordersWith_4 : decode cX1_ordersWith 4 = .ok (.iconst 1, 1) := by decide +kernel
theorem dX1_ordersWith_5 : decode cX1_ordersWith 5 = .ok (.ireturn, 1) := by decide +kernel
theorem dX1_ordersWith_6 : decode cX1_ordersWith 6 = .ok (.iload 4, 2) := by decide +kernel
theorem dX1_ordersWith_8 : decode cX1_ordersWith 8 = .ok (.bipush 7, 2) := by decide +kernel
theorem dX1_ordersWith_10 : decode cX1_ordersWith 10 = .ok (.if_icmp .lt 5, 3) := by decide +kernel
theorem dX1_ordersWith_13 : decode cX1_ordersWith 13 = .ok (.iconst 0, 1) := by decide +kernel
theorem dX1_ordersWith_14 : decode cX1_ordersWith 14 = .ok (.ireturn, 1) := by decide +kernel
theorem dX1_ordersWith_15 : decode cX1_ordersWith 15 = .ok (.aload_n 0, 1) := by decide +kernel
theorem dX1_ordersWith_16 : decode cX1_ordersWith 16 = .ok (.getfield 9, 3) := by decide +kernel
theorem dX1_ordersWith_19 : decode cX1_ordersWith 19 = .ok (.istore 5, 2) := by decide +kernel
theorem dX1_ordersWith_21 : decode cX1_ordersWith 21 = .ok (.aload_n 0, 1) := by decide +kernel
theorem dX1_ordersWith_22 : decode cX1_ordersWith 22 = .ok (.getfield 15, 3) := by decide +kernel
theorem dX1_ordersWith_25 : decode cX1_ordersWith 25 = .ok (.istore 6, 2) := by decide +kernel
theorem dX1_ordersWith_27 : decode cX1_ordersWith 27 = .ok (.aload_n 0, 1) := by decide +kernel
theorem dX1_ordersWith_28 : decode cX1_ordersWith 28 = .ok (.getfield 18, 3) := by decide +kernel
theorem dX1_ordersWith_31 : decode cX1_ordersWith 31 = .ok (.istore 7, 2) := by decide +kernel
theorem dX1_ordersWith_33 : decode cX1_ordersWith 33 = .ok (.iconst 0, 1) := by decide +kernel
theorem dX1_ordersWith_34 : decode cX1_ordersWith 34 = .ok (.istore 8, 2) := by decide +kernel
theorem dX1_ordersWith_36 : decode cX1_ordersWith 36 = .ok (.iconst 0, 1) := by decide +kernel
theorem dX1_ordersWith_37 : decode cX1_ordersWith 37 = .ok (.istore 9, 2) := by decide +kernel
theorem dX1_ordersWith_39 : decode cX1_ordersWith 39 = .ok (.iload 9, 2) := by decide +kernel
theorem dX1_ordersWith_41 : decode cX1_ordersWith 41 = .ok (.aload_n 0, 1) := by decide +kernel
theorem dX1_ordersWith_42 : decode cX1_ordersWith 42 = .ok (.getfield 21, 3) := by decide +kernel
theorem dX1_ordersWith_45 : decode cX1_ordersWith 45 = .ok (.getfield 28, 3) := by decide +kernel
theorem dX1_ordersWith_48 : decode cX1_ordersWith 48 = .ok (.if_icmp .ge 84, 3) := by decide +kernel
theorem dX1_ordersWith_51 : decode cX1_ordersWith 51 = .ok (.iload_n 2, 1) := by decide +kernel
theorem dX1_ordersWith_52 : decode cX1_ordersWith 52 = .ok (.iload 9, 2) := by decide +kernel
theorem dX1_ordersWith_54 : decode cX1_ordersWith 54 = .ok (.ishr, 1) := by decide +kernel
theorem dX1_ordersWith_55 : decode cX1_ordersWith 55 = .ok (.iconst 1, 1) := by decide +kernel
theorem dX1_ordersWith_56 : decode cX1_ordersWith 56 = .ok (.iand, 1) := by decide +kernel
theorem dX1_ordersWith_57 : decode cX1_ordersWith 57 = .ok (.ifCond .eq 69, 3) := by decide +kernel
theorem dX1_ordersWith_60 : decode cX1_ordersWith 60 = .ok (.aload_n 0, 1) := by decide +kernel
theorem dX1_ordersWith_61 : decode cX1_ordersWith 61 = .ok (.aload_n 1, 1) := by decide +kernel
theorem dX1_ordersWith_62 : decode cX1_ordersWith 62 = .ok (.iload 9, 2) := by decide +kernel
theorem dX1_ordersWith_64 : decode cX1_ordersWith 64 = .ok (.invokevirtual 33, 3) := by decide +kernel
theorem dX1_ordersWith_67 : decode cX1_ordersWith 67 = .ok (.iload_n 2, 1) := by decide +kernel
theorem dX1_ordersWith_68 : decode cX1_ordersWith 68 = .ok (.iconst 1, 1) := by decide +kernel
theorem dX1_ordersWith_69 : decode cX1_ordersWith 69 = .ok (.iload 9, 2) := by decide +kernel
theorem dX1_ordersWith_71 : decode cX1_ordersWith 71 = .ok (.ishl, 1) := by decide +kernel
theorem dX1_ordersWith_72 : decode cX1_ordersWith 72 = .ok (.iconst (-1), 1) := by decide +kernel
theorem dX1_ordersWith_73 : decode cX1_ordersWith 73 = .ok (.ixor, 1) := by decide +kernel
theorem dX1_ordersWith_74 : decode cX1_ordersWith 74 = .ok (.iand, 1) := by decide +kernel
theorem dX1_ordersWith_75 : decode cX1_ordersWith 75 = .ok (.istore 10, 2) := by decide +kernel
theorem dX1_ordersWith_77 : decode cX1_ordersWith 77 = .ok (.aload_n 0, 1) := by decide +kernel
theorem dX1_ordersWith_78 : decode cX1_ordersWith 78 = .ok (.getfield 9, 3) := by decide +kernel
theorem dX1_ordersWith_81 : decode cX1_ordersWith 81 = .ok (.iload 10, 2) := by decide +kernel
theorem dX1_ordersWith_83 : decode cX1_ordersWith 83 = .ok (.ior, 1) := by decide +kernel
theorem dX1_ordersWith_84 : decode cX1_ordersWith 84 = .ok (.iload_n 3, 1) := by decide +kernel
theorem dX1_ordersWith_85 : decode cX1_ordersWith 85 = .ok (.ishr, 1) := by decide +kernel
theorem dX1_ordersWith_86 : decode cX1_ordersWith 86 = .ok (.iconst 1, 1) := by decide +kernel
theorem dX1_ordersWith_87 : decode cX1_ordersWith 87 = .ok (.iand, 1) := by decide +kernel
theorem dX1_ordersWith_88 : decode cX1_ordersWith 88 = .ok (.ifCond .eq 20, 3) := by decide +kernel
theorem dX1_ordersWith_91 : decode cX1_ordersWith 91 = .ok (.iload 8, 2) := by decide +kernel
theorem dX1_ordersWith_93 : decode cX1_ordersWith 93 = .ok (.aload_n 0, 1) := by decide +kernel
theorem dX1_ordersWith_94 : decode cX1_ordersWith 94 = .ok (.aload_n 1, 1) := by decide +kernel
theorem dX1_ordersWith_95 : decode cX1_ordersWith 95 = .ok (.iload 10, 2) := by decide +kernel
theorem dX1_ordersWith_97 : decode cX1_ordersWith 97 = .ok (.iload_n 3, 1) := by decide +kernel
theorem dX1_ordersWith_98 : decode cX1_ordersWith 98 = .ok (.iload 4, 2) := by decide +kernel
theorem dX1_ordersWith_100 : decode cX1_ordersWith 100 = .ok (.iconst 1, 1) := by decide +kernel
theorem dX1_ordersWith_101 : decode cX1_ordersWith 101 = .ok (.iadd, 1) := by decide +kernel
theorem dX1_ordersWith_102 : decode cX1_ordersWith 102 = .ok (.invokevirtual 56, 3) := by decide +kernel
theorem dX1_ordersWith_105 : decode cX1_ordersWith 105 = .ok (.iadd, 1) := by decide +kernel
theorem dX1_ordersWith_106 : decode cX1_ordersWith 106 = .ok (.istore 8, 2) := by decide +kernel
theorem dX1_ordersWith_108 : decode cX1_ordersWith 108 = .ok (.aload_n 0, 1) := by decide +kernel
theorem dX1_ordersWith_109 : decode cX1_ordersWith 109 = .ok (.iload 5, 2) := by decide +kernel
theorem dX1_ordersWith_111 : decode cX1_ordersWith 111 = .ok (.putfield 9, 3) := by decide +kernel
theorem dX1_ordersWith_114 : decode cX1_ordersWith 114 = .ok (.aload_n 0, 1) := by decide +kernel
theorem dX1_ordersWith_115 : decode cX1_ordersWith 115 = .ok (.iload 6, 2) := by decide +kernel
theorem dX1_ordersWith_117 : decode cX1_ordersWith 117 = .ok (.putfield 15, 3) := by decide +kernel
theorem dX1_ordersWith_120 : decode cX1_ordersWith 120 = .ok (.aload_n 0, 1) := by decide +kernel
theorem dX1_ordersWith_121 : decode cX1_ordersWith 121 = .ok (.iload 7, 2) := by decide +kernel
theorem dX1_ordersWith_123 : decode cX1_ordersWith 123 = .ok (.putfield 18, 3) := by decide +kernel
theorem dX1_ordersWith_126 : decode cX1_ordersWith 126 = .ok (.iinc 9 1, 3) := by decide +kernel
theorem dX1_ordersWith_129 : decode cX1_ordersWith 129 = .ok (.goto (-90), 3) := by decide +kernel
theorem dX1_ordersWith_132 : decode cX1_ordersWith 132 = .ok (.iload 8, 2) := by decide +kernel
theorem dX1_ordersWith_134 : decode cX1_ordersWith 134 = .ok (.ireturn, 1) := by decide +kernel
theorem dX1_hearNext_0 : decode cX1_hearNext 0 = .ok (.aload_n 0, 1) := by decide +kernel
theorem dX1_hearNext_1 : decode cX1_hearNext 1 = .ok (.aload_n 1, 1) := by decide +kernel
theorem dX1_hearNext_2 : decode cX1_hearNext 2 = .ok (.iload_n 2, 1) := by decide +kernel
theorem dX1_hearNext_3 : decode cX1_hearNext 3 = .ok (.invokevirtual 60, 3) := by decide +kernel
theorem dX1_hearNext_6 : decode cX1_hearNext 6 = .ok (.ifCond .eq 27, 3) := by decide +kernel
theorem dX1_hearNext_9 : decode cX1_hearNext 9 = .ok (.aload_n 0, 1) := by decide +kernel
theorem dX1_hearNext_10 : decode cX1_hearNext 10 = .ok (.dup, 1) := by decide +kernel
theorem dX1_hearNext_11 : decode cX1_hearNext 11 = .ok (.getfield 9, 3) := by decide +kernel
theorem dX1_hearNext_14 : decode cX1_hearNext 14 = .ok (.iconst 1, 1) := by decide +kernel
theorem dX1_hearNext_15 : decode cX1_hearNext 15 = .ok (.iload_n 2, 1) := by decide +kernel
theorem dX1_hearNext_16 : decode cX1_hearNext 16 = .ok (.ishl, 1) := by decide +kernel
theorem dX1_hearNext_17 : decode cX1_hearNext 17 = .ok (.ior, 1) := by decide +kernel
theorem dX1_hearNext_18 : decode cX1_hearNext 18 = .ok (.putfield 9, 3) := by decide +kernel
theorem dX1_hearNext_21 : decode cX1_hearNext 21 = .ok (.aload_n 0, 1) := by decide +kernel
theorem dX1_hearNext_22 : decode cX1_hearNext 22 = .ok (.aload_n 1, 1) := by decide +kernel
theorem dX1_hearNext_23 : decode cX1_hearNext 23 = .ok (.iload_n 2, 1) := by decide +kernel
theorem dX1_hearNext_24 : decode cX1_hearNext 24 = .ok (.invokevirtual 64, 3) := by decide +kernel
theorem dX1_hearNext_27 : decode cX1_hearNext 27 = .ok (.aload_n 0, 1) := by decide +kernel
theorem dX1_hearNext_28 : decode cX1_hearNext 28 = .ok (.aload_n 1, 1) := by decide +kernel
theorem dX1_hearNext_29 : decode cX1_hearNext 29 = .ok (.iload_n 2, 1) := by decide +kernel
theorem dX1_hearNext_30 : decode cX1_hearNext 30 = .ok (.invokevirtual 67, 3) := by decide +kernel
theorem dX1_hearNext_33 : decode cX1_hearNext 33 = .ok (.return_, 1) := by decide +kernel
theorem dX1_isAble_0 : decode cX1_isAble 0 = .ok (.aload_n 0, 1) := by decide +kernel
theorem dX1_isAble_1 : decode cX1_isAble 1 = .ok (.getfield 21, 3) := by decide +kernel
theorem dX1_isAble_4 : decode cX1_isAble 4 = .ok (.getfield 41, 3) := by decide +kernel
theorem dX1_isAble_7 : decode cX1_isAble 7 = .ok (.iload_n 2, 1) := by decide +kernel
theorem dX1_isAble_8 : decode cX1_isAble 8 = .ok (.iaload, 1) := by decide +kernel
theorem dX1_isAble_9 : decode cX1_isAble 9 = .ok (.istore_n 3, 1) := by decide +kernel
theorem dX1_isAble_10 : decode cX1_isAble 10 = .ok (.aload_n 1, 1) := by decide +kernel
theorem dX1_isAble_11 : decode cX1_isAble 11 = .ok (.getfield 70, 3) := by decide +kernel
theorem dX1_isAble_14 : decode cX1_isAble 14 = .ok (.ifCond .ne 14, 3) := by decide +kernel
theorem dX1_isAble_17 : decode cX1_isAble 17 = .ok (.iload_n 3, 1) := by decide +kernel
theorem dX1_isAble_18 : decode cX1_isAble 18 = .ok (.aload_n 0, 1) := by decide +kernel
theorem dX1_isAble_19 : decode cX1_isAble 19 = .ok (.getfield 18, 3) := by decide +kernel
theorem dX1_isAble_22 : decode cX1_isAble 22 = .ok (.iand, 1) := by decide +kernel
theorem dX1_isAble_23 : decode cX1_isAble 23 = .ok (.ifCond .eq 5, 3) := by decide +kernel
theorem dX1_isAble_26 : decode cX1_isAble 26 = .ok (.iconst 0, 1) := by decide +kernel
theorem dX1_isAble_27 : decode cX1_isAble 27 = .ok (.ireturn, 1) := by decide +kernel
theorem dX1_isAble_28 : decode cX1_isAble 28 = .ok (.iload_n 3, 1) := by decide +kernel
theorem dX1_isAble_29 : decode cX1_isAble 29 = .ok (.aload_n 0, 1) := by decide +kernel
theorem dX1_isAble_30 : decode cX1_isAble 30 = .ok (.getfield 18, 3) := by decide +kernel
theorem dX1_isAble_33 : decode cX1_isAble 33 = .ok (.iconst (-1), 1) := by decide +kernel
theorem dX1_isAble_34 : decode cX1_isAble 34 = .ok (.ixor, 1) := by decide +kernel
theorem dX1_isAble_35 : decode cX1_isAble 35 = .ok (.iand, 1) := by decide +kernel
theorem dX1_isAble_36 : decode cX1_isAble 36 = .ok (.invokestatic 50, 3) := by decide +kernel
theorem dX1_isAble_39 : decode cX1_isAble 39 = .ok (.aload_n 1, 1) := by decide +kernel
theorem dX1_isAble_40 : decode cX1_isAble 40 = .ok (.getfield 75, 3) := by decide +kernel
theorem dX1_isAble_43 : decode cX1_isAble 43 = .ok (.if_icmp .lt 7, 3) := by decide +kernel
theorem dX1_isAble_46 : decode cX1_isAble 46 = .ok (.iconst 1, 1) := by decide +kernel
theorem dX1_isAble_47 : decode cX1_isAble 47 = .ok (.goto 4, 3) := by decide +kernel
theorem dX1_isAble_50 : decode cX1_isAble 50 = .ok (.iconst 0, 1) := by decide +kernel
theorem dX1_isAble_51 : decode cX1_isAble 51 = .ok (.ireturn, 1) := by decide +kernel
theorem dX1_quarrel_0 : decode cX1_quarrel 0 = .ok (.aload_n 0, 1) := by decide +kernel
theorem dX1_quarrel_1 : decode cX1_quarrel 1 = .ok (.getfield 21, 3) := by decide +kernel
theorem dX1_quarrel_4 : decode cX1_quarrel 4 = .ok (.getfield 78, 3) := by decide +kernel
theorem dX1_quarrel_7 : decode cX1_quarrel 7 = .ok (.iload_n 2, 1) := by decide +kernel
theorem dX1_quarrel_8 : decode cX1_quarrel 8 = .ok (.iaload, 1) := by decide +kernel
theorem dX1_quarrel_9 : decode cX1_quarrel 9 = .ok (.aload_n 0, 1) := by decide +kernel
theorem dX1_quarrel_10 : decode cX1_quarrel 10 = .ok (.getfield 9, 3) := by decide +kernel
theorem dX1_quarrel_13 : decode cX1_quarrel 13 = .ok (.iand, 1) := by decide +kernel
theorem dX1_quarrel_14 : decode cX1_quarrel 14 = .ok (.istore_n 3, 1) := by decide +kernel
theorem dX1_quarrel_15 : decode cX1_quarrel 15 = .ok (.iconst 0, 1) := by decide +kernel
theorem dX1_quarrel_16 : decode cX1_quarrel 16 = .ok (.istore 4, 2) := by decide +kernel
theorem dX1_quarrel_18 : decode cX1_quarrel 18 = .ok (.iload 4, 2) := by decide +kernel
theorem dX1_quarrel_20 : decode cX1_quarrel 20 = .ok (.aload_n 0, 1) := by decide +kernel
theorem dX1_quarrel_21 : decode cX1_quarrel 21 = .ok (.getfield 21, 3) := by decide +kernel
theorem dX1_quarrel_24 : decode cX1_quarrel 24 = .ok (.getfield 28, 3) := by decide +kernel
theorem dX1_quarrel_27 : decode cX1_quarrel 27 = .ok (.if_icmp .ge 55, 3) := by decide +kernel
theorem dX1_quarrel_30 : decode cX1_quarrel 30 = .ok (.iload_n 3, 1) := by decide +kernel
theorem dX1_quarrel_31 : decode cX1_quarrel 31 = .ok (.iload 4, 2) := by decide +kernel
theorem dX1_quarrel_33 : decode cX1_quarrel 33 = .ok (.ishr, 1) := by decide +kernel
theorem dX1_quarrel_34 : decode cX1_quarrel 34 = .ok (.ifCond .eq 48, 3) := by decide +kernel
theorem dX1_quarrel_37 : decode cX1_quarrel 37 = .ok (.aload_n 0, 1) := by decide +kernel
theorem dX1_quarrel_38 : decode cX1_quarrel 38 = .ok (.getfield 9, 3) := by decide +kernel
theorem dX1_quarrel_41 : decode cX1_quarrel 41 = .ok (.iload_n 2, 1) := by decide +kernel
theorem dX1_quarrel_42 : decode cX1_quarrel 42 = .ok (.ishr, 1) := by decide +kernel
theorem dX1_quarrel_43 : decode cX1_quarrel 43 = .ok (.iconst 1, 1) := by decide +kernel
theorem dX1_quarrel_44 : decode cX1_quarrel 44 = .ok (.iand, 1) := by decide +kernel
theorem dX1_quarrel_45 : decode cX1_quarrel 45 = .ok (.ifCond .eq 37, 3) := by decide +kernel
theorem dX1_quarrel_48 : decode cX1_quarrel 48 = .ok (.iload_n 3, 1) := by decide +kernel
theorem dX1_quarrel_49 : decode cX1_quarrel 49 = .ok (.iload 4, 2) := by decide +kernel
theorem dX1_quarrel_51 : decode cX1_quarrel 51 = .ok (.ishr, 1) := by decide +kernel
theorem dX1_quarrel_52 : decode cX1_quarrel 52 = .ok (.iconst 1, 1) := by decide +kernel
theorem dX1_quarrel_53 : decode cX1_quarrel 53 = .ok (.iand, 1) := by decide +kernel
theorem dX1_quarrel_54 : decode cX1_quarrel 54 = .ok (.ifCond .eq 22, 3) := by decide +kernel
theorem dX1_quarrel_57 : decode cX1_quarrel 57 = .ok (.aload_n 0, 1) := by decide +kernel
theorem dX1_quarrel_58 : decode cX1_quarrel 58 = .ok (.dup, 1) := by decide +kernel
theorem dX1_quarrel_59 : decode cX1_quarrel 59 = .ok (.getfield 9, 3) := by decide +kernel
theorem dX1_quarrel_62 : decode cX1_quarrel 62 = .ok (.aload_n 0, 1) := by decide +kernel
theorem dX1_quarrel_63 : decode cX1_quarrel 63 = .ok (.aload_n 1, 1) := by decide +kernel
theorem dX1_quarrel_64 : decode cX1_quarrel 64 = .ok (.iload 4, 2) := by decide +kernel
theorem dX1_quarrel_66 : decode cX1_quarrel 66 = .ok (.iload_n 2, 1) := by decide +kernel
theorem dX1_quarrel_67 : decode cX1_quarrel 67 = .ok (.invokevirtual 81, 3) := by decide +kernel
theorem dX1_quarrel_70 : decode cX1_quarrel 70 = .ok (.iconst (-1), 1) := by decide +kernel
theorem dX1_quarrel_71 : decode cX1_quarrel 71 = .ok (.ixor, 1) := by decide +kernel
theorem dX1_quarrel_72 : decode cX1_quarrel 72 = .ok (.iand, 1) := by decide +kernel
theorem dX1_quarrel_73 : decode cX1_quarrel 73 = .ok (.putfield 9, 3) := by decide +kernel
theorem dX1_quarrel_76 : decode cX1_quarrel 76 = .ok (.iinc 4 1, 3) := by decide +kernel
theorem dX1_quarrel_79 : decode cX1_quarrel 79 = .ok (.goto (-61), 3) := by decide +kernel
theorem dX1_quarrel_82 : decode cX1_quarrel 82 = .ok (.return_, 1) := by decide +kernel
theorem dX1_fallen_0 : decode cX1_fallen 0 = .ok (.aload_n 1, 1) := by decide +kernel
theorem dX1_fallen_1 : decode cX1_fallen 1 = .ok (.getfield 85, 3) := by decide +kernel
theorem dX1_fallen_4 : decode cX1_fallen 4 = .ok (.iconst 1, 1) := by decide +kernel
theorem dX1_fallen_5 : decode cX1_fallen 5 = .ok (.if_icmp .ne 7, 3) := by decide +kernel
theorem dX1_fallen_8 : decode cX1_fallen 8 = .ok (.iconst 1, 1) := by decide +kernel
theorem dX1_fallen_9 : decode cX1_fallen 9 = .ok (.iload_n 3, 1) := by decide +kernel
theorem dX1_fallen_10 : decode cX1_fallen 10 = .ok (.ishl, 1) := by decide +kernel
theorem dX1_fallen_11 : decode cX1_fallen 11 = .ok (.ireturn, 1) := by decide +kernel
theorem dX1_fallen_12 : decode cX1_fallen 12 = .ok (.iconst 1, 1) := by decide +kernel
theorem dX1_fallen_13 : decode cX1_fallen 13 = .ok (.iload_n 2, 1) := by decide +kernel
theorem dX1_fallen_14 : decode cX1_fallen 14 = .ok (.ishl, 1) := by decide +kernel
theorem dX1_fallen_15 : decode cX1_fallen 15 = .ok (.iconst 1, 1) := by decide +kernel
theorem dX1_fallen_16 : decode cX1_fallen 16 = .ok (.iload_n 3, 1) := by decide +kernel
theorem dX1_fallen_17 : decode cX1_fallen 17 = .ok (.ishl, 1) := by decide +kernel
theorem dX1_fallen_18 : decode cX1_fallen 18 = .ok (.ior, 1) := by decide +kernel
theorem dX1_fallen_19 : decode cX1_fallen 19 = .ok (.istore 4, 2) := by decide +kernel
theorem dX1_fallen_21 : decode cX1_fallen 21 = .ok (.aload_n 1, 1) := by decide +kernel
theorem dX1_fallen_22 : decode cX1_fallen 22 = .ok (.getfield 85, 3) := by decide +kernel
theorem dX1_fallen_25 : decode cX1_fallen 25 = .ok (.ifCond .ne 6, 3) := by decide +kernel
theorem dX1_fallen_28 : decode cX1_fallen 28 = .ok (.iload 4, 2) := by decide +kernel
theorem dX1_fallen_30 : decode cX1_fallen 30 = .ok (.ireturn, 1) := by decide +kernel
theorem dX1_fallen_31 : decode cX1_fallen 31 = .ok (.aload_n 0, 1) := by decide +kernel
theorem dX1_fallen_32 : decode cX1_fallen 32 = .ok (.getfield 21, 3) := by decide +kernel
theorem dX1_fallen_35 : decode cX1_fallen 35 = .ok (.getfield 88, 3) := by decide +kernel
theorem dX1_fallen_38 : decode cX1_fallen 38 = .ok (.iload_n 2, 1) := by decide +kernel
theorem dX1_fallen_39 : decode cX1_fallen 39 = .ok (.iaload, 1) := by decide +kernel
theorem dX1_fallen_40 : decode cX1_fallen 40 = .ok (.aload_n 0, 1) := by decide +kernel
theorem dX1_fallen_41 : decode cX1_fallen 41 = .ok (.getfield 21, 3) := by decide +kernel
theorem dX1_fallen_44 : decode cX1_fallen 44 = .ok (.getfield 88, 3) := by decide +kernel
theorem dX1_fallen_47 : decode cX1_fallen 47 = .ok (.iload_n 3, 1) := by decide +kernel
theorem dX1_fallen_48 : decode cX1_fallen 48 = .ok (.iaload, 1) := by decide +kernel
theorem dX1_fallen_49 : decode cX1_fallen 49 = .ok (.isub, 1) := by decide +kernel
theorem dX1_fallen_50 : decode cX1_fallen 50 = .ok (.istore 5, 2) := by decide +kernel
theorem dX1_fallen_52 : decode cX1_fallen 52 = .ok (.iload 5, 2) := by decide +kernel
theorem dX1_fallen_54 : decode cX1_fallen 54 = .ok (.ifCond .ne 8, 3) := by decide +kernel
theorem dX1_fallen_57 : decode cX1_fallen 57 = .ok (.iload 4, 2) := by decide +kernel
theorem dX1_fallen_59 : decode cX1_fallen 59 = .ok (.goto 17, 3) := by decide +kernel
theorem dX1_fallen_62 : decode cX1_fallen 62 = .ok (.iload 5, 2) := by decide +kernel
theorem dX1_fallen_64 : decode cX1_fallen 64 = .ok (.ifCond .le 9, 3) := by decide +kernel
theorem dX1_fallen_67 : decode cX1_fallen 67 = .ok (.iconst 1, 1) := by decide +kernel
theorem dX1_fallen_68 : decode cX1_fallen 68 = .ok (.iload_n 3, 1) := by decide +kernel
theorem dX1_fallen_69 : decode cX1_fallen 69 = .ok (.ishl, 1) := by decide +kernel
theorem dX1_fallen_70 : decode cX1_fallen 70 = .ok (.goto 6, 3) := by decide +kernel
theorem dX1_fallen_73 : decode cX1_fallen 73 = .ok (.iconst 1, 1) := by decide +kernel
theorem dX1_fallen_74 : decode cX1_fallen 74 = .ok (.iload_n 2, 1) := by decide +kernel
theorem dX1_fallen_75 : decode cX1_fallen 75 = .ok (.ishl, 1) := by decide +kernel
theorem dX1_fallen_76 : decode cX1_fallen 76 = .ok (.ireturn, 1) := by decide +kernel
theorem dX1_beElsewhere_0 : decode cX1_beElsewhere 0 = .ok (.aload_n 0, 1) := by decide +kernel
theorem dX1_beElsewhere_1 : decode cX1_beElsewhere 1 = .ok (.getfield 9, 3) := by decide +kernel
theorem dX1_beElsewhere_4 : decode cX1_beElsewhere 4 = .ok (.iload_n 2, 1) := by decide +kernel
theorem dX1_beElsewhere_5 : decode cX1_beElsewhere 5 = .ok (.ishr, 1) := by decide +kernel
theorem dX1_beElsewhere_6 : decode cX1_beElsewhere 6 = .ok (.iconst 1, 1) := by decide +kernel
theorem dX1_beElsewhere_7 : decode cX1_beElsewhere 7 = .ok (.iand, 1) := by decide +kernel
theorem dX1_beElsewhere_8 : decode cX1_beElsewhere 8 = .ok (.ifCond .ne 4, 3) := by decide +kernel
theorem dX1_beElsewhere_11 : decode cX1_beElsewhere 11 = .ok (.return_, 1) := by decide +kernel
theorem dX1_beElsewhere_12 : decode cX1_beElsewhere 12 = .ok (.aload_n 0, 1) := by decide +kernel
theorem dX1_beElsewhere_13 : decode cX1_beElsewhere 13 = .ok (.getfield 21, 3) := by decide +kernel
theorem dX1_beElsewhere_16 : decode cX1_beElsewhere 16 = .ok (.getfield 91, 3) := by decide +kernel
theorem dX1_beElsewhere_19 : decode cX1_beElsewhere 19 = .ok (.iload_n 2, 1) := by decide +kernel
theorem dX1_beElsewhere_20 : decode cX1_beElsewhere 20 = .ok (.iaload, 1) := by decide +kernel
theorem dX1_beElsewhere_21 : decode cX1_beElsewhere 21 = .ok (.aload_n 0, 1) := by decide +kernel
theorem dX1_beElsewhere_22 : decode cX1_beElsewhere 22 = .ok (.getfield 9, 3) := by decide +kernel
theorem dX1_beElsewhere_25 : decode cX1_beElsewhere 25 = .ok (.iand, 1) := by decide +kernel
theorem dX1_beElsewhere_26 : decode cX1_beElsewhere 26 = .ok (.ifCond .eq 20, 3) := by decide +kernel
theorem dX1_beElsewhere_29 : decode cX1_beElsewhere 29 = .ok (.aload_n 0, 1) := by decide +kernel
theorem dX1_beElsewhere_30 : decode cX1_beElsewhere 30 = .ok (.aload_n 1, 1) := by decide +kernel
theorem dX1_beElsewhere_31 : decode cX1_beElsewhere 31 = .ok (.aload_n 0, 1) := by decide +kernel
theorem dX1_beElsewhere_32 : decode cX1_beElsewhere 32 = .ok (.getfield 21, 3) := by decide +kernel
theorem dX1_beElsewhere_35 : decode cX1_beElsewhere 35 = .ok (.getfield 44, 3) := by decide +kernel
theorem dX1_beElsewhere_38 : decode cX1_beElsewhere 38 = .ok (.iload_n 2, 1) := by decide +kernel
theorem dX1_beElsewhere_39 : decode cX1_beElsewhere 39 = .ok (.iaload, 1) := by decide +kernel
theorem dX1_beElsewhere_40 : decode cX1_beElsewhere 40 = .ok (.invokevirtual 94, 3) := by decide +kernel
theorem dX1_beElsewhere_43 : decode cX1_beElsewhere 43 = .ok (.goto 26, 3) := by decide +kernel
theorem dX1_beElsewhere_46 : decode cX1_beElsewhere 46 = .ok (.aload_n 0, 1) := by decide +kernel
theorem dX1_beElsewhere_47 : decode cX1_beElsewhere 47 = .ok (.getfield 21, 3) := by decide +kernel
theorem dX1_beElsewhere_50 : decode cX1_beElsewhere 50 = .ok (.getfield 97, 3) := by decide +kernel
theorem dX1_beElsewhere_53 : decode cX1_beElsewhere 53 = .ok (.iload_n 2, 1) := by decide +kernel
theorem dX1_beElsewhere_54 : decode cX1_beElsewhere 54 = .ok (.iaload, 1) := by decide +kernel
theorem dX1_beElsewhere_55 : decode cX1_beElsewhere 55 = .ok (.aload_n 0, 1) := by decide +kernel
theorem dX1_beElsewhere_56 : decode cX1_beElsewhere 56 = .ok (.getfield 9, 3) := by decide +kernel
theorem dX1_beElsewhere_59 : decode cX1_beElsewhere 59 = .ok (.iand, 1) := by decide +kernel
theorem dX1_beElsewhere_60 : decode cX1_beElsewhere 60 = .ok (.ifCond .eq 9, 3) := by decide +kernel
theorem dX1_beElsewhere_63 : decode cX1_beElsewhere 63 = .ok (.aload_n 0, 1) := by decide +kernel
theorem dX1_beElsewhere_64 : decode cX1_beElsewhere 64 = .ok (.aload_n 1, 1) := by decide +kernel
theorem dX1_beElsewhere_65 : decode cX1_beElsewhere 65 = .ok (.iload_n 2, 1) := by decide +kernel
theorem dX1_beElsewhere_66 : decode cX1_beElsewhere 66 = .ok (.invokevirtual 94, 3) := by decide +kernel
theorem dX1_beElsewhere_69 : decode cX1_beElsewhere 69 = .ok (.return_, 1) := by decide +kernel
theorem dX1_undo_0 : decode cX1_undo 0 = .ok (.aload_n 0, 1) := by decide +kernel
theorem dX1_undo_1 : decode cX1_undo 1 = .ok (.dup, 1) := by decide +kernel
theorem dX1_undo_2 : decode cX1_undo 2 = .ok (.getfield 9, 3) := by decide +kernel
theorem dX1_undo_5 : decode cX1_undo 5 = .ok (.iconst 1, 1) := by decide +kernel
theorem dX1_undo_6 : decode cX1_undo 6 = .ok (.iload_n 2, 1) := by decide +kernel
theorem dX1_undo_7 : decode cX1_undo 7 = .ok (.ishl, 1) := by decide +kernel
theorem dX1_undo_8 : decode cX1_undo 8 = .ok (.iconst (-1), 1) := by decide +kernel
theorem dX1_undo_9 : decode cX1_undo 9 = .ok (.ixor, 1) := by decide +kernel
theorem dX1_undo_10 : decode cX1_undo 10 = .ok (.iand, 1) := by decide +kernel
theorem dX1_undo_11 : decode cX1_undo 11 = .ok (.putfield 9, 3) := by decide +kernel
theorem dX1_undo_14 : decode cX1_undo 14 = .ok (.aload_n 0, 1) := by decide +kernel
theorem dX1_undo_15 : decode cX1_undo 15 = .ok (.dup, 1) := by decide +kernel
theorem dX1_undo_16 : decode cX1_undo 16 = .ok (.getfield 15, 3) := by decide +kernel
theorem dX1_undo_19 : decode cX1_undo 19 = .ok (.iconst 1, 1) := by decide +kernel
theorem dX1_undo_20 : decode cX1_undo 20 = .ok (.iload_n 2, 1) := by decide +kernel
theorem dX1_undo_21 : decode cX1_undo 21 = .ok (.ishl, 1) := by decide +kernel
theorem dX1_undo_22 : decode cX1_undo 22 = .ok (.ior, 1) := by decide +kernel
theorem dX1_undo_23 : decode cX1_undo 23 = .ok (.putfield 15, 3) := by decide +kernel
theorem dX1_undo_26 : decode cX1_undo 26 = .ok (.aload_n 1, 1) := by decide +kernel
theorem dX1_undo_27 : decode cX1_undo 27 = .ok (.getfield 100, 3) := by decide +kernel
theorem dX1_undo_30 : decode cX1_undo 30 = .ok (.iconst 1, 1) := by decide +kernel
theorem dX1_undo_31 : decode cX1_undo 31 = .ok (.if_icmp .ne 21, 3) := by decide +kernel
theorem dX1_undo_34 : decode cX1_undo 34 = .ok (.aload_n 0, 1) := by decide +kernel
theorem dX1_undo_35 : decode cX1_undo 35 = .ok (.dup, 1) := by decide +kernel
theorem dX1_undo_36 : decode cX1_undo 36 = .ok (.getfield 18, 3) := by decide +kernel
theorem dX1_undo_39 : decode cX1_undo 39 = .ok (.aload_n 0, 1) := by decide +kernel
theorem dX1_undo_40 : decode cX1_undo 40 = .ok (.getfield 21, 3) := by decide +kernel
theorem dX1_undo_43 : decode cX1_undo 43 = .ok (.getfield 41, 3) := by decide +kernel
theorem dX1_undo_46 : decode cX1_undo 46 = .ok (.iload_n 2, 1) := by decide +kernel
theorem dX1_undo_47 : decode cX1_undo 47 = .ok (.iaload, 1) := by decide +kernel
theorem dX1_undo_48 : decode cX1_undo 48 = .ok (.ior, 1) := by decide +kernel
theorem dX1_undo_49 : decode cX1_undo 49 = .ok (.putfield 18, 3) := by decide +kernel
theorem dX1_undo_52 : decode cX1_undo 52 = .ok (.return_, 1) := by decide +kernel
theorem dX2_init_0 : decode cX2_init 0 = .ok (.aload_n 0, 1) := by decide +kernel
theorem dX2_init_1 : decode cX2_init 1 = .ok (.invokespecial 3, 3) := by decide +kernel
theorem dX2_init_4 : decode cX2_init 4 = .ok (.aload_n 0, 1) := by decide +kernel
theorem dX2_init_5 : decode cX2_init 5 = .ok (.bipush 40, 2) := by decide +kernel
theorem dX2_init_7 : decode cX2_init 7 = .ok (.newarray .int, 2) := by decide +kernel
theorem dX2_init_9 : decode cX2_init 9 = .ok (.putfield 9, 3) := by decide +kernel
theorem dX2_init_12 : decode cX2_init 12 = .ok (.aload_n 0, 1) := by decide +kernel
theorem dX2_init_13 : decode cX2_init 13 = .ok (.iconst 0, 1) := by decide +kernel
theorem dX2_init_14 : decode cX2_init 14 = .ok (.putfield 15, 3) := by decide +kernel
theorem dX2_init_17 : decode cX2_init 17 = .ok (.aload_n 0, 1) := by decide +kernel
theorem dX2_init_18 : decode cX2_init 18 = .ok (.iconst (-1), 1) := by decide +kernel
theorem dX2_init_19 : decode cX2_init 19 = .ok (.putfield 19, 3) := by decide +kernel
theorem dX2_init_22 : decode cX2_init 22 = .ok (.aload_n 0, 1) := by decide +kernel
theorem dX2_init_23 : decode cX2_init 23 = .ok (.iconst 2, 1) := by decide +kernel
theorem dX2_init_24 : decode cX2_init 24 = .ok (.putfield 22, 3) := by decide +kernel
theorem dX2_init_27 : decode cX2_init 27 = .ok (.aload_n 0, 1) := by decide +kernel
theorem dX2_init_28 : decode cX2_init 28 = .ok (.iconst 0, 1) := by decide +kernel
theorem dX2_init_29 : decode cX2_init 29 = .ok (.putfield 25, 3) := by decide +kernel
theorem dX2_init_32 : decode cX2_init 32 = .ok (.aload_n 0, 1) := by decide +kernel
theorem dX2_init_33 : decode cX2_init 33 = .ok (.iconst 0, 1) := by decide +kernel
theorem dX2_init_34 : decode cX2_init 34 = .ok (.putfield 28, 3) := by decide +kernel
theorem dX2_init_37 : decode cX2_init 37 = .ok (.aload_n 0, 1) := by decide +kernel
theorem dX2_init_38 : decode cX2_init 38 = .ok (.iconst 0, 1) := by decide +kernel
theorem dX2_init_39 : decode cX2_init 39 = .ok (.putfield 31, 3) := by decide +kernel
theorem dX2_init_42 : decode cX2_init 42 = .ok (.return_, 1) := by decide +kernel
theorem dX2_append_0 : decode cX2_append 0 = .ok (.aload_n 0, 1) := by decide +kernel
theorem dX2_append_1 : decode cX2_append 1 = .ok (.getfield 9, 3) := by decide +kernel
theorem dX2_append_4 : decode cX2_append 4 = .ok (.aload_n 0, 1) := by decide +kernel
theorem dX2_append_5 : decode cX2_append 5 = .ok (.getfield 15, 3) := by decide +kernel
theorem dX2_append_8 : decode cX2_append 8 = .ok (.iload_n 1, 1) := by decide +kernel
theorem dX2_append_9 : decode cX2_append 9 = .ok (.iastore, 1) := by decide +kernel
theorem dX2_append_10 : decode cX2_append 10 = .ok (.aload_n 0, 1) := by decide +kernel
theorem dX2_append_11 : decode cX2_append 11 = .ok (.dup, 1) := by decide +kernel
theorem dX2_append_12 : decode cX2_append 12 = .ok (.getfield 15, 3) := by decide +kernel
theorem dX2_append_15 : decode cX2_append 15 = .ok (.iconst 1, 1) := by decide +kernel
theorem dX2_append_16 : decode cX2_append 16 = .ok (.iadd, 1) := by decide +kernel
theorem dX2_append_17 : decode cX2_append 17 = .ok (.putfield 15, 3) := by decide +kernel
theorem dX2_append_20 : decode cX2_append 20 = .ok (.aload_n 0, 1) := by decide +kernel
theorem dX2_append_21 : decode cX2_append 21 = .ok (.invokevirtual 34, 3) := by decide +kernel
theorem dX2_append_24 : decode cX2_append 24 = .ok (.return_, 1) := by decide +kernel
theorem dX2_empty_0 : decode cX2_empty 0 = .ok (.aload_n 0, 1) := by decide +kernel
theorem dX2_empty_1 : decode cX2_empty 1 = .ok (.iconst 0, 1) := by decide +kernel
theorem dX2_empty_2 : decode cX2_empty 2 = .ok (.putfield 15, 3) := by decide +kernel
theorem dX2_empty_5 : decode cX2_empty 5 = .ok (.aload_n 0, 1) := by decide +kernel
theorem dX2_empty_6 : decode cX2_empty 6 = .ok (.invokevirtual 34, 3) := by decide +kernel
theorem dX2_empty_9 : decode cX2_empty 9 = .ok (.return_, 1) := by decide +kernel
theorem dX2_saysTheSameAs_0 : decode cX2_saysTheSameAs 0 = .ok (.aload_n 0, 1) := by decide +kernel
theorem dX2_saysTheSameAs_1 : decode cX2_saysTheSameAs 1 = .ok (.getfield 22, 3) := by decide +kernel
theorem dX2_saysTheSameAs_4 : decode cX2_saysTheSameAs 4 = .ok (.aload_n 1, 1) := by decide +kernel
theorem dX2_saysTheSameAs_5 : decode cX2_saysTheSameAs 5 = .ok (.getfield 22, 3) := by decide +kernel
theorem dX2_saysTheSameAs_8 : decode cX2_saysTheSameAs 8 = .ok (.if_icmp .ne 40, 3) := by decide +kernel
theorem dX2_saysTheSameAs_11 : decode cX2_saysTheSameAs 11 = .ok (.aload_n 0, 1) := by decide +kernel
theorem dX2_saysTheSameAs_12 : decode cX2_saysTheSameAs 12 = .ok (.getfield 25, 3) := by decide +kernel
theorem dX2_saysTheSameAs_15 : decode cX2_saysTheSameAs 15 = .ok (.aload_n 1, 1) := by decide +kernel
theorem dX2_saysTheSameAs_16 : decode cX2_saysTheSameAs 16 = .ok (.getfield 25, 3) := by decide +kernel
theorem dX2_saysTheSameAs_19 : decode cX2_saysTheSameAs 19 = .ok (.if_icmp .ne 29, 3) := by decide +kernel
theorem dX2_saysTheSameAs_22 : decode cX2_saysTheSameAs 22 = .ok (.aload_n 0, 1) := by decide +kernel
theorem dX2_saysTheSameAs_23 : decode cX2_saysTheSameAs 23 = .ok (.getfield 28, 3) := by decide +kernel
theorem dX2_saysTheSameAs_26 : decode cX2_saysTheSameAs 26 = .ok (.aload_n 1, 1) := by decide +kernel
theorem dX2_saysTheSameAs_27 : decode cX2_saysTheSameAs 27 = .ok (.getfield 28, 3) := by decide +kernel
theorem dX2_saysTheSameAs_30 : decode cX2_saysTheSameAs 30 = .ok (.if_icmp .ne 18, 3) := by decide +kernel
theorem dX2_saysTheSameAs_33 : decode cX2_saysTheSameAs 33 = .ok (.aload_n 0, 1) := by decide +kernel
theorem dX2_saysTheSameAs_34 : decode cX2_saysTheSameAs 34 = .ok (.getfield 31, 3) := by decide +kernel
theorem dX2_saysTheSameAs_37 : decode cX2_saysTheSameAs 37 = .ok (.aload_n 1, 1) := by decide +kernel
theorem dX2_saysTheSameAs_38 : decode cX2_saysTheSameAs 38 = .ok (.getfield 31, 3) := by decide +kernel
theorem dX2_saysTheSameAs_41 : decode cX2_saysTheSameAs 41 = .ok (.if_icmp .ne 7, 3) := by decide +kernel
theorem dX2_saysTheSameAs_44 : decode cX2_saysTheSameAs 44 = .ok (.iconst 1, 1) := by decide +kernel
theorem dX2_saysTheSameAs_45 : decode cX2_saysTheSameAs 45 = .ok (.goto 4, 3) := by decide +kernel
theorem dX2_saysTheSameAs_48 : decode cX2_saysTheSameAs 48 = .ok (.iconst 0, 1) := by decide +kernel
theorem dX2_saysTheSameAs_49 : decode cX2_saysTheSameAs 49 = .ok (.ireturn, 1) := by decide +kernel
theorem dX2_understand_0 : decode cX2_understand 0 = .ok (.aload_n 0, 1) := by decide +kernel
theorem dX2_understand_1 : decode cX2_understand 1 = .ok (.aload_n 0, 1) := by decide +kernel
theorem dX2_understand_2 : decode cX2_understand 2 = .ok (.invokevirtual 37, 3) := by decide +kernel
theorem dX2_understand_5 : decode cX2_understand 5 = .ok (.putfield 19, 3) := by decide +kernel
theorem dX2_understand_8 : decode cX2_understand 8 = .ok (.aload_n 0, 1) := by decide +kernel
theorem dX2_understand_9 : decode cX2_understand 9 = .ok (.iconst 2, 1) := by decide +kernel
theorem dX2_understand_10 : decode cX2_understand 10 = .ok (.putfield 22, 3) := by decide +kernel
theorem dX2_understand_13 : decode cX2_understand 13 = .ok (.aload_n 0, 1) := by decide +kernel
theorem dX2_understand_14 : decode cX2_understand 14 = .ok (.iconst 0, 1) := by decide +kernel
theorem dX2_understand_15 : decode cX2_understand 15 = .ok (.putfield 25, 3) := by decide +kernel
theorem dX2_understand_18 : decode cX2_understand 18 = .ok (.aload_n 0, 1) := by decide +kernel
theorem dX2_understand_19 : decode cX2_understand 19 = .ok (.iconst 0, 1) := by decide +kernel
theorem dX2_understand_20 : decode cX2_understand 20 = .ok (.putfield 28, 3) := by decide +kernel
theorem dX2_understand_23 : decode cX2_understand 23 = .ok (.aload_n 0, 1) := by decide +kernel
theorem dX2_understand_24 : decode cX2_understand 24 = .ok (.iconst 0, 1) := by decide +kernel
theorem dX2_understand_25 : decode cX2_understand 25 = .ok (.putfield 31, 3) := by decide +kernel
theorem dX2_understand_28 : decode cX2_understand 28 = .ok (.aload_n 0, 1) := by decide +kernel
theorem dX2_understand_29 : decode cX2_understand 29 = .ok (.getfield 19, 3) := by decide +kernel
theorem dX2_understand_32 : decode cX2_understand 32 = .ok (.iconst (-1), 1) := by decide +kernel
theorem dX2_understand_33 : decode cX2_understand 33 = .ok (.if_icmp .ne 42, 3) := by decide +kernel
theorem dX2_understand_36 : decode cX2_understand 36 = .ok (.iconst 0, 1) := by decide +kernel
theorem dX2_understand_37 : decode cX2_understand 37 = .ok (.istore_n 1, 1) := by decide +kernel
theorem dX2_understand_38 : decode cX2_understand 38 = .ok (.iload_n 1, 1) := by decide +kernel
theorem dX2_understand_39 : decode cX2_understand 39 = .ok (.iconst 2, 1) := by decide +kernel
theorem dX2_understand_40 : decode cX2_understand 40 = .ok (.iadd, 1) := by decide +kernel
theorem dX2_understand_41 : decode cX2_understand 41 = .ok (.aload_n 0, 1) := by decide +kernel
theorem dX2_understand_42 : decode cX2_understand 42 = .ok (.getfield 15, 3) := by decide +kernel
theorem dX2_understand_45 : decode cX2_understand 45 = .ok (.if_icmp .ge 30, 3) := by decide +kernel
theorem dX2_understand_48 : decode cX2_understand 48 = .ok (.aload_n 0, 1) := by decide +kernel
theorem dX2_understand_49 : decode cX2_understand 49 = .ok (.aload_n 0, 1) := by decide +kernel
theorem dX2_understand_50 : decode cX2_understand 50 = .ok (.getfield 9, 3) := by decide +kernel
theorem dX2_understand_53 : decode cX2_understand 53 = .ok (.iload_n 1, 1) := by decide +kernel
theorem dX2_understand_54 : decode cX2_understand 54 = .ok (.iaload, 1) := by decide +kernel
theorem dX2_understand_55 : decode cX2_understand 55 = .ok (.aload_n 0, 1) := by decide +kernel
theorem dX2_understand_56 : decode cX2_understand 56 = .ok (.getfield 9, 3) := by decide +kernel
theorem dX2_understand_59 : decode cX2_understand 59 = .ok (.iload_n 1, 1) := by decide +kernel
theorem dX2_understand_60 : decode cX2_understand 60 = .ok (.iconst 2, 1) := by decide +kernel
theorem dX2_understand_61 : decode cX2_understand 61 = .ok (.iadd, 1) := by decide +kernel
theorem dX2_understand_62 : decode cX2_understand 62 = .ok (.iaload, 1) := by decide +kernel
theorem dX2_understand_63 : decode cX2_understand 63 = .ok (.bipush 48, 2) := by decide +kernel
theorem dX2_understand_65 : decode cX2_understand 65 = .ok (.isub, 1) := by decide +kernel
theorem dX2_understand_66 : decode cX2_understand 66 = .ok (.invokevirtual 41, 3) := by decide +kernel
theorem dX2_understand_69 : decode cX2_understand 69 = .ok (.iinc 1 4, 3) := by decide +kernel
theorem dX2_understand_72 : decode cX2_understand 72 = .ok (.goto (-34), 3) := by decide +kernel
theorem dX2_understand_75 : decode cX2_understand 75 = .ok (.return_, 1) := by decide +kernel
theorem dX2_takePart_0 : decode cX2_takePart 0 = .ok (.iload_n 1, 1) := by decide +kernel
theorem dX2_takePart_1 : decode cX2_takePart 1 = .ok (.tableswitch 59 99 103 #[43, 59, 51, 59, 35], 35) := by decide +kernel
theorem dX2_takePart_36 : decode cX2_takePart 36 = .ok (.aload_n 0, 1) := by decide +kernel
theorem dX2_takePart_37 : decode cX2_takePart 37 = .ok (.iload_n 2, 1) := by decide +kernel
theorem dX2_takePart_38 : decode cX2_takePart 38 = .ok (.putfield 22, 3) := by decide +kernel
theorem dX2_takePart_41 : decode cX2_takePart 41 = .ok (.goto 24, 3) := by decide +kernel
theorem dX2_takePart_44 : decode cX2_takePart 44 = .ok (.aload_n 0, 1) := by decide +kernel
theorem dX2_takePart_45 : decode cX2_takePart 45 = .ok (.iload_n 2, 1) := by decide +kernel
theorem dX2_takePart_46 : decode cX2_takePart 46 = .ok (.putfield 25, 3) := by decide +kernel
theorem dX2_takePart_49 : decode cX2_takePart 49 = .ok (.goto 16, 3) := by decide +kernel
theorem dX2_takePart_52 : decode cX2_takePart 52 = .ok (.aload_n 0, 1) := by decide +kernel
theorem dX2_takePart_53 : decode cX2_takePart 53 = .ok (.iload_n 2, 1) := by decide +kernel
theorem dX2_takePart_54 : decode cX2_takePart 54 = .ok (.putfield 28, 3) := by decide +kernel
theorem dX2_takePart_57 : decode cX2_takePart 57 = .ok (.goto 8, 3) := by decide +kernel
theorem dX2_takePart_60 : decode cX2_takePart 60 = .ok (.aload_n 0, 1) := by decide +kernel
theorem dX2_takePart_61 : decode cX2_takePart 61 = .ok (.iload_n 2, 1) := by decide +kernel
theorem dX2_takePart_62 : decode cX2_takePart 62 = .ok (.putfield 31, 3) := by decide +kernel
theorem dX2_takePart_65 : decode cX2_takePart 65 = .ok (.return_, 1) := by decide +kernel
theorem dX2_seekFault_0 : decode cX2_seekFault 0 = .ok (.iconst 0, 1) := by decide +kernel
theorem dX2_seekFault_1 : decode cX2_seekFault 1 = .ok (.istore_n 1, 1) := by decide +kernel
theorem dX2_seekFault_2 : decode cX2_seekFault 2 = .ok (.iload_n 1, 1) := by decide +kernel
theorem dX2_seekFault_3 : decode cX2_seekFault 3 = .ok (.aload_n 0, 1) := by decide +kernel
theorem dX2_seekFault_4 : decode cX2_seekFault 4 = .ok (.getfield 15, 3) := by decide +kernel
theorem dX2_seekFault_7 : decode cX2_seekFault 7 = .ok (.if_icmp .ge 19, 3) := by decide +kernel
theorem dX2_seekFault_10 : decode cX2_seekFault 10 = .ok (.aload_n 0, 1) := by decide +kernel
theorem dX2_seekFault_11 : decode cX2_seekFault 11 = .ok (.iload_n 1, 1) := by decide +kernel
theorem dX2_seekFault_12 : decode cX2_seekFault 12 = .ok (.invokevirtual 45, 3) := by decide +kernel
theorem dX2_seekFault_15 : decode cX2_seekFault 15 = .ok (.ifCond .ne 5, 3) := by decide +kernel
theorem dX2_seekFault_18 : decode cX2_seekFault 18 = .ok (.iload_n 1, 1) := by decide +kernel
theorem dX2_seekFault_19 : decode cX2_seekFault 19 = .ok (.ireturn, 1) := by decide +kernel
theorem dX2_seekFault_20 : decode cX2_seekFault 20 = .ok (.iinc 1 1, 3) := by decide +kernel
theorem dX2_seekFault_23 : decode cX2_seekFault 23 = .ok (.goto (-21), 3) := by decide +kernel
theorem dX2_seekFault_26 : decode cX2_seekFault 26 = .ok (.aload_n 0, 1) := by decide +kernel
theorem dX2_seekFault_27 : decode cX2_seekFault 27 = .ok (.getfield 15, 3) := by decide +kernel
theorem dX2_seekFault_30 : decode cX2_seekFault 30 = .ok (.ifCond .eq 13, 3) := by decide +kernel
theorem dX2_seekFault_33 : decode cX2_seekFault 33 = .ok (.aload_n 0, 1) := by decide +kernel
theorem dX2_seekFault_34 : decode cX2_seekFault 34 = .ok (.getfield 15, 3) := by decide +kernel
theorem dX2_seekFault_37 : decode cX2_seekFault 37 = .ok (.iconst 4, 1) := by decide +kernel
theorem dX2_seekFault_38 : decode cX2_seekFault 38 = .ok (.irem, 1) := by decide +kernel
theorem dX2_seekFault_39 : decode cX2_seekFault 39 = .ok (.iconst 3, 1) := by decide +kernel
theorem dX2_seekFault_40 : decode cX2_seekFault 40 = .ok (.if_icmp .ne 7, 3) := by decide +kernel
theorem dX2_seekFault_43 : decode cX2_seekFault 43 = .ok (.iconst (-1), 1) := by decide +kernel
theorem dX2_seekFault_44 : decode cX2_seekFault 44 = .ok (.goto 7, 3) := by decide +kernel
theorem dX2_seekFault_47 : decode cX2_seekFault 47 = .ok (.aload_n 0, 1) := by decide +kernel
theorem dX2_seekFault_48 : decode cX2_seekFault 48 = .ok (.getfield 15, 3) := by decide +kernel
theorem dX2_seekFault_51 : decode cX2_seekFault 51 = .ok (.ireturn, 1) := by decide +kernel
theorem dX2_fits_0 : decode cX2_fits 0 = .ok (.iload_n 1, 1) := by decide +kernel
theorem dX2_fits_1 : decode cX2_fits 1 = .ok (.iconst 4, 1) := by decide +kernel
theorem dX2_fits_2 : decode cX2_fits 2 = .ok (.irem, 1) := by decide +kernel
theorem dX2_fits_3 : decode cX2_fits 3 = .ok (.tableswitch 87 0 2 #[25, 46, 63], 25) := by decide +kernel
theorem dX2_fits_28 : decode cX2_fits 28 = .ok (.ldc 49, 2) := by decide +kernel
theorem dX2_fits_30 : decode cX2_fits 30 = .ok (.aload_n 0, 1) := by decide +kernel
theorem dX2_fits_31 : decode cX2_fits 31 = .ok (.getfield 9, 3) := by decide +kernel
theorem dX2_fits_34 : decode cX2_fits 34 = .ok (.iload_n 1, 1) := by decide +kernel
theorem dX2_fits_35 : decode cX2_fits 35 = .ok (.iaload, 1) := by decide +kernel
theorem dX2_fits_36 : decode cX2_fits 36 = .ok (.i2c, 1) := by decide +kernel
theorem dX2_fits_37 : decode cX2_fits 37 = .ok (.invokevirtual 51, 3) := by decide +kernel
theorem dX2_fits_40 : decode cX2_fits 40 = .ok (.ifCond .lt 7, 3) := by decide +kernel
theorem dX2_fits_43 : decode cX2_fits 43 = .ok (.iconst 1, 1) := by decide +kernel
theorem dX2_fits_44 : decode cX2_fits 44 = .ok (.goto 4, 3) := by decide +kernel
theorem dX2_fits_47 : decode cX2_fits 47 = .ok (.iconst 0, 1) := by decide +kernel
theorem dX2_fits_48 : decode cX2_fits 48 = .ok (.ireturn, 1) := by decide +kernel
theorem dX2_fits_49 : decode cX2_fits 49 = .ok (.aload_n 0, 1) := by decide +kernel
theorem dX2_fits_50 : decode cX2_fits 50 = .ok (.getfield 9, 3) := by decide +kernel
theorem dX2_fits_53 : decode cX2_fits 53 = .ok (.iload_n 1, 1) := by decide +kernel
theorem dX2_fits_54 : decode cX2_fits 54 = .ok (.iaload, 1) := by decide +kernel
theorem dX2_fits_55 : decode cX2_fits 55 = .ok (.bipush 61, 2) := by decide +kernel
theorem dX2_fits_57 : decode cX2_fits 57 = .ok (.if_icmp .ne 7, 3) := by decide +kernel
theorem dX2_fits_60 : decode cX2_fits 60 = .ok (.iconst 1, 1) := by decide +kernel
theorem dX2_fits_61 : decode cX2_fits 61 = .ok (.goto 4, 3) := by decide +kernel
theorem dX2_fits_64 : decode cX2_fits 64 = .ok (.iconst 0, 1) := by decide +kernel
theorem dX2_fits_65 : decode cX2_fits 65 = .ok (.ireturn, 1) := by decide +kernel
theorem dX2_fits_66 : decode cX2_fits 66 = .ok (.ldc 49, 2) := by decide +kernel
theorem dX2_fits_68 : decode cX2_fits 68 = .ok (.aload_n 0, 1) := by decide +kernel
theorem dX2_fits_69 : decode cX2_fits 69 = .ok (.getfield 9, 3) := by decide +kernel
theorem dX2_fits_72 : decode cX2_fits 72 = .ok (.iload_n 1, 1) := by decide +kernel
theorem dX2_fits_73 : decode cX2_fits 73 = .ok (.iconst 2, 1) := by decide +kernel
theorem dX2_fits_74 : decode cX2_fits 74 = .ok (.isub, 1) := by decide +kernel
theorem dX2_fits_75 : decode cX2_fits 75 = .ok (.iaload, 1) := by decide +kernel
theorem dX2_fits_76 : decode cX2_fits 76 = .ok (.i2c, 1) := by decide +kernel
theorem dX2_fits_77 : decode cX2_fits 77 = .ok (.invokevirtual 51, 3) := by decide +kernel
theorem dX2_fits_80 : decode cX2_fits 80 = .ok (.aload_n 0, 1) := by decide +kernel
theorem dX2_fits_81 : decode cX2_fits 81 = .ok (.getfield 9, 3) := by decide +kernel
theorem dX2_fits_84 : decode cX2_fits 84 = .ok (.iload_n 1, 1) := by decide +kernel
theorem dX2_fits_85 : decode cX2_fits 85 = .ok (.iaload, 1) := by decide +kernel
theorem dX2_fits_86 : decode cX2_fits 86 = .ok (.invokestatic 57, 3) := by decide +kernel
theorem dX2_fits_89 : decode cX2_fits 89 = .ok (.ireturn, 1) := by decide +kernel
theorem dX2_fits_90 : decode cX2_fits 90 = .ok (.aload_n 0, 1) := by decide +kernel
theorem dX2_fits_91 : decode cX2_fits 91 = .ok (.getfield 9, 3) := by decide +kernel
theorem dX2_fits_94 : decode cX2_fits 94 = .ok (.iload_n 1, 1) := by decide +kernel
theorem dX2_fits_95 : decode cX2_fits 95 = .ok (.iaload, 1) := by decide +kernel
theorem dX2_fits_96 : decode cX2_fits 96 = .ok (.bipush 59, 2) := by decide +kernel
theorem dX2_fits_98 : decode cX2_fits 98 = .ok (.if_icmp .ne 7, 3) := by decide +kernel
theorem dX2_fits_101 : decode cX2_fits 101 = .ok (.iconst 1, 1) := by decide +kernel
theorem dX2_fits_102 : decode cX2_fits 102 = .ok (.goto 4, 3) := by decide +kernel
theorem dX2_fits_105 : decode cX2_fits 105 = .ok (.iconst 0, 1) := by decide +kernel
theorem dX2_fits_106 : decode cX2_fits 106 = .ok (.ireturn, 1) := by decide +kernel
theorem dX2_isFigureOf_0 : decode cX2_isFigureOf 0 = .ok (.iload_n 0, 1) := by decide +kernel
theorem dX2_isFigureOf_1 : decode cX2_isFigureOf 1 = .ok (.ifCond .lt 12, 3) := by decide +kernel
theorem dX2_isFigureOf_4 : decode cX2_isFigureOf 4 = .ok (.iload_n 0, 1) := by decide +kernel
theorem dX2_isFigureOf_5 : decode cX2_isFigureOf 5 = .ok (.ldc 49, 2) := by decide +kernel
theorem dX2_isFigureOf_7 : decode cX2_isFigureOf 7 = .ok (.invokevirtual 61, 3) := by decide +kernel
theorem dX2_isFigureOf_10 : decode cX2_isFigureOf 10 = .ok (.if_icmp .lt 5, 3) := by decide +kernel
theorem dX2_isFigureOf_13 : decode cX2_isFigureOf 13 = .ok (.iconst 0, 1) := by decide +kernel
theorem dX2_isFigureOf_14 : decode cX2_isFigureOf 14 = .ok (.ireturn, 1) := by decide +kernel
theorem dX2_isFigureOf_15 : decode cX2_isFigureOf 15 = .ok (.iload_n 1, 1) := by decide +kernel
theorem dX2_isFigureOf_16 : decode cX2_isFigureOf 16 = .ok (.ldc 64, 2) := by decide +kernel
theorem dX2_isFigureOf_18 : decode cX2_isFigureOf 18 = .ok (.iload_n 0, 1) := by decide +kernel
theorem dX2_isFigureOf_19 : decode cX2_isFigureOf 19 = .ok (.invokevirtual 66, 3) := by decide +kernel
theorem dX2_isFigureOf_22 : decode cX2_isFigureOf 22 = .ok (.if_icmp .lt 17, 3) := by decide +kernel
theorem dX2_isFigureOf_25 : decode cX2_isFigureOf 25 = .ok (.iload_n 1, 1) := by decide +kernel
theorem dX2_isFigureOf_26 : decode cX2_isFigureOf 26 = .ok (.ldc 70, 2) := by decide +kernel
theorem dX2_isFigureOf_28 : decode cX2_isFigureOf 28 = .ok (.iload_n 0, 1) := by decide +kernel
theorem dX2_isFigureOf_29 : decode cX2_isFigureOf 29 = .ok (.invokevirtual 66, 3) := by decide +kernel
theorem dX2_isFigureOf_32 : decode cX2_isFigureOf 32 = .ok (.if_icmp .gt 7, 3) := by decide +kernel
theorem dX2_isFigureOf_35 : decode cX2_isFigureOf 35 = .ok (.iconst 1, 1) := by decide +kernel
theorem dX2_isFigureOf_36 : decode cX2_isFigureOf 36 = .ok (.goto 4, 3) := by decide +kernel
theorem dX2_isFigureOf_39 : decode cX2_isFigureOf 39 = .ok (.iconst 0, 1) := by decide +kernel
theorem dX2_isFigureOf_40 : decode cX2_isFigureOf 40 = .ok (.ireturn, 1) := by decide +kernel
theorem dX3_init_0 : decode cX3_init 0 = .ok (.aload_n 0, 1) := by decide +kernel
theorem dX3_init_1 : decode cX3_init 1 = .ok (.invokespecial 3, 3) := by decide +kernel
theorem dX3_init_4 : decode cX3_init 4 = .ok (.aload_n 0, 1) := by decide +kernel
theorem dX3_init_5 : decode cX3_init 5 = .ok (.bipush 36, 2) := by decide +kernel
theorem dX3_init_7 : decode cX3_init 7 = .ok (.newarray .int, 2) := by decide +kernel
theorem dX3_init_9 : decode cX3_init 9 = .ok (.putfield 9, 3) := by decide +kernel
theorem dX3_init_12 : decode cX3_init 12 = .ok (.aload_n 0, 1) := by decide +kernel
theorem dX3_init_13 : decode cX3_init 13 = .ok (.bipush 36, 2) := by decide +kernel
theorem dX3_init_15 : decode cX3_init 15 = .ok (.newarray .int, 2) := by decide +kernel
theorem dX3_init_17 : decode cX3_init 17 = .ok (.putfield 15, 3) := by decide +kernel
theorem dX3_init_20 : decode cX3_init 20 = .ok (.aload_n 0, 1) := by decide +kernel
theorem dX3_init_21 : decode cX3_init 21 = .ok (.invokevirtual 18, 3) := by decide +kernel
theorem dX3_init_24 : decode cX3_init 24 = .ok (.return_, 1) := by decide +kernel
theorem dX3_build_0 : decode cX3_build 0 = .ok (.aload_n 0, 1) := by decide +kernel
theorem dX3_build_1 : decode cX3_build 1 = .ok (.getfield 9, 3) := by decide +kernel
theorem dX3_build_4 : decode cX3_build 4 = .ok (.iload_n 1, 1) := by decide +kernel
theorem dX3_build_5 : decode cX3_build 5 = .ok (.bipush 6, 2) := by decide +kernel
theorem dX3_build_7 : decode cX3_build 7 = .ok (.imul, 1) := by decide +kernel
theorem dX3_build_8 : decode cX3_build 8 = .ok (.iload_n 2, 1) := by decide +kernel
theorem dX3_build_9 : decode cX3_build 9 = .ok (.iadd, 1) := by decide +kernel
theorem dX3_build_10 : decode cX3_build 10 = .ok (.iaload, 1) := by decide +kernel
theorem dX3_build_11 : decode cX3_build 11 = .ok (.istore 4, 2) := by decide +kernel
theorem dX3_build_13 : decode cX3_build 13 = .ok (.aload_n 0, 1) := by decide +kernel
theorem dX3_build_14 : decode cX3_build 14 = .ok (.getfield 9, 3) := by decide +kernel
theorem dX3_build_17 : decode cX3_build 17 = .ok (.iload_n 1, 1) := by decide +kernel
theorem dX3_build_18 : decode cX3_build 18 = .ok (.bipush 6, 2) := by decide +kernel
theorem dX3_build_20 : decode cX3_build 20 = .ok (.imul, 1) := by decide +kernel
theorem dX3_build_21 : decode cX3_build 21 = .ok (.iload_n 2, 1) := by decide +kernel
theorem dX3_build_22 : decode cX3_build 22 = .ok (.iadd, 1) := by decide +kernel
theorem dX3_build_23 : decode cX3_build 23 = .ok (.iload_n 3, 1) := by decide +kernel
theorem dX3_build_24 : decode cX3_build 24 = .ok (.iastore, 1) := by decide +kernel
theorem dX3_build_25 : decode cX3_build 25 = .ok (.aload_n 0, 1) := by decide +kernel
theorem dX3_build_26 : decode cX3_build 26 = .ok (.getfield 9, 3) := by decide +kernel
theorem dX3_build_29 : decode cX3_build 29 = .ok (.iload_n 2, 1) := by decide +kernel
theorem dX3_build_30 : decode cX3_build 30 = .ok (.bipush 6, 2) := by decide +kernel
theorem dX3_build_32 : decode cX3_build 32 = .ok (.imul, 1) := by decide +kernel
theorem dX3_build_33 : decode cX3_build 33 = .ok (.iload_n 1, 1) := by decide +kernel
theorem dX3_build_34 : decode cX3_build 34 = .ok (.iadd, 1) := by decide +kernel
theorem dX3_build_35 : decode cX3_build 35 = .ok (.iload_n 3, 1) := by decide +kernel
theorem dX3_build_36 : decode cX3_build 36 = .ok (.iastore, 1) := by decide +kernel
theorem dX3_build_37 : decode cX3_build 37 = .ok (.aload_n 0, 1) := by decide +kernel
theorem dX3_build_38 : decode cX3_build 38 = .ok (.invokevirtual 18, 3) := by decide +kernel
theorem dX3_build_41 : decode cX3_build 41 = .ok (.iload 4, 2) := by decide +kernel
theorem dX3_build_43 : decode cX3_build 43 = .ok (.ireturn, 1) := by decide +kernel
theorem dX3_between_0 : decode cX3_between 0 = .ok (.aload_n 0, 1) := by decide +kernel
theorem dX3_between_1 : decode cX3_between 1 = .ok (.getfield 15, 3) := by decide +kernel
theorem dX3_between_4 : decode cX3_between 4 = .ok (.iload_n 1, 1) := by decide +kernel
theorem dX3_between_5 : decode cX3_between 5 = .ok (.bipush 6, 2) := by decide +kernel
theorem dX3_between_7 : decode cX3_between 7 = .ok (.imul, 1) := by decide +kernel
theorem dX3_between_8 : decode cX3_between 8 = .ok (.iload_n 2, 1) := by decide +kernel
theorem dX3_between_9 : decode cX3_between 9 = .ok (.iadd, 1) := by decide +kernel
theorem dX3_between_10 : decode cX3_between 10 = .ok (.iaload, 1) := by decide +kernel
theorem dX3_between_11 : decode cX3_between 11 = .ok (.ireturn, 1) := by decide +kernel
theorem dX3_number_0 : decode cX3_number 0 = .ok (.iconst 0, 1) := by decide +kernel
theorem dX3_number_1 : decode cX3_number 1 = .ok (.istore_n 1, 1) := by decide +kernel
theorem dX3_number_2 : decode cX3_number 2 = .ok (.iconst 0, 1) := by decide +kernel
theorem dX3_number_3 : decode cX3_number 3 = .ok (.istore_n 2, 1) := by decide +kernel
theorem dX3_number_4 : decode cX3_number 4 = .ok (.iload_n 2, 1) := by decide +kernel
theorem dX3_number_5 : decode cX3_number 5 = .ok (.bipush 6, 2) := by decide +kernel
theorem dX3_number_7 : decode cX3_number 7 = .ok (.if_icmp .ge 39, 3) := by decide +kernel
theorem dX3_number_10 : decode cX3_number 10 = .ok (.iconst 0, 1) := by decide +kernel
theorem dX3_number_11 : decode cX3_number 11 = .ok (.istore_n 3, 1) := by decide +kernel
theorem dX3_number_12 : decode cX3_number 12 = .ok (.iload_n 3, 1) := by decide +kernel
theorem dX3_number_13 : decode cX3_number 13 = .ok (.iload_n 2, 1) := by decide +kernel
theorem dX3_number_14 : decode cX3_number 14 = .ok (.if_icmp .ge 26, 3) := by decide +kernel
theorem dX3_number_17 : decode cX3_number 17 = .ok (.aload_n 0, 1) := by decide +kernel
theorem dX3_number_18 : decode cX3_number 18 = .ok (.getfield 9, 3) := by decide +kernel
theorem dX3_number_21 : decode cX3_number 21 = .ok (.iload_n 2, 1) := by decide +kernel
theorem dX3_number_22 : decode cX3_number 22 = .ok (.bipush 6, 2) := by decide +kernel
theorem dX3_number_24 : decode cX3_number 24 = .ok (.imul, 1) := by decide +kernel
theorem dX3_number_25 : decode cX3_number 25 = .ok (.iload_n 3, 1) := by decide +kernel
theorem dX3_number_26 : decode cX3_number 26 = .ok (.iadd, 1) := by decide +kernel
theorem dX3_number_27 : decode cX3_number 27 = .ok (.iaload, 1) := by decide +kernel
theorem dX3_number_28 : decode cX3_number 28 = .ok (.ifCond .eq 6, 3) := by decide +kernel
theorem dX3_number_31 : decode cX3_number 31 = .ok (.iinc 1 1, 3) := by decide +kernel
theorem dX3_number_34 : decode cX3_number 34 = .ok (.iinc 3 1, 3) := by decide +kernel
theorem dX3_number_37 : decode cX3_number 37 = .ok (.goto (-25), 3) := by decide +kernel
theorem dX3_number_40 : decode cX3_number 40 = .ok (.iinc 2 1, 3) := by decide +kernel
theorem dX3_number_43 : decode cX3_number 43 = .ok (.goto (-39), 3) := by decide +kernel
theorem dX3_number_46 : decode cX3_number 46 = .ok (.iload_n 1, 1) := by decide +kernel
theorem dX3_number_47 : decode cX3_number 47 = .ok (.ireturn, 1) := by decide +kernel
theorem dX3_seekQuickest_0 : decode cX3_seekQuickest 0 = .ok (.iconst 0, 1) := by decide +kernel
theorem dX3_seekQuickest_1 : decode cX3_seekQuickest 1 = .ok (.istore_n 1, 1) := by decide +kernel
theorem dX3_seekQuickest_2 : decode cX3_seekQuickest 2 = .ok (.iload_n 1, 1) := by decide +kernel
theorem dX3_seekQuickest_3 : decode cX3_seekQuickest 3 = .ok (.bipush 6, 2) := by decide +kernel
theorem dX3_seekQuickest_5 : decode cX3_seekQuickest 5 = .ok (.if_icmp .ge 66, 3) := by decide +kernel
theorem dX3_seekQuickest_8 : decode cX3_seekQuickest 8 = .ok (.iconst 0, 1) := by decide +kernel
theorem dX3_seekQuickest_9 : decode cX3_seekQuickest 9 = .ok (.istore_n 2, 1) := by decide +kernel
theorem dX3_seekQuickest_10 : decode cX3_seekQuickest 10 = .ok (.iload_n 2, 1) := by decide +kernel
theorem dX3_seekQuickest_11 : decode cX3_seekQuickest 11 = .ok (.bipush 6, 2) := by decide +kernel
theorem dX3_seekQuickest_13 : decode cX3_seekQuickest 13 = .ok (.if_icmp .ge 52, 3) := by decide +kernel
theorem dX3_seekQuickest_16 : decode cX3_seekQuickest 16 = .ok (.aload_n 0, 1) := by decide +kernel
theorem dX3_seekQuickest_17 : decode cX3_seekQuickest 17 = .ok (.getfield 9, 3) := by decide +kernel
theorem dX3_seekQuickest_20 : decode cX3_seekQuickest 20 = .ok (.iload_n 1, 1) := by decide +kernel
theorem dX3_seekQuickest_21 : decode cX3_seekQuickest 21 = .ok (.bipush 6, 2) := by decide +kernel
theorem dX3_seekQuickest_23 : decode cX3_seekQuickest 23 = .ok (.imul, 1) := by decide +kernel
theorem dX3_seekQuickest_24 : decode cX3_seekQuickest 24 = .ok (.iload_n 2, 1) := by decide +kernel
theorem dX3_seekQuickest_25 : decode cX3_seekQuickest 25 = .ok (.iadd, 1) := by decide +kernel
theorem dX3_seekQuickest_26 : decode cX3_seekQuickest 26 = .ok (.iaload, 1) := by decide +kernel
theorem dX3_seekQuickest_27 : decode cX3_seekQuickest 27 = .ok (.istore_n 3, 1) := by decide +kernel
theorem dX3_seekQuickest_28 : decode cX3_seekQuickest 28 = .ok (.aload_n 0, 1) := by decide +kernel
theorem dX3_seekQuickest_29 : decode cX3_seekQuickest 29 = .ok (.getfield 15, 3) := by decide +kernel
theorem dX3_seekQuickest_32 : decode cX3_seekQuickest 32 = .ok (.iload_n 1, 1) := by decide +kernel
theorem dX3_seekQuickest_33 : decode cX3_seekQuickest 33 = .ok (.bipush 6, 2) := by decide +kernel
theorem dX3_seekQuickest_35 : decode cX3_seekQuickest 35 = .ok (.imul, 1) := by decide +kernel
theorem dX3_seekQuickest_36 : decode cX3_seekQuickest 36 = .ok (.iload_n 2, 1) := by decide +kernel
theorem dX3_seekQuickest_37 : decode cX3_seekQuickest 37 = .ok (.iadd, 1) := by decide +kernel
theorem dX3_seekQuickest_38 : decode cX3_seekQuickest 38 = .ok (.iload_n 1, 1) := by decide +kernel
theorem dX3_seekQuickest_39 : decode cX3_seekQuickest 39 = .ok (.iload_n 2, 1) := by decide +kernel
theorem dX3_seekQuickest_40 : decode cX3_seekQuickest 40 = .ok (.if_icmp .ne 7, 3) := by decide +kernel
theorem dX3_seekQuickest_43 : decode cX3_seekQuickest 43 = .ok (.iconst 0, 1) := by decide +kernel
theorem dX3_seekQuickest_44 : decode cX3_seekQuickest 44 = .ok (.goto 14, 3) := by decide +kernel
theorem dX3_seekQuickest_47 : decode cX3_seekQuickest 47 = .ok (.iload_n 3, 1) := by decide +kernel
theorem dX3_seekQuickest_48 : decode cX3_seekQuickest 48 = .ok (.ifCond .ne 9, 3) := by decide +kernel
theorem dX3_seekQuickest_51 : decode cX3_seekQuickest 51 = .ok (.sipush 1000, 3) := by decide +kernel
theorem dX3_seekQuickest_54 : decode cX3_seekQuickest 54 = .ok (.goto 4, 3) := by decide +kernel
theorem dX3_seekQuickest_57 : decode cX3_seekQuickest 57 = .ok (.iload_n 3, 1) := by decide +kernel
theorem dX3_seekQuickest_58 : decode cX3_seekQuickest 58 = .ok (.iastore, 1) := by decide +kernel
theorem dX3_seekQuickest_59 : decode cX3_seekQuickest 59 = .ok (.iinc 2 1, 3) := by decide +kernel
theorem dX3_seekQuickest_62 : decode cX3_seekQuickest 62 = .ok (.goto (-52), 3) := by decide +kernel
theorem dX3_seekQuickest_65 : decode cX3_seekQuickest 65 = .ok (.iinc 1 1, 3) := by decide +kernel
theorem dX3_seekQuickest_68 : decode cX3_seekQuickest 68 = .ok (.goto (-66), 3) := by decide +kernel
theorem dX3_seekQuickest_71 : decode cX3_seekQuickest 71 = .ok (.iconst 0, 1) := by decide +kernel
theorem dX3_seekQuickest_72 : decode cX3_seekQuickest 72 = .ok (.istore_n 1, 1) := by decide +kernel
theorem dX3_seekQuickest_73 : decode cX3_seekQuickest 73 = .ok (.iload_n 1, 1) := by decide +kernel
theorem dX3_seekQuickest_74 : decode cX3_seekQuickest 74 = .ok (.bipush 6, 2) := by decide +kernel
theorem dX3_seekQuickest_76 : decode cX3_seekQuickest 76 = .ok (.if_icmp .ge 14, 3) := by decide +kernel
theorem dX3_seekQuickest_79 : decode cX3_seekQuickest 79 = .ok (.aload_n 0, 1) := by decide +kernel
theorem dX3_seekQuickest_80 : decode cX3_seekQuickest 80 = .ok (.iload_n 1, 1) := by decide +kernel
theorem dX3_seekQuickest_81 : decode cX3_seekQuickest 81 = .ok (.invokevirtual 21, 3) := by decide +kernel
theorem dX3_seekQuickest_84 : decode cX3_seekQuickest 84 = .ok (.iinc 1 1, 3) := by decide +kernel
theorem dX3_seekQuickest_87 : decode cX3_seekQuickest 87 = .ok (.goto (-14), 3) := by decide +kernel
theorem dX3_seekQuickest_90 : decode cX3_seekQuickest 90 = .ok (.return_, 1) := by decide +kernel
theorem dX3_shortenThrough_0 : decode cX3_shortenThrough 0 = .ok (.iconst 0, 1) := by decide +kernel
theorem dX3_shortenThrough_1 : decode cX3_shortenThrough 1 = .ok (.istore_n 2, 1) := by decide +kernel
theorem dX3_shortenThrough_2 : decode cX3_shortenThrough 2 = .ok (.iload_n 2, 1) := by decide +kernel
theorem dX3_shortenThrough_3 : decode cX3_shortenThrough 3 = .ok (.bipush 6, 2) := by decide +kernel
theorem dX3_shortenThrough_5 : decode cX3_shortenThrough 5 = .ok (.if_icmp .ge 77, 3) := by decide +kernel
theorem dX3_shortenThrough_8 : decode cX3_shortenThrough 8 = .ok (.iconst 0, 1) := by decide +kernel
theorem dX3_shortenThrough_9 : decode cX3_shortenThrough 9 = .ok (.istore_n 3, 1) := by decide +kernel
theorem dX3_shortenThrough_10 : decode cX3_shortenThrough 10 = .ok (.iload_n 3, 1) := by decide +kernel
theorem dX3_shortenThrough_11 : decode cX3_shortenThrough 11 = .ok (.bipush 6, 2) := by decide +kernel
theorem dX3_shortenThrough_13 : decode cX3_shortenThrough 13 = .ok (.if_icmp .ge 63, 3) := by decide +kernel
theorem dX3_shortenThrough_16 : decode cX3_shortenThrough 16 = .ok (.aload_n 0, 1) := by decide +kernel
theorem dX3_shortenThrough_17 : decode cX3_shortenThrough 17 = .ok (.getfield 15, 3) := by decide +kernel
theorem dX3_shortenThrough_20 : decode cX3_shortenThrough 20 = .ok (.iload_n 2, 1) := by decide +kernel
theorem dX3_shortenThrough_21 : decode cX3_shortenThrough 21 = .ok (.bipush 6, 2) := by decide +kernel
theorem dX3_shortenThrough_23 : decode cX3_shortenThrough 23 = .ok (.imul, 1) := by decide +kernel
theorem dX3_shortenThrough_24 : decode cX3_shortenThrough 24 = .ok (.iload_n 1, 1) := by decide +kernel
theorem dX3_shortenThrough_25 : decode cX3_shortenThrough 25 = .ok (.iadd, 1) := by decide +kernel
theorem dX3_shortenThrough_26 : decode cX3_shortenThrough 26 = .ok (.iaload, 1) := by decide +kernel
theorem dX3_shortenThrough_27 : decode cX3_shortenThrough 27 = .ok (.aload_n 0, 1) := by decide +kernel
theorem dX3_shortenThrough_28 : decode cX3_shortenThrough 28 = .ok (.getfield 15, 3) := by decide +kernel
theorem dX3_shortenThrough_31 : decode cX3_shortenThrough 31 = .ok (.iload_n 1, 1) := by decide +kernel
theorem dX3_shortenThrough_32 : decode cX3_shortenThrough 32 = .ok (.bipush 6, 2) := by decide +kernel
theorem dX3_shortenThrough_34 : decode cX3_shortenThrough 34 = .ok (.imul, 1) := by decide +kernel
theorem dX3_shortenThrough_35 : decode cX3_shortenThrough 35 = .ok (.iload_n 3, 1) := by decide +kernel
theorem dX3_shortenThrough_36 : decode cX3_shortenThrough 36 = .ok (.iadd, 1) := by decide +kernel
theorem dX3_shortenThrough_37 : decode cX3_shortenThrough 37 = .ok (.iaload, 1) := by decide +kernel
theorem dX3_shortenThrough_38 : decode cX3_shortenThrough 38 = .ok (.iadd, 1) := by decide +kernel
theorem dX3_shortenThrough_39 : decode cX3_shortenThrough 39 = .ok (.istore 4, 2) := by decide +kernel
theorem dX3_shortenThrough_41 : decode cX3_shortenThrough 41 = .ok (.iload 4, 2) := by decide +kernel
theorem dX3_shortenThrough_43 : decode cX3_shortenThrough 43 = .ok (.aload_n 0, 1) := by decide +kernel
theorem dX3_shortenThrough_44 : decode cX3_shortenThrough 44 = .ok (.getfield 15, 3) := by decide +kernel
theorem dX3_shortenThrough_47 : decode cX3_shortenThrough 47 = .ok (.iload_n 2, 1) := by decide +kernel
theorem dX3_shortenThrough_48 : decode cX3_shortenThrough 48 = .ok (.bipush 6, 2) := by decide +kernel
theorem dX3_shortenThrough_50 : decode cX3_shortenThrough 50 = .ok (.imul, 1) := by decide +kernel
theorem dX3_shortenThrough_51 : decode cX3_shortenThrough 51 = .ok (.iload_n 3, 1) := by decide +kernel
theorem dX3_shortenThrough_52 : decode cX3_shortenThrough 52 = .ok (.iadd, 1) := by decide +kernel
theorem dX3_shortenThrough_53 : decode cX3_shortenThrough 53 = .ok (.iaload, 1) := by decide +kernel
theorem dX3_shortenThrough_54 : decode cX3_shortenThrough 54 = .ok (.if_icmp .ge 16, 3) := by decide +kernel
theorem dX3_shortenThrough_57 : decode cX3_shortenThrough 57 = .ok (.aload_n 0, 1) := by decide +kernel
theorem dX3_shortenThrough_58 : decode cX3_shortenThrough 58 = .ok (.getfield 15, 3) := by decide +kernel
theorem dX3_shortenThrough_61 : decode cX3_shortenThrough 61 = .ok (.iload_n 2, 1) := by decide +kernel
theorem dX3_shortenThrough_62 : decode cX3_shortenThrough 62 = .ok (.bipush 6, 2) := by decide +kernel
theorem dX3_shortenThrough_64 : decode cX3_shortenThrough 64 = .ok (.imul, 1) := by decide +kernel
theorem dX3_shortenThrough_65 : decode cX3_shortenThrough 65 = .ok (.iload_n 3, 1) := by decide +kernel
theorem dX3_shortenThrough_66 : decode cX3_shortenThrough 66 = .ok (.iadd, 1) := by decide +kernel
theorem dX3_shortenThrough_67 : decode cX3_shortenThrough 67 = .ok (.iload 4, 2) := by decide +kernel
theorem dX3_shortenThrough_69 : decode cX3_shortenThrough 69 = .ok (.iastore, 1) := by decide +kernel
theorem dX3_shortenThrough_70 : decode cX3_shortenThrough 70 = .ok (.iinc 3 1, 3) := by decide +kernel
theorem dX3_shortenThrough_73 : decode cX3_shortenThrough 73 = .ok (.goto (-63), 3) := by decide +kernel
theorem dX3_shortenThrough_76 : decode cX3_shortenThrough 76 = .ok (.iinc 2 1, 3) := by decide +kernel
theorem dX3_shortenThrough_79 : decode cX3_shortenThrough 79 = .ok (.goto (-77), 3) := by decide +kernel
theorem dX3_shortenThrough_82 : decode cX3_shortenThrough 82 = .ok (.return_, 1) := by decide +kernel
theorem dX4_init_0 : decode cX4_init 0 = .ok (.aload_n 0, 1) := by decide +kernel
theorem dX4_init_1 : decode cX4_init 1 = .ok (.invokespecial 3, 3) := by decide +kernel
theorem dX4_init_4 : decode cX4_init 4 = .ok (.aload_n 0, 1) := by decide +kernel
theorem dX4_init_5 : decode cX4_init 5 = .ok (.bipush 40, 2) := by decide +kernel
theorem dX4_init_7 : decode cX4_init 7 = .ok (.newarray .int, 2) := by decide +kernel
theorem dX4_init_9 : decode cX4_init 9 = .ok (.putfield 9, 3) := by decide +kernel
theorem dX4_init_12 : decode cX4_init 12 = .ok (.aload_n 0, 1) := by decide +kernel
theorem dX4_init_13 : decode cX4_init 13 = .ok (.iconst 1, 1) := by decide +kernel
theorem dX4_init_14 : decode cX4_init 14 = .ok (.putfield 15, 3) := by decide +kernel
theorem dX4_init_17 : decode cX4_init 17 = .ok (.aload_n 0, 1) := by decide +kernel
theorem dX4_init_18 : decode cX4_init 18 = .ok (.iconst 0, 1) := by decide +kernel
theorem dX4_init_19 : decode cX4_init 19 = .ok (.putfield 19, 3) := by decide +kernel
theorem dX4_init_22 : decode cX4_init 22 = .ok (.aload_n 0, 1) := by decide +kernel
theorem dX4_init_23 : decode cX4_init 23 = .ok (.iconst 0, 1) := by decide +kernel
theorem dX4_init_24 : decode cX4_init 24 = .ok (.putfield 23, 3) := by decide +kernel
theorem dX4_init_27 : decode cX4_init 27 = .ok (.return_, 1) := by decide +kernel
theorem dX4_renew_0 : decode cX4_renew 0 = .ok (.aload_n 0, 1) := by decide +kernel
theorem dX4_renew_1 : decode cX4_renew 1 = .ok (.getfield 9, 3) := by decide +kernel
theorem dX4_renew_4 : decode cX4_renew 4 = .ok (.iconst 0, 1) := by decide +kernel
theorem dX4_renew_5 : decode cX4_renew 5 = .ok (.invokestatic 26, 3) := by decide +kernel
theorem dX4_renew_8 : decode cX4_renew 8 = .ok (.aload_n 0, 1) := by decide +kernel
theorem dX4_renew_9 : decode cX4_renew 9 = .ok (.iconst 0, 1) := by decide +kernel
theorem dX4_renew_10 : decode cX4_renew 10 = .ok (.putfield 15, 3) := by decide +kernel
theorem dX4_renew_13 : decode cX4_renew 13 = .ok (.aload_n 0, 1) := by decide +kernel
theorem dX4_renew_14 : decode cX4_renew 14 = .ok (.iload_n 1, 1) := by decide +kernel
theorem dX4_renew_15 : decode cX4_renew 15 = .ok (.putfield 19, 3) := by decide +kernel
theorem dX4_renew_18 : decode cX4_renew 18 = .ok (.aload_n 0, 1) := by decide +kernel
theorem dX4_renew_19 : decode cX4_renew 19 = .ok (.iload_n 2, 1) := by decide +kernel
theorem dX4_renew_20 : decode cX4_renew 20 = .ok (.putfield 23, 3) := by decide +kernel
theorem dX4_renew_23 : decode cX4_renew 23 = .ok (.return_, 1) := by decide +kernel
theorem dX4_set_0 : decode cX4_set 0 = .ok (.aload_n 0, 1) := by decide +kernel
theorem dX4_set_1 : decode cX4_set 1 = .ok (.getfield 9, 3) := by decide +kernel
theorem dX4_set_4 : decode cX4_set 4 = .ok (.iload_n 1, 1) := by decide +kernel
theorem dX4_set_5 : decode cX4_set 5 = .ok (.aload_n 0, 1) := by decide +kernel
theorem dX4_set_6 : decode cX4_set 6 = .ok (.getfield 19, 3) := by decide +kernel
theorem dX4_set_9 : decode cX4_set 9 = .ok (.ifCond .ne 8, 3) := by decide +kernel
theorem dX4_set_12 : decode cX4_set 12 = .ok (.iload_n 2, 1) := by decide +kernel
theorem dX4_set_13 : decode cX4_set 13 = .ok (.i2b, 1) := by decide +kernel
theorem dX4_set_14 : decode cX4_set 14 = .ok (.goto 17, 3) := by decide +kernel
theorem dX4_set_17 : decode cX4_set 17 = .ok (.aload_n 0, 1) := by decide +kernel
theorem dX4_set_18 : decode cX4_set 18 = .ok (.getfield 19, 3) := by decide +kernel
theorem dX4_set_21 : decode cX4_set 21 = .ok (.iconst 1, 1) := by decide +kernel
theorem dX4_set_22 : decode cX4_set 22 = .ok (.if_icmp .ne 8, 3) := by decide +kernel
theorem dX4_set_25 : decode cX4_set 25 = .ok (.iload_n 2, 1) := by decide +kernel
theorem dX4_set_26 : decode cX4_set 26 = .ok (.i2s, 1) := by decide +kernel
theorem dX4_set_27 : decode cX4_set 27 = .ok (.goto 4, 3) := by decide +kernel
theorem dX4_set_30 : decode cX4_set 30 = .ok (.iload_n 2, 1) := by decide +kernel
theorem dX4_set_31 : decode cX4_set 31 = .ok (.iastore, 1) := by decide +kernel
theorem dX4_set_32 : decode cX4_set 32 = .ok (.return_, 1) := by decide +kernel
theorem dX4_findingOf_0 : decode cX4_findingOf 0 = .ok (.aload_n 0, 1) := by decide +kernel
theorem dX4_findingOf_1 : decode cX4_findingOf 1 = .ok (.getfield 15, 3) := by decide +kernel
theorem dX4_findingOf_4 : decode cX4_findingOf 4 = .ok (.ifCond .eq 5, 3) := by decide +kernel
theorem dX4_findingOf_7 : decode cX4_findingOf 7 = .ok (.iconst 1, 1) := by decide +kernel
theorem dX4_findingOf_8 : decode cX4_findingOf 8 = .ok (.ireturn, 1) := by decide +kernel
theorem dX4_findingOf_9 : decode cX4_findingOf 9 = .ok (.iload_n 1, 1) := by decide +kernel
theorem dX4_findingOf_10 : decode cX4_findingOf 10 = .ok (.aload_n 0, 1) := by decide +kernel
theorem dX4_findingOf_11 : decode cX4_findingOf 11 = .ok (.getfield 19, 3) := by decide +kernel
theorem dX4_findingOf_14 : decode cX4_findingOf 14 = .ok (.if_icmp .eq 5, 3) := by decide +kernel
theorem dX4_findingOf_17 : decode cX4_findingOf 17 = .ok (.iconst 3, 1) := by decide +kernel
theorem dX4_findingOf_18 : decode cX4_findingOf 18 = .ok (.ireturn, 1) := by decide +kernel
theorem dX4_findingOf_19 : decode cX4_findingOf 19 = .ok (.iload_n 2, 1) := by decide +kernel
theorem dX4_findingOf_20 : decode cX4_findingOf 20 = .ok (.ifCond .lt 11, 3) := by decide +kernel
theorem dX4_findingOf_23 : decode cX4_findingOf 23 = .ok (.iload_n 2, 1) := by decide +kernel
theorem dX4_findingOf_24 : decode cX4_findingOf 24 = .ok (.aload_n 0, 1) := by decide +kernel
theorem dX4_findingOf_25 : decode cX4_findingOf 25 = .ok (.getfield 23, 3) := by decide +kernel
theorem dX4_findingOf_28 : decode cX4_findingOf 28 = .ok (.if_icmp .lt 7, 3) := by decide +kernel
theorem dX4_findingOf_31 : decode cX4_findingOf 31 = .ok (.iconst 2, 1) := by decide +kernel
theorem dX4_findingOf_32 : decode cX4_findingOf 32 = .ok (.goto 4, 3) := by decide +kernel
theorem dX4_findingOf_35 : decode cX4_findingOf 35 = .ok (.iconst 0, 1) := by decide +kernel
theorem dX4_findingOf_36 : decode cX4_findingOf 36 = .ok (.ireturn, 1) := by decide +kernel
theorem dX4_holds_0 : decode cX4_holds 0 = .ok (.iload_n 1, 1) := by decide +kernel
theorem dX4_holds_1 : decode cX4_holds 1 = .ok (.ifCond .lt 21, 3) := by decide +kernel
theorem dX4_holds_4 : decode cX4_holds 4 = .ok (.iload_n 2, 1) := by decide +kernel
theorem dX4_holds_5 : decode cX4_holds 5 = .ok (.ifCond .lt 17, 3) := by decide +kernel
theorem dX4_holds_8 : decode cX4_holds 8 = .ok (.iload_n 1, 1) := by decide +kernel
theorem dX4_holds_9 : decode cX4_holds 9 = .ok (.aload_n 0, 1) := by decide +kernel
theorem dX4_holds_10 : decode cX4_holds 10 = .ok (.getfield 23, 3) := by decide +kernel
theorem dX4_holds_13 : decode cX4_holds 13 = .ok (.iload_n 2, 1) := by decide +kernel
theorem dX4_holds_14 : decode cX4_holds 14 = .ok (.isub, 1) := by decide +kernel
theorem dX4_holds_15 : decode cX4_holds 15 = .ok (.if_icmp .gt 7, 3) := by decide +kernel
theorem dX4_holds_18 : decode cX4_holds 18 = .ok (.iconst 1, 1) := by decide +kernel
theorem dX4_holds_19 : decode cX4_holds 19 = .ok (.goto 4, 3) := by decide +kernel
theorem dX4_holds_22 : decode cX4_holds 22 = .ok (.iconst 0, 1) := by decide +kernel
theorem dX4_holds_23 : decode cX4_holds 23 = .ok (.ireturn, 1) := by decide +kernel
end
section
theorem dX5_init_0 : decode cX5_init 0 = .ok (.aload_n 0, 1) := by decide +kernel
theorem dX5_init_1 : decode cX5_init 1 = .ok (.invokespecial 3, 3) := by decide +kernel
theorem dX5_init_4 : decode cX5_init 4 = .ok (.aload_n 0, 1) := by decide +kernel
theorem dX5_init_5 : decode cX5_init 5 = .ok (.bipush 10, 2) := by decide +kernel
theorem dX5_init_7 : decode cX5_init 7 = .ok (.newarray .int, 2) := by decide +kernel
theorem dX5_init_9 : decode cX5_init 9 = .ok (.putfield 9, 3) := by decide +kernel
theorem dX5_init_12 : decode cX5_init 12 = .ok (.aload_n 0, 1) := by decide +kernel
theorem dX5_init_13 : decode cX5_init 13 = .ok (.bipush 10, 2) := by decide +kernel
theorem dX5_init_15 : decode cX5_init 15 = .ok (.newarray .int, 2) := by decide +kernel
theorem dX5_init_17 : decode cX5_init 17 = .ok (.putfield 15, 3) := by decide +kernel
theorem dX5_init_20 : decode cX5_init 20 = .ok (.aload_n 0, 1) := by decide +kernel
theorem dX5_init_21 : decode cX5_init 21 = .ok (.bipush 10, 2) := by decide +kernel
theorem dX5_init_23 : decode cX5_init 23 = .ok (.newarray .int, 2) := by decide +kernel
theorem dX5_init_25 : decode cX5_init 25 = .ok (.putfield 18, 3) := by decide +kernel
theorem dX5_init_28 : decode cX5_init 28 = .ok (.aload_n 0, 1) := by decide +kernel
theorem dX5_init_29 : decode cX5_init 29 = .ok (.bipush 10, 2) := by decide +kernel
theorem dX5_init_31 : decode cX5_init 31 = .ok (.newarray .int, 2) := by decide +kernel
theorem dX5_init_33 : decode cX5_init 33 = .ok (.putfield 21, 3) := by decide +kernel
theorem dX5_init_36 : decode cX5_init 36 = .ok (.aload_n 0, 1) := by decide +kernel
theorem dX5_init_37 : decode cX5_init 37 = .ok (.bipush 10, 2) := by decide +kernel
theorem dX5_init_39 : decode cX5_init 39 = .ok (.newarray .int, 2) := by decide +kernel
theorem dX5_init_41 : decode cX5_init 41 = .ok (.putfield 24, 3) := by decide +kernel
theorem dX5_init_44 : decode cX5_init 44 = .ok (.aload_n 0, 1) := by decide +kernel
theorem dX5_init_45 : decode cX5_init 45 = .ok (.bipush 10, 2) := by decide +kernel
theorem dX5_init_47 : decode cX5_init 47 = .ok (.newarray .int, 2) := by decide +kernel
theorem dX5_init_49 : decode cX5_init 49 = .ok (.putfield 27, 3) := by decide +kernel
theorem dX5_init_52 : decode cX5_init 52 = .ok (.aload_n 0, 1) := by decide +kernel
theorem dX5_init_53 : decode cX5_init 53 = .ok (.bipush 10, 2) := by decide +kernel
theorem dX5_init_55 : decode cX5_init 55 = .ok (.newarray .int, 2) := by decide +kernel
theorem dX5_init_57 : decode cX5_init 57 = .ok (.putfield 30, 3) := by decide +kernel
theorem dX5_init_60 : decode cX5_init 60 = .ok (.aload_n 0, 1) := by decide +kernel
theorem dX5_init_61 : decode cX5_init 61 = .ok (.bipush 10, 2) := by decide +kernel
theorem dX5_init_63 : decode cX5_init 63 = .ok (.newarray .int, 2) := by decide +kernel
theorem dX5_init_65 : decode cX5_init 65 = .ok (.putfield 33, 3) := by decide +kernel
theorem dX5_init_68 : decode cX5_init 68 = .ok (.aload_n 0, 1) := by decide +kernel
theorem dX5_init_69 : decode cX5_init 69 = .ok (.bipush 10, 2) := by decide +kernel
theorem dX5_init_71 : decode cX5_init 71 = .ok (.newarray .int, 2) := by decide +kernel
theorem dX5_init_73 : decode cX5_init 73 = .ok (.putfield 36, 3) := by decide +kernel
theorem dX5_init_76 : decode cX5_init 76 = .ok (.aload_n 0, 1) := by decide +kernel
theorem dX5_init_77 : decode cX5_init 77 = .ok (.bipush 10, 2) := by decide +kernel
theorem dX5_init_79 : decode cX5_init 79 = .ok (.newarray .int, 2) := by decide +kernel
theorem dX5_init_81 : decode cX5_init 81 = .ok (.putfield 39, 3) := by decide +kernel
theorem dX5_init_84 : decode cX5_init 84 = .ok (.aload_n 0, 1) := by decide +kernel
theorem dX5_init_85 : decode cX5_init 85 = .ok (.iconst 0, 1) := by decide +kernel
theorem dX5_init_86 : decode cX5_init 86 = .ok (.putfield 42, 3) := by decide +kernel
theorem dX5_init_89 : decode cX5_init 89 = .ok (.aload_n 0, 1) := by decide +kernel
theorem dX5_init_90 : decode cX5_init 90 = .ok (.iconst 0, 1) := by decide +kernel
theorem dX5_init_91 : decode cX5_init 91 = .ok (.putfield 46, 3) := by decide +kernel
theorem dX5_init_94 : decode cX5_init 94 = .ok (.aload_n 0, 1) := by decide +kernel
theorem dX5_init_95 : decode cX5_init 95 = .ok (.iconst 0, 1) := by decide +kernel
theorem dX5_init_96 : decode cX5_init 96 = .ok (.putfield 49, 3) := by decide +kernel
theorem dX5_init_99 : decode cX5_init 99 = .ok (.return_, 1) := by decide +kernel
theorem dX5_has_0 : decode cX5_has 0 = .ok (.iload_n 1, 1) := by decide +kernel
theorem dX5_has_1 : decode cX5_has 1 = .ok (.ifCond .lt 15, 3) := by decide +kernel
theorem dX5_has_4 : decode cX5_has 4 = .ok (.iload_n 1, 1) := by decide +kernel
theorem dX5_has_5 : decode cX5_has 5 = .ok (.aload_n 0, 1) := by decide +kernel
theorem dX5_has_6 : decode cX5_has 6 = .ok (.getfield 42, 3) := by decide +kernel
theorem dX5_has_9 : decode cX5_has 9 = .ok (.if_icmp .ge 7, 3) := by decide +kernel
theorem dX5_has_12 : decode cX5_has 12 = .ok (.iconst 1, 1) := by decide +kernel
theorem dX5_has_13 : decode cX5_has 13 = .ok (.goto 4, 3) := by decide +kernel
theorem dX5_has_16 : decode cX5_has 16 = .ok (.iconst 0, 1) := by decide +kernel
theorem dX5_has_17 : decode cX5_has 17 = .ok (.ireturn, 1) := by decide +kernel
theorem dX5_all_0 : decode cX5_all 0 = .ok (.iconst 1, 1) := by decide +kernel
theorem dX5_all_1 : decode cX5_all 1 = .ok (.aload_n 0, 1) := by decide +kernel
theorem dX5_all_2 : decode cX5_all 2 = .ok (.getfield 42, 3) := by decide +kernel
theorem dX5_all_5 : decode cX5_all 5 = .ok (.ishl, 1) := by decide +kernel
theorem dX5_all_6 : decode cX5_all 6 = .ok (.iconst 1, 1) := by decide +kernel
theorem dX5_all_7 : decode cX5_all 7 = .ok (.isub, 1) := by decide +kernel
theorem dX5_all_8 : decode cX5_all 8 = .ok (.ireturn, 1) := by decide +kernel
theorem dX5_heardOnes_0 : decode cX5_heardOnes 0 = .ok (.aload_n 0, 1) := by decide +kernel
theorem dX5_heardOnes_1 : decode cX5_heardOnes 1 = .ok (.invokevirtual 52, 3) := by decide +kernel
theorem dX5_heardOnes_4 : decode cX5_heardOnes 4 = .ok (.aload_n 0, 1) := by decide +kernel
theorem dX5_heardOnes_5 : decode cX5_heardOnes 5 = .ok (.getfield 46, 3) := by decide +kernel
theorem dX5_heardOnes_8 : decode cX5_heardOnes 8 = .ok (.iconst (-1), 1) := by decide +kernel
theorem dX5_heardOnes_9 : decode cX5_heardOnes 9 = .ok (.ixor, 1) := by decide +kernel
theorem dX5_heardOnes_10 : decode cX5_heardOnes 10 = .ok (.iand, 1) := by decide +kernel
theorem dX5_heardOnes_11 : decode cX5_heardOnes 11 = .ok (.ireturn, 1) := by decide +kernel
theorem dX5_tell_0 : decode cX5_tell 0 = .ok (.aload_n 0, 1) := by decide +kernel
theorem dX5_tell_1 : decode cX5_tell 1 = .ok (.getfield 42, 3) := by decide +kernel
theorem dX5_tell_4 : decode cX5_tell 4 = .ok (.istore 7, 2) := by decide +kernel
theorem dX5_tell_6 : decode cX5_tell 6 = .ok (.aload_n 0, 1) := by decide +kernel
theorem dX5_tell_7 : decode cX5_tell 7 = .ok (.getfield 9, 3) := by decide +kernel
theorem dX5_tell_10 : decode cX5_tell 10 = .ok (.iload 7, 2) := by decide +kernel
theorem dX5_tell_12 : decode cX5_tell 12 = .ok (.iload_n 1, 1) := by decide +kernel
theorem dX5_tell_13 : decode cX5_tell 13 = .ok (.iastore, 1) := by decide +kernel
theorem dX5_tell_14 : decode cX5_tell 14 = .ok (.aload_n 0, 1) := by decide +kernel
theorem dX5_tell_15 : decode cX5_tell 15 = .ok (.getfield 15, 3) := by decide +kernel
theorem dX5_tell_18 : decode cX5_tell 18 = .ok (.iload 7, 2) := by decide +kernel
theorem dX5_tell_20 : decode cX5_tell 20 = .ok (.iload_n 2, 1) := by decide +kernel
theorem dX5_tell_21 : decode cX5_tell 21 = .ok (.iastore, 1) := by decide +kernel
theorem dX5_tell_22 : decode cX5_tell 22 = .ok (.aload_n 0, 1) := by decide +kernel
theorem dX5_tell_23 : decode cX5_tell 23 = .ok (.getfield 18, 3) := by decide +kernel
theorem dX5_tell_26 : decode cX5_tell 26 = .ok (.iload 7, 2) := by decide +kernel
theorem dX5_tell_28 : decode cX5_tell 28 = .ok (.iload_n 2, 1) := by decide +kernel
theorem dX5_tell_29 : decode cX5_tell 29 = .ok (.invokestatic 56, 3) := by decide +kernel
theorem dX5_tell_32 : decode cX5_tell 32 = .ok (.iastore, 1) := by decide +kernel
theorem dX5_tell_33 : decode cX5_tell 33 = .ok (.aload_n 0, 1) := by decide +kernel
theorem dX5_tell_34 : decode cX5_tell 34 = .ok (.getfield 21, 3) := by decide +kernel
theorem dX5_tell_37 : decode cX5_tell 37 = .ok (.iload 7, 2) := by decide +kernel
theorem dX5_tell_39 : decode cX5_tell 39 = .ok (.iload_n 3, 1) := by decide +kernel
theorem dX5_tell_40 : decode cX5_tell 40 = .ok (.iastore, 1) := by decide +kernel
theorem dX5_tell_41 : decode cX5_tell 41 = .ok (.aload_n 0, 1) := by decide +kernel
theorem dX5_tell_42 : decode cX5_tell 42 = .ok (.getfield 24, 3) := by decide +kernel
theorem dX5_tell_45 : decode cX5_tell 45 = .ok (.iload 7, 2) := by decide +kernel
theorem dX5_tell_47 : decode cX5_tell 47 = .ok (.iload 4, 2) := by decide +kernel
theorem dX5_tell_49 : decode cX5_tell 49 = .ok (.iastore, 1) := by decide +kernel
theorem dX5_tell_50 : decode cX5_tell 50 = .ok (.aload_n 0, 1) := by decide +kernel
theorem dX5_tell_51 : decode cX5_tell 51 = .ok (.getfield 27, 3) := by decide +kernel
theorem dX5_tell_54 : decode cX5_tell 54 = .ok (.iload 7, 2) := by decide +kernel
theorem dX5_tell_56 : decode cX5_tell 56 = .ok (.iload 5, 2) := by decide +kernel
theorem dX5_tell_58 : decode cX5_tell 58 = .ok (.iastore, 1) := by decide +kernel
theorem dX5_tell_59 : decode cX5_tell 59 = .ok (.aload_n 0, 1) := by decide +kernel
theorem dX5_tell_60 : decode cX5_tell 60 = .ok (.dup, 1) := by decide +kernel
theorem dX5_tell_61 : decode cX5_tell 61 = .ok (.getfield 42, 3) := by decide +kernel
theorem dX5_tell_64 : decode cX5_tell 64 = .ok (.iconst 1, 1) := by decide +kernel
theorem dX5_tell_65 : decode cX5_tell 65 = .ok (.iadd, 1) := by decide +kernel
theorem dX5_tell_66 : decode cX5_tell 66 = .ok (.putfield 42, 3) := by decide +kernel
theorem dX5_tell_69 : decode cX5_tell 69 = .ok (.iload_n 1, 1) := by decide +kernel
theorem dX5_tell_70 : decode cX5_tell 70 = .ok (.iconst 1, 1) := by decide +kernel
theorem dX5_tell_71 : decode cX5_tell 71 = .ok (.if_icmp .ne 31, 3) := by decide +kernel
theorem dX5_tell_74 : decode cX5_tell 74 = .ok (.aload_n 0, 1) := by decide +kernel
theorem dX5_tell_75 : decode cX5_tell 75 = .ok (.getfield 30, 3) := by decide +kernel
theorem dX5_tell_78 : decode cX5_tell 78 = .ok (.iload 7, 2) := by decide +kernel
theorem dX5_tell_80 : decode cX5_tell 80 = .ok (.dup2, 1) := by decide +kernel
theorem dX5_tell_81 : decode cX5_tell 81 = .ok (.iaload, 1) := by decide +kernel
theorem dX5_tell_82 : decode cX5_tell 82 = .ok (.iconst 1, 1) := by decide +kernel
theorem dX5_tell_83 : decode cX5_tell 83 = .ok (.iload 5, 2) := by decide +kernel
theorem dX5_tell_85 : decode cX5_tell 85 = .ok (.ishl, 1) := by decide +kernel
theorem dX5_tell_86 : decode cX5_tell 86 = .ok (.ior, 1) := by decide +kernel
theorem dX5_tell_87 : decode cX5_tell 87 = .ok (.iastore, 1) := by decide +kernel
theorem dX5_tell_88 : decode cX5_tell 88 = .ok (.aload_n 0, 1) := by decide +kernel
theorem dX5_tell_89 : decode cX5_tell 89 = .ok (.getfield 30, 3) := by decide +kernel
theorem dX5_tell_92 : decode cX5_tell 92 = .ok (.iload 5, 2) := by decide +kernel
theorem dX5_tell_94 : decode cX5_tell 94 = .ok (.dup2, 1) := by decide +kernel
theorem dX5_tell_95 : decode cX5_tell 95 = .ok (.iaload, 1) := by decide +kernel
theorem dX5_tell_96 : decode cX5_tell 96 = .ok (.iconst 1, 1) := by decide +kernel
theorem dX5_tell_97 : decode cX5_tell 97 = .ok (.iload 7, 2) := by decide +kernel
theorem dX5_tell_99 : decode cX5_tell 99 = .ok (.ishl, 1) := by decide +kernel
theorem dX5_tell_100 : decode cX5_tell 100 = .ok (.ior, 1) := by decide +kernel
theorem dX5_tell_101 : decode cX5_tell 101 = .ok (.iastore, 1) := by decide +kernel
theorem dX5_tell_102 : decode cX5_tell 102 = .ok (.aload_n 0, 1) := by decide +kernel
theorem dX5_tell_103 : decode cX5_tell 103 = .ok (.aload 6, 2) := by decide +kernel
theorem dX5_tell_105 : decode cX5_tell 105 = .ok (.invokevirtual 62, 3) := by decide +kernel
theorem dX5_tell_108 : decode cX5_tell 108 = .ok (.iload 7, 2) := by decide +kernel
theorem dX5_tell_110 : decode cX5_tell 110 = .ok (.ireturn, 1) := by decide +kernel
theorem dX5_weighAll_0 : decode cX5_weighAll 0 = .ok (.aload_n 0, 1) := by decide +kernel
theorem dX5_weighAll_1 : decode cX5_weighAll 1 = .ok (.iconst 0, 1) := by decide +kernel
theorem dX5_weighAll_2 : decode cX5_weighAll 2 = .ok (.putfield 49, 3) := by decide +kernel
theorem dX5_weighAll_5 : decode cX5_weighAll 5 = .ok (.aload_n 0, 1) := by decide +kernel
theorem dX5_weighAll_6 : decode cX5_weighAll 6 = .ok (.getfield 33, 3) := by decide +kernel
theorem dX5_weighAll_9 : decode cX5_weighAll 9 = .ok (.iconst 0, 1) := by decide +kernel
theorem dX5_weighAll_10 : decode cX5_weighAll 10 = .ok (.invokestatic 66, 3) := by decide +kernel
theorem dX5_weighAll_13 : decode cX5_weighAll 13 = .ok (.aload_n 0, 1) := by decide +kernel
theorem dX5_weighAll_14 : decode cX5_weighAll 14 = .ok (.getfield 36, 3) := by decide +kernel
theorem dX5_weighAll_17 : decode cX5_weighAll 17 = .ok (.iconst 0, 1) := by decide +kernel
theorem dX5_weighAll_18 : decode cX5_weighAll 18 = .ok (.invokestatic 66, 3) := by decide +kernel
theorem dX5_weighAll_21 : decode cX5_weighAll 21 = .ok (.iconst 0, 1) := by decide +kernel
theorem dX5_weighAll_22 : decode cX5_weighAll 22 = .ok (.istore_n 2, 1) := by decide +kernel
theorem dX5_weighAll_23 : decode cX5_weighAll 23 = .ok (.iload_n 2, 1) := by decide +kernel
theorem dX5_weighAll_24 : decode cX5_weighAll 24 = .ok (.aload_n 0, 1) := by decide +kernel
theorem dX5_weighAll_25 : decode cX5_weighAll 25 = .ok (.getfield 42, 3) := by decide +kernel
theorem dX5_weighAll_28 : decode cX5_weighAll 28 = .ok (.if_icmp .ge 77, 3) := by decide +kernel
theorem dX5_weighAll_31 : decode cX5_weighAll 31 = .ok (.aload_n 0, 1) := by decide +kernel
theorem dX5_weighAll_32 : decode cX5_weighAll 32 = .ok (.getfield 9, 3) := by decide +kernel
theorem dX5_weighAll_35 : decode cX5_weighAll 35 = .ok (.iload_n 2, 1) := by decide +kernel
theorem dX5_weighAll_36 : decode cX5_weighAll 36 = .ok (.iaload, 1) := by decide +kernel
theorem dX5_weighAll_37 : decode cX5_weighAll 37 = .ok (.iconst 2, 1) := by decide +kernel
theorem dX5_weighAll_38 : decode cX5_weighAll 38 = .ok (.if_icmp .ne 61, 3) := by decide +kernel
theorem dX5_weighAll_41 : decode cX5_weighAll 41 = .ok (.aload_n 0, 1) := by decide +kernel
theorem dX5_weighAll_42 : decode cX5_weighAll 42 = .ok (.iload_n 2, 1) := by decide +kernel
theorem dX5_weighAll_43 : decode cX5_weighAll 43 = .ok (.aload_n 0, 1) := by decide +kernel
theorem dX5_weighAll_44 : decode cX5_weighAll 44 = .ok (.getfield 27, 3) := by decide +kernel
theorem dX5_weighAll_47 : decode cX5_weighAll 47 = .ok (.iload_n 2, 1) := by decide +kernel
theorem dX5_weighAll_48 : decode cX5_weighAll 48 = .ok (.iaload, 1) := by decide +kernel
theorem dX5_weighAll_49 : decode cX5_weighAll 49 = .ok (.aload_n 1, 1) := by decide +kernel
theorem dX5_weighAll_50 : decode cX5_weighAll 50 = .ok (.invokevirtual 72, 3) := by decide +kernel
theorem dX5_weighAll_53 : decode cX5_weighAll 53 = .ok (.ifCond .eq 46, 3) := by decide +kernel
theorem dX5_weighAll_56 : decode cX5_weighAll 56 = .ok (.aload_n 0, 1) := by decide +kernel
theorem dX5_weighAll_57 : decode cX5_weighAll 57 = .ok (.dup, 1) := by decide +kernel
theorem dX5_weighAll_58 : decode cX5_weighAll 58 = .ok (.getfield 49, 3) := by decide +kernel
theorem dX5_weighAll_61 : decode cX5_weighAll 61 = .ok (.iconst 1, 1) := by decide +kernel
theorem dX5_weighAll_62 : decode cX5_weighAll 62 = .ok (.iload_n 2, 1) := by decide +kernel
theorem dX5_weighAll_63 : decode cX5_weighAll 63 = .ok (.ishl, 1) := by decide +kernel
theorem dX5_weighAll_64 : decode cX5_weighAll 64 = .ok (.ior, 1) := by decide +kernel
theorem dX5_weighAll_65 : decode cX5_weighAll 65 = .ok (.putfield 49, 3) := by decide +kernel
theorem dX5_weighAll_68 : decode cX5_weighAll 68 = .ok (.aload_n 0, 1) := by decide +kernel
theorem dX5_weighAll_69 : decode cX5_weighAll 69 = .ok (.getfield 33, 3) := by decide +kernel
theorem dX5_weighAll_72 : decode cX5_weighAll 72 = .ok (.iload_n 2, 1) := by decide +kernel
theorem dX5_weighAll_73 : decode cX5_weighAll 73 = .ok (.iconst 1, 1) := by decide +kernel
theorem dX5_weighAll_74 : decode cX5_weighAll 74 = .ok (.aload_n 0, 1) := by decide +kernel
theorem dX5_weighAll_75 : decode cX5_weighAll 75 = .ok (.getfield 27, 3) := by decide +kernel
theorem dX5_weighAll_78 : decode cX5_weighAll 78 = .ok (.iload_n 2, 1) := by decide +kernel
theorem dX5_weighAll_79 : decode cX5_weighAll 79 = .ok (.iaload, 1) := by decide +kernel
theorem dX5_weighAll_80 : decode cX5_weighAll 80 = .ok (.ishl, 1) := by decide +kernel
theorem dX5_weighAll_81 : decode cX5_weighAll 81 = .ok (.iastore, 1) := by decide +kernel
theorem dX5_weighAll_82 : decode cX5_weighAll 82 = .ok (.aload_n 0, 1) := by decide +kernel
theorem dX5_weighAll_83 : decode cX5_weighAll 83 = .ok (.getfield 36, 3) := by decide +kernel
theorem dX5_weighAll_86 : decode cX5_weighAll 86 = .ok (.aload_n 0, 1) := by decide +kernel
theorem dX5_weighAll_87 : decode cX5_weighAll 87 = .ok (.getfield 27, 3) := by decide +kernel
theorem dX5_weighAll_90 : decode cX5_weighAll 90 = .ok (.iload_n 2, 1) := by decide +kernel
theorem dX5_weighAll_91 : decode cX5_weighAll 91 = .ok (.iaload, 1) := by decide +kernel
theorem dX5_weighAll_92 : decode cX5_weighAll 92 = .ok (.dup2, 1) := by decide +kernel
theorem dX5_weighAll_93 : decode cX5_weighAll 93 = .ok (.iaload, 1) := by decide +kernel
theorem dX5_weighAll_94 : decode cX5_weighAll 94 = .ok (.iconst 1, 1) := by decide +kernel
theorem dX5_weighAll_95 : decode cX5_weighAll 95 = .ok (.iload_n 2, 1) := by decide +kernel
theorem dX5_weighAll_96 : decode cX5_weighAll 96 = .ok (.ishl, 1) := by decide +kernel
theorem dX5_weighAll_97 : decode cX5_weighAll 97 = .ok (.ior, 1) := by decide +kernel
theorem dX5_weighAll_98 : decode cX5_weighAll 98 = .ok (.iastore, 1) := by decide +kernel
theorem dX5_weighAll_99 : decode cX5_weighAll 99 = .ok (.iinc 2 1, 3) := by decide +kernel
theorem dX5_weighAll_102 : decode cX5_weighAll 102 = .ok (.goto (-79), 3) := by decide +kernel
theorem dX5_weighAll_105 : decode cX5_weighAll 105 = .ok (.return_, 1) := by decide +kernel
theorem dX5_isTooFar_0 : decode cX5_isTooFar 0 = .ok (.aload_n 3, 1) := by decide +kernel
theorem dX5_isTooFar_1 : decode cX5_isTooFar 1 = .ok (.aload_n 0, 1) := by decide +kernel
theorem dX5_isTooFar_2 : decode cX5_isTooFar 2 = .ok (.getfield 21, 3) := by decide +kernel
theorem dX5_isTooFar_5 : decode cX5_isTooFar 5 = .ok (.iload_n 1, 1) := by decide +kernel
theorem dX5_isTooFar_6 : decode cX5_isTooFar 6 = .ok (.iaload, 1) := by decide +kernel
theorem dX5_isTooFar_7 : decode cX5_isTooFar 7 = .ok (.aload_n 0, 1) := by decide +kernel
theorem dX5_isTooFar_8 : decode cX5_isTooFar 8 = .ok (.getfield 21, 3) := by decide +kernel
theorem dX5_isTooFar_11 : decode cX5_isTooFar 11 = .ok (.iload_n 2, 1) := by decide +kernel
theorem dX5_isTooFar_12 : decode cX5_isTooFar 12 = .ok (.iaload, 1) := by decide +kernel
theorem dX5_isTooFar_13 : decode cX5_isTooFar 13 = .ok (.invokevirtual 76, 3) := by decide +kernel
theorem dX5_isTooFar_16 : decode cX5_isTooFar 16 = .ok (.aload_n 0, 1) := by decide +kernel
theorem dX5_isTooFar_17 : decode cX5_isTooFar 17 = .ok (.getfield 24, 3) := by decide +kernel
theorem dX5_isTooFar_20 : decode cX5_isTooFar 20 = .ok (.iload_n 1, 1) := by decide +kernel
theorem dX5_isTooFar_21 : decode cX5_isTooFar 21 = .ok (.iaload, 1) := by decide +kernel
theorem dX5_isTooFar_22 : decode cX5_isTooFar 22 = .ok (.aload_n 0, 1) := by decide +kernel
theorem dX5_isTooFar_23 : decode cX5_isTooFar 23 = .ok (.getfield 24, 3) := by decide +kernel
theorem dX5_isTooFar_26 : decode cX5_isTooFar 26 = .ok (.iload_n 2, 1) := by decide +kernel
theorem dX5_isTooFar_27 : decode cX5_isTooFar 27 = .ok (.iaload, 1) := by decide +kernel
theorem dX5_isTooFar_28 : decode cX5_isTooFar 28 = .ok (.isub, 1) := by decide +kernel
theorem dX5_isTooFar_29 : decode cX5_isTooFar 29 = .ok (.invokestatic 82, 3) := by decide +kernel
theorem dX5_isTooFar_32 : decode cX5_isTooFar 32 = .ok (.if_icmp .le 7, 3) := by decide +kernel
theorem dX5_isTooFar_35 : decode cX5_isTooFar 35 = .ok (.iconst 1, 1) := by decide +kernel
theorem dX5_isTooFar_36 : decode cX5_isTooFar 36 = .ok (.goto 4, 3) := by decide +kernel
theorem dX5_isTooFar_39 : decode cX5_isTooFar 39 = .ok (.iconst 0, 1) := by decide +kernel
theorem dX5_isTooFar_40 : decode cX5_isTooFar 40 = .ok (.ireturn, 1) := by decide +kernel
theorem dX5_longestChain_0 : decode cX5_longestChain 0 = .ok (.aload_n 0, 1) := by decide +kernel
theorem dX5_longestChain_1 : decode cX5_longestChain 1 = .ok (.invokevirtual 87, 3) := by decide +kernel
theorem dX5_longestChain_4 : decode cX5_longestChain 4 = .ok (.istore_n 2, 1) := by decide +kernel
theorem dX5_longestChain_5 : decode cX5_longestChain 5 = .ok (.aload_n 0, 1) := by decide +kernel
theorem dX5_longestChain_6 : decode cX5_longestChain 6 = .ok (.getfield 39, 3) := by decide +kernel
theorem dX5_longestChain_9 : decode cX5_longestChain 9 = .ok (.iconst 0, 1) := by decide +kernel
theorem dX5_longestChain_10 : decode cX5_longestChain 10 = .ok (.invokestatic 66, 3) := by decide +kernel
theorem dX5_longestChain_13 : decode cX5_longestChain 13 = .ok (.aload_n 0, 1) := by decide +kernel
theorem dX5_longestChain_14 : decode cX5_longestChain 14 = .ok (.getfield 42, 3) := by decide +kernel
theorem dX5_longestChain_17 : decode cX5_longestChain 17 = .ok (.iconst 1, 1) := by decide +kernel
theorem dX5_longestChain_18 : decode cX5_longestChain 18 = .ok (.isub, 1) := by decide +kernel
theorem dX5_longestChain_19 : decode cX5_longestChain 19 = .ok (.istore_n 3, 1) := by decide +kernel
theorem dX5_longestChain_20 : decode cX5_longestChain 20 = .ok (.iload_n 3, 1) := by decide +kernel
theorem dX5_longestChain_21 : decode cX5_longestChain 21 = .ok (.iload_n 1, 1) := by decide +kernel
theorem dX5_longestChain_22 : decode cX5_longestChain 22 = .ok (.if_icmp .le 55, 3) := by decide +kernel
theorem dX5_longestChain_25 : decode cX5_longestChain 25 = .ok (.aload_n 0, 1) := by decide +kernel
theorem dX5_longestChain_26 : decode cX5_longestChain 26 = .ok (.getfield 49, 3) := by decide +kernel
theorem dX5_longestChain_29 : decode cX5_longestChain 29 = .ok (.iload_n 2, 1) := by decide +kernel
theorem dX5_longestChain_30 : decode cX5_longestChain 30 = .ok (.iand, 1) := by decide +kernel
theorem dX5_longestChain_31 : decode cX5_longestChain 31 = .ok (.iconst 1, 1) := by decide +kernel
theorem dX5_longestChain_32 : decode cX5_longestChain 32 = .ok (.iload_n 3, 1) := by decide +kernel
theorem dX5_longestChain_33 : decode cX5_longestChain 33 = .ok (.ishl, 1) := by decide +kernel
theorem dX5_longestChain_34 : decode cX5_longestChain 34 = .ok (.iand, 1) := by decide +kernel
theorem dX5_longestChain_35 : decode cX5_longestChain 35 = .ok (.ifCond .eq 36, 3) := by decide +kernel
theorem dX5_longestChain_38 : decode cX5_longestChain 38 = .ok (.aload_n 0, 1) := by decide +kernel
theorem dX5_longestChain_39 : decode cX5_longestChain 39 = .ok (.getfield 39, 3) := by decide +kernel
theorem dX5_longestChain_42 : decode cX5_longestChain 42 = .ok (.aload_n 0, 1) := by decide +kernel
theorem dX5_longestChain_43 : decode cX5_longestChain 43 = .ok (.getfield 27, 3) := by decide +kernel
theorem dX5_longestChain_46 : decode cX5_longestChain 46 = .ok (.iload_n 3, 1) := by decide +kernel
theorem dX5_longestChain_47 : decode cX5_longestChain 47 = .ok (.iaload, 1) := by decide +kernel
theorem dX5_longestChain_48 : decode cX5_longestChain 48 = .ok (.aload_n 0, 1) := by decide +kernel
theorem dX5_longestChain_49 : decode cX5_longestChain 49 = .ok (.getfield 39, 3) := by decide +kernel
theorem dX5_longestChain_52 : decode cX5_longestChain 52 = .ok (.aload_n 0, 1) := by decide +kernel
theorem dX5_longestChain_53 : decode cX5_longestChain 53 = .ok (.getfield 27, 3) := by decide +kernel
theorem dX5_longestChain_56 : decode cX5_longestChain 56 = .ok (.iload_n 3, 1) := by decide +kernel
theorem dX5_longestChain_57 : decode cX5_longestChain 57 = .ok (.iaload, 1) := by decide +kernel
theorem dX5_longestChain_58 : decode cX5_longestChain 58 = .ok (.iaload, 1) := by decide +kernel
theorem dX5_longestChain_59 : decode cX5_longestChain 59 = .ok (.aload_n 0, 1) := by decide +kernel
theorem dX5_longestChain_60 : decode cX5_longestChain 60 = .ok (.getfield 39, 3) := by decide +kernel
theorem dX5_longestChain_63 : decode cX5_longestChain 63 = .ok (.iload_n 3, 1) := by decide +kernel
theorem dX5_longestChain_64 : decode cX5_longestChain 64 = .ok (.iaload, 1) := by decide +kernel
theorem dX5_longestChain_65 : decode cX5_longestChain 65 = .ok (.iconst 1, 1) := by decide +kernel
theorem dX5_longestChain_66 : decode cX5_longestChain 66 = .ok (.iadd, 1) := by decide +kernel
theorem dX5_longestChain_67 : decode cX5_longestChain 67 = .ok (.invokestatic 90, 3) := by decide +kernel
theorem dX5_longestChain_70 : decode cX5_longestChain 70 = .ok (.iastore, 1) := by decide +kernel
theorem dX5_longestChain_71 : decode cX5_longestChain 71 = .ok (.iinc 3 (-1), 3) := by decide +kernel
theorem dX5_longestChain_74 : decode cX5_longestChain 74 = .ok (.goto (-54), 3) := by decide +kernel
theorem dX5_longestChain_77 : decode cX5_longestChain 77 = .ok (.aload_n 0, 1) := by decide +kernel
theorem dX5_longestChain_78 : decode cX5_longestChain 78 = .ok (.getfield 39, 3) := by decide +kernel
theorem dX5_longestChain_81 : decode cX5_longestChain 81 = .ok (.iload_n 1, 1) := by decide +kernel
theorem dX5_longestChain_82 : decode cX5_longestChain 82 = .ok (.iaload, 1) := by decide +kernel
theorem dX5_longestChain_83 : decode cX5_longestChain 83 = .ok (.ireturn, 1) := by decide +kernel
theorem dX6_init_0 : decode cX6_init 0 = .ok (.aload_n 0, 1) := by decide +kernel
theorem dX6_init_1 : decode cX6_init 1 = .ok (.invokespecial 1, 3) := by decide +kernel
theorem dX6_init_4 : decode cX6_init 4 = .ok (.aload_n 0, 1) := by decide +kernel
theorem dX6_init_5 : decode cX6_init 5 = .ok (.new 7, 3) := by decide +kernel
theorem dX6_init_8 : decode cX6_init 8 = .ok (.dup, 1) := by decide +kernel
theorem dX6_init_9 : decode cX6_init 9 = .ok (.invokespecial 9, 3) := by decide +kernel
theorem dX6_init_12 : decode cX6_init 12 = .ok (.putfield 10, 3) := by decide +kernel
theorem dX6_init_15 : decode cX6_init 15 = .ok (.aload_n 0, 1) := by decide +kernel
theorem dX6_init_16 : decode cX6_init 16 = .ok (.new 16, 3) := by decide +kernel
theorem dX6_init_19 : decode cX6_init 19 = .ok (.dup, 1) := by decide +kernel
theorem dX6_init_20 : decode cX6_init 20 = .ok (.invokespecial 18, 3) := by decide +kernel
theorem dX6_init_23 : decode cX6_init 23 = .ok (.putfield 19, 3) := by decide +kernel
theorem dX6_init_26 : decode cX6_init 26 = .ok (.aload_n 0, 1) := by decide +kernel
theorem dX6_init_27 : decode cX6_init 27 = .ok (.new 23, 3) := by decide +kernel
theorem dX6_init_30 : decode cX6_init 30 = .ok (.dup, 1) := by decide +kernel
theorem dX6_init_31 : decode cX6_init 31 = .ok (.invokespecial 25, 3) := by decide +kernel
theorem dX6_init_34 : decode cX6_init 34 = .ok (.putfield 26, 3) := by decide +kernel
theorem dX6_init_37 : decode cX6_init 37 = .ok (.aload_n 0, 1) := by decide +kernel
theorem dX6_init_38 : decode cX6_init 38 = .ok (.new 23, 3) := by decide +kernel
theorem dX6_init_41 : decode cX6_init 41 = .ok (.dup, 1) := by decide +kernel
theorem dX6_init_42 : decode cX6_init 42 = .ok (.invokespecial 25, 3) := by decide +kernel
theorem dX6_init_45 : decode cX6_init 45 = .ok (.putfield 30, 3) := by decide +kernel
theorem dX6_init_48 : decode cX6_init 48 = .ok (.aload_n 0, 1) := by decide +kernel
theorem dX6_init_49 : decode cX6_init 49 = .ok (.iconst 4, 1) := by decide +kernel
theorem dX6_init_50 : decode cX6_init 50 = .ok (.anewarray 33, 3) := by decide +kernel
theorem dX6_init_53 : decode cX6_init 53 = .ok (.putfield 35, 3) := by decide +kernel
theorem dX6_init_56 : decode cX6_init 56 = .ok (.aload_n 0, 1) := by decide +kernel
theorem dX6_init_57 : decode cX6_init 57 = .ok (.new 39, 3) := by decide +kernel
theorem dX6_init_60 : decode cX6_init 60 = .ok (.dup, 1) := by decide +kernel
theorem dX6_init_61 : decode cX6_init 61 = .ok (.aload_n 0, 1) := by decide +kernel
theorem dX6_init_62 : decode cX6_init 62 = .ok (.getfield 19, 3) := by decide +kernel
theorem dX6_init_65 : decode cX6_init 65 = .ok (.invokespecial 41, 3) := by decide +kernel
theorem dX6_init_68 : decode cX6_init 68 = .ok (.putfield 44, 3) := by decide +kernel
theorem dX6_init_71 : decode cX6_init 71 = .ok (.aload_n 0, 1) := by decide +kernel
theorem dX6_init_72 : decode cX6_init 72 = .ok (.new 48, 3) := by decide +kernel
theorem dX6_init_75 : decode cX6_init 75 = .ok (.dup, 1) := by decide +kernel
theorem dX6_init_76 : decode cX6_init 76 = .ok (.aload_n 0, 1) := by decide +kernel
theorem dX6_init_77 : decode cX6_init 77 = .ok (.getfield 19, 3) := by decide +kernel
theorem dX6_init_80 : decode cX6_init 80 = .ok (.invokespecial 50, 3) := by decide +kernel
theorem dX6_init_83 : decode cX6_init 83 = .ok (.putfield 51, 3) := by decide +kernel
theorem dX6_init_86 : decode cX6_init 86 = .ok (.aload_n 0, 1) := by decide +kernel
theorem dX6_init_87 : decode cX6_init 87 = .ok (.iconst 0, 1) := by decide +kernel
theorem dX6_init_88 : decode cX6_init 88 = .ok (.putfield 55, 3) := by decide +kernel
theorem dX6_init_91 : decode cX6_init 91 = .ok (.iconst 0, 1) := by decide +kernel
theorem dX6_init_92 : decode cX6_init 92 = .ok (.istore_n 1, 1) := by decide +kernel
theorem dX6_init_93 : decode cX6_init 93 = .ok (.iload_n 1, 1) := by decide +kernel
theorem dX6_init_94 : decode cX6_init 94 = .ok (.iconst 4, 1) := by decide +kernel
theorem dX6_init_95 : decode cX6_init 95 = .ok (.if_icmp .ge 22, 3) := by decide +kernel
theorem dX6_init_98 : decode cX6_init 98 = .ok (.aload_n 0, 1) := by decide +kernel
theorem dX6_init_99 : decode cX6_init 99 = .ok (.getfield 35, 3) := by decide +kernel
theorem dX6_init_102 : decode cX6_init 102 = .ok (.iload_n 1, 1) := by decide +kernel
theorem dX6_init_103 : decode cX6_init 103 = .ok (.new 33, 3) := by decide +kernel
theorem dX6_init_106 : decode cX6_init 106 = .ok (.dup, 1) := by decide +kernel
theorem dX6_init_107 : decode cX6_init 107 = .ok (.invokespecial 59, 3) := by decide +kernel
theorem dX6_init_110 : decode cX6_init 110 = .ok (.aastore, 1) := by decide +kernel
theorem dX6_init_111 : decode cX6_init 111 = .ok (.iinc 1 1, 3) := by decide +kernel
theorem dX6_init_114 : decode cX6_init 114 = .ok (.goto (-21), 3) := by decide +kernel
theorem dX6_init_117 : decode cX6_init 117 = .ok (.return_, 1) := by decide +kernel
theorem dX6_road_0 : decode cX6_road 0 = .ok (.iload_n 1, 1) := by decide +kernel
theorem dX6_road_1 : decode cX6_road 1 = .ok (.invokestatic 60, 3) := by decide +kernel
theorem dX6_road_4 : decode cX6_road 4 = .ok (.ifCond .eq 25, 3) := by decide +kernel
theorem dX6_road_7 : decode cX6_road 7 = .ok (.iload_n 2, 1) := by decide +kernel
theorem dX6_road_8 : decode cX6_road 8 = .ok (.invokestatic 60, 3) := by decide +kernel
theorem dX6_road_11 : decode cX6_road 11 = .ok (.ifCond .eq 18, 3) := by decide +kernel
theorem dX6_road_14 : decode cX6_road 14 = .ok (.iload_n 1, 1) := by decide +kernel
theorem dX6_road_15 : decode cX6_road 15 = .ok (.iload_n 2, 1) := by decide +kernel
theorem dX6_road_16 : decode cX6_road 16 = .ok (.if_icmp .eq 13, 3) := by decide +kernel
theorem dX6_road_19 : decode cX6_road 19 = .ok (.iload_n 3, 1) := by decide +kernel
theorem dX6_road_20 : decode cX6_road 20 = .ok (.ifCond .lt 9, 3) := by decide +kernel
theorem dX6_road_23 : decode cX6_road 23 = .ok (.iload_n 3, 1) := by decide +kernel
theorem dX6_road_24 : decode cX6_road 24 = .ok (.bipush 99, 2) := by decide +kernel
theorem dX6_road_26 : decode cX6_road 26 = .ok (.if_icmp .le 6, 3) := by decide +kernel
theorem dX6_road_29 : decode cX6_road 29 = .ok (.bipush (-2), 2) := by decide +kernel
theorem dX6_road_31 : decode cX6_road 31 = .ok (.ireturn, 1) := by decide +kernel
theorem dX6_road_32 : decode cX6_road 32 = .ok (.aload_n 0, 1) := by decide +kernel
theorem dX6_road_33 : decode cX6_road 33 = .ok (.getfield 10, 3) := by decide +kernel
theorem dX6_road_36 : decode cX6_road 36 = .ok (.iload_n 1, 1) := by decide +kernel
theorem dX6_road_37 : decode cX6_road 37 = .ok (.iload_n 2, 1) := by decide +kernel
theorem dX6_road_38 : decode cX6_road 38 = .ok (.iload_n 3, 1) := by decide +kernel
theorem dX6_road_39 : decode cX6_road 39 = .ok (.invokevirtual 64, 3) := by decide +kernel
theorem dX6_road_42 : decode cX6_road 42 = .ok (.istore 4, 2) := by decide +kernel
theorem dX6_road_44 : decode cX6_road 44 = .ok (.aload_n 0, 1) := by decide +kernel
theorem dX6_road_45 : decode cX6_road 45 = .ok (.getfield 19, 3) := by decide +kernel
theorem dX6_road_48 : decode cX6_road 48 = .ok (.aload_n 0, 1) := by decide +kernel
theorem dX6_road_49 : decode cX6_road 49 = .ok (.getfield 10, 3) := by decide +kernel
theorem dX6_road_52 : decode cX6_road 52 = .ok (.invokevirtual 68, 3) := by decide +kernel
theorem dX6_road_55 : decode cX6_road 55 = .ok (.iload 4, 2) := by decide +kernel
theorem dX6_road_57 : decode cX6_road 57 = .ok (.ireturn, 1) := by decide +kernel
theorem dX6_away_0 : decode cX6_away 0 = .ok (.iload_n 1, 1) := by decide +kernel
theorem dX6_away_1 : decode cX6_away 1 = .ok (.invokestatic 60, 3) := by decide +kernel
theorem dX6_away_4 : decode cX6_away 4 = .ok (.ifCond .eq 22, 3) := by decide +kernel
theorem dX6_away_7 : decode cX6_away 7 = .ok (.iload_n 2, 1) := by decide +kernel
theorem dX6_away_8 : decode cX6_away 8 = .ok (.invokestatic 60, 3) := by decide +kernel
theorem dX6_away_11 : decode cX6_away 11 = .ok (.ifCond .eq 15, 3) := by decide +kernel
theorem dX6_away_14 : decode cX6_away 14 = .ok (.aload_n 0, 1) := by decide +kernel
theorem dX6_away_15 : decode cX6_away 15 = .ok (.getfield 10, 3) := by decide +kernel
theorem dX6_away_18 : decode cX6_away 18 = .ok (.iload_n 1, 1) := by decide +kernel
theorem dX6_away_19 : decode cX6_away 19 = .ok (.iload_n 2, 1) := by decide +kernel
theorem dX6_away_20 : decode cX6_away 20 = .ok (.invokevirtual 72, 3) := by decide +kernel
theorem dX6_away_23 : decode cX6_away 23 = .ok (.goto 5, 3) := by decide +kernel
theorem dX6_away_26 : decode cX6_away 26 = .ok (.bipush (-2), 2) := by decide +kernel
theorem dX6_away_28 : decode cX6_away 28 = .ok (.ireturn, 1) := by decide +kernel
theorem dX6_word_0 : decode cX6_word 0 = .ok (.aload_n 0, 1) := by decide +kernel
theorem dX6_word_1 : decode cX6_word 1 = .ok (.iload_n 1, 1) := by decide +kernel
theorem dX6_word_2 : decode cX6_word 2 = .ok (.iload_n 2, 1) := by decide +kernel
theorem dX6_word_3 : decode cX6_word 3 = .ok (.iload_n 3, 1) := by decide +kernel
theorem dX6_word_4 : decode cX6_word 4 = .ok (.iload 4, 2) := by decide +kernel
theorem dX6_word_6 : decode cX6_word 6 = .ok (.iload 5, 2) := by decide +kernel
theorem dX6_word_8 : decode cX6_word 8 = .ok (.invokevirtual 76, 3) := by decide +kernel
theorem dX6_word_11 : decode cX6_word 11 = .ok (.ifCond .ne 6, 3) := by decide +kernel
theorem dX6_word_14 : decode cX6_word 14 = .ok (.bipush (-2), 2) := by decide +kernel
theorem dX6_word_16 : decode cX6_word 16 = .ok (.ireturn, 1) := by decide +kernel
theorem dX6_word_17 : decode cX6_word 17 = .ok (.aload_n 0, 1) := by decide +kernel
theorem dX6_word_18 : decode cX6_word 18 = .ok (.getfield 19, 3) := by decide +kernel
theorem dX6_word_21 : decode cX6_word 21 = .ok (.getfield 80, 3) := by decide +kernel
theorem dX6_word_24 : decode cX6_word 24 = .ok (.bipush 10, 2) := by decide +kernel
theorem dX6_word_26 : decode cX6_word 26 = .ok (.if_icmp .lt 6, 3) := by decide +kernel
theorem dX6_word_29 : decode cX6_word 29 = .ok (.bipush (-4), 2) := by decide +kernel
theorem dX6_word_31 : decode cX6_word 31 = .ok (.ireturn, 1) := by decide +kernel
theorem dX6_word_32 : decode cX6_word 32 = .ok (.aload_n 0, 1) := by decide +kernel
theorem dX6_word_33 : decode cX6_word 33 = .ok (.getfield 19, 3) := by decide +kernel
theorem dX6_word_36 : decode cX6_word 36 = .ok (.iload_n 1, 1) := by decide +kernel
theorem dX6_word_37 : decode cX6_word 37 = .ok (.iload_n 2, 1) := by decide +kernel
theorem dX6_word_38 : decode cX6_word 38 = .ok (.iload_n 3, 1) := by decide +kernel
theorem dX6_word_39 : decode cX6_word 39 = .ok (.iload 4, 2) := by decide +kernel
theorem dX6_word_41 : decode cX6_word 41 = .ok (.iload 5, 2) := by decide +kernel
theorem dX6_word_43 : decode cX6_word 43 = .ok (.aload_n 0, 1) := by decide +kernel
theorem dX6_word_44 : decode cX6_word 44 = .ok (.getfield 10, 3) := by decide +kernel
theorem dX6_word_47 : decode cX6_word 47 = .ok (.invokevirtual 83, 3) := by decide +kernel
theorem dX6_word_50 : decode cX6_word 50 = .ok (.ireturn, 1) := by decide +kernel
theorem dX6_read_0 : decode cX6_read 0 = .ok (.aload_n 0, 1) := by decide +kernel
theorem dX6_read_1 : decode cX6_read 1 = .ok (.iload_n 1, 1) := by decide +kernel
theorem dX6_read_2 : decode cX6_read 2 = .ok (.invokevirtual 87, 3) := by decide +kernel
theorem dX6_read_5 : decode cX6_read 5 = .ok (.astore_n 2, 1) := by decide +kernel
theorem dX6_read_6 : decode cX6_read 6 = .ok (.aload_n 2, 1) := by decide +kernel
theorem dX6_read_7 : decode cX6_read 7 = .ok (.ifnonnull 6, 3) := by decide +kernel
theorem dX6_read_10 : decode cX6_read 10 = .ok (.bipush (-2), 2) := by decide +kernel
theorem dX6_read_12 : decode cX6_read 12 = .ok (.ireturn, 1) := by decide +kernel
theorem dX6_read_13 : decode cX6_read 13 = .ok (.aload_n 2, 1) := by decide +kernel
theorem dX6_read_14 : decode cX6_read 14 = .ok (.getfield 91, 3) := by decide +kernel
theorem dX6_read_17 : decode cX6_read 17 = .ok (.ifCond .eq 9, 3) := by decide +kernel
theorem dX6_read_20 : decode cX6_read 20 = .ok (.aload_n 0, 1) := by decide +kernel
theorem dX6_read_21 : decode cX6_read 21 = .ok (.iconst 1, 1) := by decide +kernel
theorem dX6_read_22 : decode cX6_read 22 = .ok (.invokevirtual 95, 3) := by decide +kernel
theorem dX6_read_25 : decode cX6_read 25 = .ok (.ireturn, 1) := by decide +kernel
theorem dX6_read_26 : decode cX6_read 26 = .ok (.iconst 0, 1) := by decide +kernel
theorem dX6_read_27 : decode cX6_read 27 = .ok (.istore_n 3, 1) := by decide +kernel
theorem dX6_read_28 : decode cX6_read 28 = .ok (.iconst 0, 1) := by decide +kernel
theorem dX6_read_29 : decode cX6_read 29 = .ok (.istore 4, 2) := by decide +kernel
theorem dX6_read_31 : decode cX6_read 31 = .ok (.iload 4, 2) := by decide +kernel
theorem dX6_read_33 : decode cX6_read 33 = .ok (.iconst 5, 1) := by decide +kernel
theorem dX6_read_34 : decode cX6_read 34 = .ok (.iadd, 1) := by decide +kernel
theorem dX6_read_35 : decode cX6_read 35 = .ok (.aload_n 2, 1) := by decide +kernel
theorem dX6_read_36 : decode cX6_read 36 = .ok (.getfield 99, 3) := by decide +kernel
theorem dX6_read_39 : decode cX6_read 39 = .ok (.if_icmp .gt 60, 3) := by decide +kernel
theorem dX6_read_42 : decode cX6_read 42 = .ok (.aload_n 2, 1) := by decide +kernel
theorem dX6_read_43 : decode cX6_read 43 = .ok (.getfield 100, 3) := by decide +kernel
theorem dX6_read_46 : decode cX6_read 46 = .ok (.astore 5, 2) := by decide +kernel
theorem dX6_read_48 : decode cX6_read 48 = .ok (.aload_n 0, 1) := by decide +kernel
theorem dX6_read_49 : decode cX6_read 49 = .ok (.aload 5, 2) := by decide +kernel
theorem dX6_read_51 : decode cX6_read 51 = .ok (.iload 4, 2) := by decide +kernel
theorem dX6_read_53 : decode cX6_read 53 = .ok (.iaload, 1) := by decide +kernel
theorem dX6_read_54 : decode cX6_read 54 = .ok (.aload 5, 2) := by decide +kernel
theorem dX6_read_56 : decode cX6_read 56 = .ok (.iload 4, 2) := by decide +kernel
theorem dX6_read_58 : decode cX6_read 58 = .ok (.iconst 1, 1) := by decide +kernel
theorem dX6_read_59 : decode cX6_read 59 = .ok (.iadd, 1) := by decide +kernel
theorem dX6_read_60 : decode cX6_read 60 = .ok (.iaload, 1) := by decide +kernel
theorem dX6_read_61 : decode cX6_read 61 = .ok (.aload 5, 2) := by decide +kernel
theorem dX6_read_63 : decode cX6_read 63 = .ok (.iload 4, 2) := by decide +kernel
theorem dX6_read_65 : decode cX6_read 65 = .ok (.iconst 2, 1) := by decide +kernel
theorem dX6_read_66 : decode cX6_read 66 = .ok (.iadd, 1) := by decide +kernel
theorem dX6_read_67 : decode cX6_read 67 = .ok (.iaload, 1) := by decide +kernel
theorem dX6_read_68 : decode cX6_read 68 = .ok (.aload 5, 2) := by decide +kernel
theorem dX6_read_70 : decode cX6_read 70 = .ok (.iload 4, 2) := by decide +kernel
theorem dX6_read_72 : decode cX6_read 72 = .ok (.iconst 3, 1) := by decide +kernel
theorem dX6_read_73 : decode cX6_read 73 = .ok (.iadd, 1) := by decide +kernel
theorem dX6_read_74 : decode cX6_read 74 = .ok (.iaload, 1) := by decide +kernel
theorem dX6_read_75 : decode cX6_read 75 = .ok (.aload 5, 2) := by decide +kernel
theorem dX6_read_77 : decode cX6_read 77 = .ok (.iload 4, 2) := by decide +kernel
theorem dX6_read_79 : decode cX6_read 79 = .ok (.iconst 4, 1) := by decide +kernel
theorem dX6_read_80 : decode cX6_read 80 = .ok (.iadd, 1) := by decide +kernel
theorem dX6_read_81 : decode cX6_read 81 = .ok (.iaload, 1) := by decide +kernel
theorem dX6_read_82 : decode cX6_read 82 = .ok (.invokevirtual 104, 3) := by decide +kernel
theorem dX6_read_85 : decode cX6_read 85 = .ok (.ifCond .ge 5, 3) := by decide +kernel
theorem dX6_read_88 : decode cX6_read 88 = .ok (.iload_n 3, 1) := by decide +kernel
theorem dX6_read_89 : decode cX6_read 89 = .ok (.ireturn, 1) := by decide +kernel
theorem dX6_read_90 : decode cX6_read 90 = .ok (.iinc 3 1, 3) := by decide +kernel
theorem dX6_read_93 : decode cX6_read 93 = .ok (.iinc 4 5, 3) := by decide +kernel
theorem dX6_read_96 : decode cX6_read 96 = .ok (.goto (-65), 3) := by decide +kernel
theorem dX6_read_99 : decode cX6_read 99 = .ok (.iload_n 3, 1) := by decide +kernel
theorem dX6_read_100 : decode cX6_read 100 = .ok (.ireturn, 1) := by decide +kernel
theorem dX6_is_0 : decode cX6_is 0 = .ok (.aload_n 0, 1) := by decide +kernel
theorem dX6_is_1 : decode cX6_is 1 = .ok (.getfield 19, 3) := by decide +kernel
theorem dX6_is_4 : decode cX6_is 4 = .ok (.iload_n 1, 1) := by decide +kernel
theorem dX6_is_5 : decode cX6_is 5 = .ok (.invokevirtual 108, 3) := by decide +kernel
theorem dX6_is_8 : decode cX6_is 8 = .ok (.ifCond .ne 6, 3) := by decide +kernel
theorem dX6_is_11 : decode cX6_is 11 = .ok (.bipush (-2), 2) := by decide +kernel
theorem dX6_is_13 : decode cX6_is 13 = .ok (.ireturn, 1) := by decide +kernel
theorem dX6_is_14 : decode cX6_is 14 = .ok (.iload_n 2, 1) := by decide +kernel
theorem dX6_is_15 : decode cX6_is 15 = .ok (.tableswitch 115 0 6 #[41, 51, 61, 71, 81, 91, 103], 41) := by decide +kernel
theorem dX6_is_56 : decode cX6_is 56 = .ok (.aload_n 0, 1) := by decide +kernel
theorem dX6_is_57 : decode cX6_is 57 = .ok (.getfield 19, 3) := by decide +kernel
theorem dX6_is_60 : decode cX6_is 60 = .ok (.getfield 111, 3) := by decide +kernel
theorem dX6_is_63 : decode cX6_is 63 = .ok (.iload_n 1, 1) := by decide +kernel
theorem dX6_is_64 : decode cX6_is 64 = .ok (.iaload, 1) := by decide +kernel
theorem dX6_is_65 : decode cX6_is 65 = .ok (.ireturn, 1) := by decide +kernel
theorem dX6_is_66 : decode cX6_is 66 = .ok (.aload_n 0, 1) := by decide +kernel
theorem dX6_is_67 : decode cX6_is 67 = .ok (.getfield 19, 3) := by decide +kernel
theorem dX6_is_70 : decode cX6_is 70 = .ok (.getfield 114, 3) := by decide +kernel
theorem dX6_is_73 : decode cX6_is 73 = .ok (.iload_n 1, 1) := by decide +kernel
theorem dX6_is_74 : decode cX6_is 74 = .ok (.iaload, 1) := by decide +kernel
theorem dX6_is_75 : decode cX6_is 75 = .ok (.ireturn, 1) := by decide +kernel
theorem dX6_is_76 : decode cX6_is 76 = .ok (.aload_n 0, 1) := by decide +kernel
theorem dX6_is_77 : decode cX6_is 77 = .ok (.getfield 19, 3) := by decide +kernel
theorem dX6_is_80 : decode cX6_is 80 = .ok (.getfield 117, 3) := by decide +kernel
theorem dX6_is_83 : decode cX6_is 83 = .ok (.iload_n 1, 1) := by decide +kernel
theorem dX6_is_84 : decode cX6_is 84 = .ok (.iaload, 1) := by decide +kernel
theorem dX6_is_85 : decode cX6_is 85 = .ok (.ireturn, 1) := by decide +kernel
theorem dX6_is_86 : decode cX6_is 86 = .ok (.aload_n 0, 1) := by decide +kernel
theorem dX6_is_87 : decode cX6_is 87 = .ok (.getfield 19, 3) := by decide +kernel
theorem dX6_is_90 : decode cX6_is 90 = .ok (.getfield 120, 3) := by decide +kernel
theorem dX6_is_93 : decode cX6_is 93 = .ok (.iload_n 1, 1) := by decide +kernel
theorem dX6_is_94 : decode cX6_is 94 = .ok (.iaload, 1) := by decide +kernel
theorem dX6_is_95 : decode cX6_is 95 = .ok (.ireturn, 1) := by decide +kernel
theorem dX6_is_96 : decode cX6_is 96 = .ok (.aload_n 0, 1) := by decide +kernel
theorem dX6_is_97 : decode cX6_is 97 = .ok (.getfield 19, 3) := by decide +kernel
theorem dX6_is_100 : decode cX6_is 100 = .ok (.getfield 123, 3) := by decide +kernel
theorem dX6_is_103 : decode cX6_is 103 = .ok (.iload_n 1, 1) := by decide +kernel
theorem dX6_is_104 : decode cX6_is 104 = .ok (.iaload, 1) := by decide +kernel
theorem dX6_is_105 : decode cX6_is 105 = .ok (.ireturn, 1) := by decide +kernel
theorem dX6_is_106 : decode cX6_is 106 = .ok (.aload_n 0, 1) := by decide +kernel
theorem dX6_is_107 : decode cX6_is 107 = .ok (.getfield 19, 3) := by decide +kernel
theorem dX6_is_110 : decode cX6_is 110 = .ok (.getfield 126, 3) := by decide +kernel
theorem dX6_is_113 : decode cX6_is 113 = .ok (.iload_n 1, 1) := by decide +kernel
theorem dX6_is_114 : decode cX6_is 114 = .ok (.ishr, 1) := by decide +kernel
theorem dX6_is_115 : decode cX6_is 115 = .ok (.iconst 1, 1) := by decide +kernel
theorem dX6_is_116 : decode cX6_is 116 = .ok (.iand, 1) := by decide +kernel
theorem dX6_is_117 : decode cX6_is 117 = .ok (.ireturn, 1) := by decide +kernel
theorem dX6_is_118 : decode cX6_is 118 = .ok (.aload_n 0, 1) := by decide +kernel
theorem dX6_is_119 : decode cX6_is 119 = .ok (.getfield 19, 3) := by decide +kernel
theorem dX6_is_122 : decode cX6_is 122 = .ok (.getfield 129, 3) := by decide +kernel
theorem dX6_is_125 : decode cX6_is 125 = .ok (.iload_n 1, 1) := by decide +kernel
theorem dX6_is_126 : decode cX6_is 126 = .ok (.ishr, 1) := by decide +kernel
theorem dX6_is_127 : decode cX6_is 127 = .ok (.iconst 1, 1) := by decide +kernel
theorem dX6_is_128 : decode cX6_is 128 = .ok (.iand, 1) := by decide +kernel
theorem dX6_is_129 : decode cX6_is 129 = .ok (.ireturn, 1) := by decide +kernel
theorem dX6_is_130 : decode cX6_is 130 = .ok (.bipush (-2), 2) := by decide +kernel
theorem dX6_is_132 : decode cX6_is 132 = .ok (.ireturn, 1) := by decide +kernel
theorem dX6_keep_0 : decode cX6_keep 0 = .ok (.iload_n 1, 1) := by decide +kernel
theorem dX6_keep_1 : decode cX6_keep 1 = .ok (.aload_n 0, 1) := by decide +kernel
theorem dX6_keep_2 : decode cX6_keep 2 = .ok (.getfield 19, 3) := by decide +kernel
theorem dX6_keep_5 : decode cX6_keep 5 = .ok (.invokevirtual 132, 3) := by decide +kernel
theorem dX6_keep_8 : decode cX6_keep 8 = .ok (.iconst (-1), 1) := by decide +kernel
theorem dX6_keep_9 : decode cX6_keep 9 = .ok (.ixor, 1) := by decide +kernel
theorem dX6_keep_10 : decode cX6_keep 10 = .ok (.iand, 1) := by decide +kernel
theorem dX6_keep_11 : decode cX6_keep 11 = .ok (.ifCond .eq 6, 3) := by decide +kernel
theorem dX6_keep_14 : decode cX6_keep 14 = .ok (.bipush (-2), 2) := by decide +kernel
theorem dX6_keep_16 : decode cX6_keep 16 = .ok (.ireturn, 1) := by decide +kernel
theorem dX6_keep_17 : decode cX6_keep 17 = .ok (.aload_n 0, 1) := by decide +kernel
theorem dX6_keep_18 : decode cX6_keep 18 = .ok (.getfield 19, 3) := by decide +kernel
theorem dX6_keep_21 : decode cX6_keep 21 = .ok (.getfield 126, 3) := by decide +kernel
theorem dX6_keep_24 : decode cX6_keep 24 = .ok (.istore_n 2, 1) := by decide +kernel
theorem dX6_keep_25 : decode cX6_keep 25 = .ok (.aload_n 0, 1) := by decide +kernel
theorem dX6_keep_26 : decode cX6_keep 26 = .ok (.getfield 19, 3) := by decide +kernel
theorem dX6_keep_29 : decode cX6_keep 29 = .ok (.iload_n 1, 1) := by decide +kernel
theorem dX6_keep_30 : decode cX6_keep 30 = .ok (.putfield 126, 3) := by decide +kernel
theorem dX6_keep_33 : decode cX6_keep 33 = .ok (.iload_n 2, 1) := by decide +kernel
theorem dX6_keep_34 : decode cX6_keep 34 = .ok (.ireturn, 1) := by decide +kernel
theorem dX6_mayBeTold_0 : decode cX6_mayBeTold 0 = .ok (.iload_n 1, 1) := by decide +kernel
theorem dX6_mayBeTold_1 : decode cX6_mayBeTold 1 = .ok (.ifCond .lt 20, 3) := by decide +kernel
theorem dX6_mayBeTold_4 : decode cX6_mayBeTold 4 = .ok (.iload_n 1, 1) := by decide +kernel
theorem dX6_mayBeTold_5 : decode cX6_mayBeTold 5 = .ok (.iconst 2, 1) := by decide +kernel
theorem dX6_mayBeTold_6 : decode cX6_mayBeTold 6 = .ok (.if_icmp .gt 15, 3) := by decide +kernel
theorem dX6_mayBeTold_9 : decode cX6_mayBeTold 9 = .ok (.iload_n 2, 1) := by decide +kernel
theorem dX6_mayBeTold_10 : decode cX6_mayBeTold 10 = .ok (.iconst 1, 1) := by decide +kernel
theorem dX6_mayBeTold_11 : decode cX6_mayBeTold 11 = .ok (.if_icmp .lt 10, 3) := by decide +kernel
theorem dX6_mayBeTold_14 : decode cX6_mayBeTold 14 = .ok (.iload_n 2, 1) := by decide +kernel
theorem dX6_mayBeTold_15 : decode cX6_mayBeTold 15 = .ok (.sipush 1023, 3) := by decide +kernel
theorem dX6_mayBeTold_18 : decode cX6_mayBeTold 18 = .ok (.if_icmp .le 5, 3) := by decide +kernel
theorem dX6_mayBeTold_21 : decode cX6_mayBeTold 21 = .ok (.iconst 0, 1) := by decide +kernel
theorem dX6_mayBeTold_22 : decode cX6_mayBeTold 22 = .ok (.ireturn, 1) := by decide +kernel
theorem dX6_mayBeTold_23 : decode cX6_mayBeTold 23 = .ok (.iload_n 3, 1) := by decide +kernel
theorem dX6_mayBeTold_24 : decode cX6_mayBeTold 24 = .ok (.invokestatic 60, 3) := by decide +kernel
theorem dX6_mayBeTold_27 : decode cX6_mayBeTold 27 = .ok (.ifCond .eq 16, 3) := by decide +kernel
theorem dX6_mayBeTold_30 : decode cX6_mayBeTold 30 = .ok (.iload 4, 2) := by decide +kernel
theorem dX6_mayBeTold_32 : decode cX6_mayBeTold 32 = .ok (.ifCond .lt 11, 3) := by decide +kernel
theorem dX6_mayBeTold_35 : decode cX6_mayBeTold 35 = .ok (.iload 4, 2) := by decide +kernel
theorem dX6_mayBeTold_37 : decode cX6_mayBeTold 37 = .ok (.sipush 999, 3) := by decide +kernel
theorem dX6_mayBeTold_40 : decode cX6_mayBeTold 40 = .ok (.if_icmp .le 5, 3) := by decide +kernel
theorem dX6_mayBeTold_43 : decode cX6_mayBeTold 43 = .ok (.iconst 0, 1) := by decide +kernel
theorem dX6_mayBeTold_44 : decode cX6_mayBeTold 44 = .ok (.ireturn, 1) := by decide +kernel
theorem dX6_mayBeTold_45 : decode cX6_mayBeTold 45 = .ok (.iload_n 1, 1) := by decide +kernel
theorem dX6_mayBeTold_46 : decode cX6_mayBeTold 46 = .ok (.ifCond .ne 23, 3) := by decide +kernel
theorem dX6_mayBeTold_49 : decode cX6_mayBeTold 49 = .ok (.iload 5, 2) := by decide +kernel
theorem dX6_mayBeTold_51 : decode cX6_mayBeTold 51 = .ok (.ifCond .lt 14, 3) := by decide +kernel
theorem dX6_mayBeTold_54 : decode cX6_mayBeTold 54 = .ok (.iload 5, 2) := by decide +kernel
theorem dX6_mayBeTold_56 : decode cX6_mayBeTold 56 = .ok (.bipush 99, 2) := by decide +kernel
theorem dX6_mayBeTold_58 : decode cX6_mayBeTold 58 = .ok (.if_icmp .gt 7, 3) := by decide +kernel
theorem dX6_mayBeTold_61 : decode cX6_mayBeTold 61 = .ok (.iconst 1, 1) := by decide +kernel
theorem dX6_mayBeTold_62 : decode cX6_mayBeTold 62 = .ok (.goto 16, 3) := by decide +kernel
theorem dX6_mayBeTold_65 : decode cX6_mayBeTold 65 = .ok (.iconst 0, 1) := by decide +kernel
theorem dX6_mayBeTold_66 : decode cX6_mayBeTold 66 = .ok (.goto 12, 3) := by decide +kernel
theorem dX6_mayBeTold_69 : decode cX6_mayBeTold 69 = .ok (.aload_n 0, 1) := by decide +kernel
theorem dX6_mayBeTold_70 : decode cX6_mayBeTold 70 = .ok (.getfield 19, 3) := by decide +kernel
theorem dX6_mayBeTold_73 : decode cX6_mayBeTold 73 = .ok (.iload 5, 2) := by decide +kernel
theorem dX6_mayBeTold_75 : decode cX6_mayBeTold 75 = .ok (.invokevirtual 108, 3) := by decide +kernel
theorem dX6_mayBeTold_78 : decode cX6_mayBeTold 78 = .ok (.ireturn, 1) := by decide +kernel
theorem dX6_isTown_0 : decode cX6_isTown 0 = .ok (.iload_n 0, 1) := by decide +kernel
theorem dX6_isTown_1 : decode cX6_isTown 1 = .ok (.ifCond .lt 13, 3) := by decide +kernel
theorem dX6_isTown_4 : decode cX6_isTown 4 = .ok (.iload_n 0, 1) := by decide +kernel
theorem dX6_isTown_5 : decode cX6_isTown 5 = .ok (.bipush 6, 2) := by decide +kernel
theorem dX6_isTown_7 : decode cX6_isTown 7 = .ok (.if_icmp .ge 7, 3) := by decide +kernel
theorem dX6_isTown_10 : decode cX6_isTown 10 = .ok (.iconst 1, 1) := by decide +kernel
theorem dX6_isTown_11 : decode cX6_isTown 11 = .ok (.goto 4, 3) := by decide +kernel
theorem dX6_isTown_14 : decode cX6_isTown 14 = .ok (.iconst 0, 1) := by decide +kernel
theorem dX6_isTown_15 : decode cX6_isTown 15 = .ok (.ireturn, 1) := by decide +kernel
theorem dX6_type_0 : decode cX6_type 0 = .ok (.aload_n 0, 1) := by decide +kernel
theorem dX6_type_1 : decode cX6_type 1 = .ok (.iload_n 1, 1) := by decide +kernel
theorem dX6_type_2 : decode cX6_type 2 = .ok (.invokevirtual 136, 3) := by decide +kernel
theorem dX6_type_5 : decode cX6_type 5 = .ok (.astore_n 3, 1) := by decide +kernel
theorem dX6_type_6 : decode cX6_type 6 = .ok (.aload_n 3, 1) := by decide +kernel
theorem dX6_type_7 : decode cX6_type 7 = .ok (.ifnull 14, 3) := by decide +kernel
theorem dX6_type_10 : decode cX6_type 10 = .ok (.iload_n 2, 1) := by decide +kernel
theorem dX6_type_11 : decode cX6_type 11 = .ok (.ifCond .lt 10, 3) := by decide +kernel
theorem dX6_type_14 : decode cX6_type 14 = .ok (.iload_n 2, 1) := by decide +kernel
theorem dX6_type_15 : decode cX6_type 15 = .ok (.sipush 255, 3) := by decide +kernel
theorem dX6_type_18 : decode cX6_type 18 = .ok (.if_icmp .le 6, 3) := by decide +kernel
theorem dX6_type_21 : decode cX6_type 21 = .ok (.bipush (-2), 2) := by decide +kernel
theorem dX6_type_23 : decode cX6_type 23 = .ok (.ireturn, 1) := by decide +kernel
theorem dX6_type_24 : decode cX6_type 24 = .ok (.aload_n 3, 1) := by decide +kernel
theorem dX6_type_25 : decode cX6_type 25 = .ok (.getfield 140, 3) := by decide +kernel
theorem dX6_type_28 : decode cX6_type 28 = .ok (.bipush 40, 2) := by decide +kernel
theorem dX6_type_30 : decode cX6_type 30 = .ok (.if_icmp .lt 6, 3) := by decide +kernel
theorem dX6_type_33 : decode cX6_type 33 = .ok (.bipush (-4), 2) := by decide +kernel
theorem dX6_type_35 : decode cX6_type 35 = .ok (.ireturn, 1) := by decide +kernel
theorem dX6_type_36 : decode cX6_type 36 = .ok (.aload_n 3, 1) := by decide +kernel
theorem dX6_type_37 : decode cX6_type 37 = .ok (.iload_n 2, 1) := by decide +kernel
theorem dX6_type_38 : decode cX6_type 38 = .ok (.invokevirtual 141, 3) := by decide +kernel
theorem dX6_type_41 : decode cX6_type 41 = .ok (.aload_n 3, 1) := by decide +kernel
theorem dX6_type_42 : decode cX6_type 42 = .ok (.getfield 140, 3) := by decide +kernel
theorem dX6_type_45 : decode cX6_type 45 = .ok (.ireturn, 1) := by decide +kernel
theorem dX6_wipe_0 : decode cX6_wipe 0 = .ok (.aload_n 0, 1) := by decide +kernel
theorem dX6_wipe_1 : decode cX6_wipe 1 = .ok (.iload_n 1, 1) := by decide +kernel
theorem dX6_wipe_2 : decode cX6_wipe 2 = .ok (.invokevirtual 136, 3) := by decide +kernel
theorem dX6_wipe_5 : decode cX6_wipe 5 = .ok (.astore_n 2, 1) := by decide +kernel
theorem dX6_wipe_6 : decode cX6_wipe 6 = .ok (.aload_n 2, 1) := by decide +kernel
theorem dX6_wipe_7 : decode cX6_wipe 7 = .ok (.ifnonnull 6, 3) := by decide +kernel
theorem dX6_wipe_10 : decode cX6_wipe 10 = .ok (.bipush (-2), 2) := by decide +kernel
theorem dX6_wipe_12 : decode cX6_wipe 12 = .ok (.ireturn, 1) := by decide +kernel
theorem dX6_wipe_13 : decode cX6_wipe 13 = .ok (.aload_n 2, 1) := by decide +kernel
theorem dX6_wipe_14 : decode cX6_wipe 14 = .ok (.getfield 140, 3) := by decide +kernel
theorem dX6_wipe_17 : decode cX6_wipe 17 = .ok (.istore_n 3, 1) := by decide +kernel
theorem dX6_wipe_18 : decode cX6_wipe 18 = .ok (.aload_n 2, 1) := by decide +kernel
theorem dX6_wipe_19 : decode cX6_wipe 19 = .ok (.invokevirtual 145, 3) := by decide +kernel
theorem dX6_wipe_22 : decode cX6_wipe 22 = .ok (.iload_n 3, 1) := by decide +kernel
theorem dX6_wipe_23 : decode cX6_wipe 23 = .ok (.ireturn, 1) := by decide +kernel
theorem dX6_fault_0 : decode cX6_fault 0 = .ok (.aload_n 0, 1) := by decide +kernel
theorem dX6_fault_1 : decode cX6_fault 1 = .ok (.iload_n 1, 1) := by decide +kernel
theorem dX6_fault_2 : decode cX6_fault 2 = .ok (.invokevirtual 136, 3) := by decide +kernel
theorem dX6_fault_5 : decode cX6_fault 5 = .ok (.astore_n 2, 1) := by decide +kernel
theorem dX6_fault_6 : decode cX6_fault 6 = .ok (.aload_n 2, 1) := by decide +kernel
theorem dX6_fault_7 : decode cX6_fault 7 = .ok (.ifnonnull 8, 3) := by decide +kernel
theorem dX6_fault_10 : decode cX6_fault 10 = .ok (.bipush (-2), 2) := by decide +kernel
theorem dX6_fault_12 : decode cX6_fault 12 = .ok (.goto 7, 3) := by decide +kernel
theorem dX6_fault_15 : decode cX6_fault 15 = .ok (.aload_n 2, 1) := by decide +kernel
theorem dX6_fault_16 : decode cX6_fault 16 = .ok (.getfield 148, 3) := by decide +kernel
theorem dX6_fault_19 : decode cX6_fault 19 = .ok (.ireturn, 1) := by decide +kernel
theorem dX6_law_0 : decode cX6_law 0 = .ok (.aload_n 0, 1) := by decide +kernel
theorem dX6_law_1 : decode cX6_law 1 = .ok (.iload_n 1, 1) := by decide +kernel
theorem dX6_law_2 : decode cX6_law 2 = .ok (.invokevirtual 136, 3) := by decide +kernel
theorem dX6_law_5 : decode cX6_law 5 = .ok (.astore_n 3, 1) := by decide +kernel
theorem dX6_law_6 : decode cX6_law 6 = .ok (.aload_n 3, 1) := by decide +kernel
theorem dX6_law_7 : decode cX6_law 7 = .ok (.ifnonnull 6, 3) := by decide +kernel
theorem dX6_law_10 : decode cX6_law 10 = .ok (.bipush (-2), 2) := by decide +kernel
theorem dX6_law_12 : decode cX6_law 12 = .ok (.ireturn, 1) := by decide +kernel
theorem dX6_law_13 : decode cX6_law 13 = .ok (.iload_n 2, 1) := by decide +kernel
theorem dX6_law_14 : decode cX6_law 14 = .ok (.tableswitch 50 0 3 #[30, 35, 40, 45], 30) := by decide +kernel
theorem dX6_law_44 : decode cX6_law 44 = .ok (.aload_n 3, 1) := by decide +kernel
theorem dX6_law_45 : decode cX6_law 45 = .ok (.getfield 151, 3) := by decide +kernel
theorem dX6_law_48 : decode cX6_law 48 = .ok (.ireturn, 1) := by decide +kernel
theorem dX6_law_49 : decode cX6_law 49 = .ok (.aload_n 3, 1) := by decide +kernel
theorem dX6_law_50 : decode cX6_law 50 = .ok (.getfield 154, 3) := by decide +kernel
theorem dX6_law_53 : decode cX6_law 53 = .ok (.ireturn, 1) := by decide +kernel
theorem dX6_law_54 : decode cX6_law 54 = .ok (.aload_n 3, 1) := by decide +kernel
theorem dX6_law_55 : decode cX6_law 55 = .ok (.getfield 157, 3) := by decide +kernel
theorem dX6_law_58 : decode cX6_law 58 = .ok (.ireturn, 1) := by decide +kernel
theorem dX6_law_59 : decode cX6_law 59 = .ok (.aload_n 3, 1) := by decide +kernel
theorem dX6_law_60 : decode cX6_law 60 = .ok (.getfield 160, 3) := by decide +kernel
theorem dX6_law_63 : decode cX6_law 63 = .ok (.ireturn, 1) := by decide +kernel
theorem dX6_law_64 : decode cX6_law 64 = .ok (.bipush (-2), 2) := by decide +kernel
theorem dX6_law_66 : decode cX6_law 66 = .ok (.ireturn, 1) := by decide +kernel
theorem dX6_lawOf_0 : decode cX6_lawOf 0 = .ok (.iload_n 1, 1) := by decide +kernel
theorem dX6_lawOf_1 : decode cX6_lawOf 1 = .ok (.ifCond .ne 8, 3) := by decide +kernel
theorem dX6_lawOf_4 : decode cX6_lawOf 4 = .ok (.aload_n 0, 1) := by decide +kernel
theorem dX6_lawOf_5 : decode cX6_lawOf 5 = .ok (.getfield 26, 3) := by decide +kernel
theorem dX6_lawOf_8 : decode cX6_lawOf 8 = .ok (.areturn, 1) := by decide +kernel
theorem dX6_lawOf_9 : decode cX6_lawOf 9 = .ok (.iload_n 1, 1) := by decide +kernel
theorem dX6_lawOf_10 : decode cX6_lawOf 10 = .ok (.iconst 1, 1) := by decide +kernel
theorem dX6_lawOf_11 : decode cX6_lawOf 11 = .ok (.if_icmp .ne 10, 3) := by decide +kernel
theorem dX6_lawOf_14 : decode cX6_lawOf 14 = .ok (.aload_n 0, 1) := by decide +kernel
theorem dX6_lawOf_15 : decode cX6_lawOf 15 = .ok (.getfield 30, 3) := by decide +kernel
theorem dX6_lawOf_18 : decode cX6_lawOf 18 = .ok (.goto 4, 3) := by decide +kernel
theorem dX6_lawOf_21 : decode cX6_lawOf 21 = .ok (.aconst_null, 1) := by decide +kernel
theorem dX6_lawOf_22 : decode cX6_lawOf 22 = .ok (.areturn, 1) := by decide +kernel
theorem dX6_heard_0 : decode cX6_heard 0 = .ok (.aload_n 0, 1) := by decide +kernel
theorem dX6_heard_1 : decode cX6_heard 1 = .ok (.iload_n 1, 1) := by decide +kernel
theorem dX6_heard_2 : decode cX6_heard 2 = .ok (.invokevirtual 136, 3) := by decide +kernel
theorem dX6_heard_5 : decode cX6_heard 5 = .ok (.astore_n 3, 1) := by decide +kernel
theorem dX6_heard_6 : decode cX6_heard 6 = .ok (.aload_n 3, 1) := by decide +kernel
theorem dX6_heard_7 : decode cX6_heard 7 = .ok (.ifnull 12, 3) := by decide +kernel
theorem dX6_heard_10 : decode cX6_heard 10 = .ok (.iload_n 2, 1) := by decide +kernel
theorem dX6_heard_11 : decode cX6_heard 11 = .ok (.ifCond .lt 8, 3) := by decide +kernel
theorem dX6_heard_14 : decode cX6_heard 14 = .ok (.iload_n 2, 1) := by decide +kernel
theorem dX6_heard_15 : decode cX6_heard 15 = .ok (.iconst 2, 1) := by decide +kernel
theorem dX6_heard_16 : decode cX6_heard 16 = .ok (.if_icmp .le 6, 3) := by decide +kernel
theorem dX6_heard_19 : decode cX6_heard 19 = .ok (.bipush (-2), 2) := by decide +kernel
theorem dX6_heard_21 : decode cX6_heard 21 = .ok (.ireturn, 1) := by decide +kernel
theorem dX6_heard_22 : decode cX6_heard 22 = .ok (.aload_n 0, 1) := by decide +kernel
theorem dX6_heard_23 : decode cX6_heard 23 = .ok (.getfield 44, 3) := by decide +kernel
theorem dX6_heard_26 : decode cX6_heard 26 = .ok (.aload_n 3, 1) := by decide +kernel
theorem dX6_heard_27 : decode cX6_heard 27 = .ok (.aload_n 0, 1) := by decide +kernel
theorem dX6_heard_28 : decode cX6_heard 28 = .ok (.getfield 19, 3) := by decide +kernel
theorem dX6_heard_31 : decode cX6_heard 31 = .ok (.invokevirtual 163, 3) := by decide +kernel
theorem dX6_heard_34 : decode cX6_heard 34 = .ok (.invokevirtual 166, 3) := by decide +kernel
theorem dX6_heard_37 : decode cX6_heard 37 = .ok (.aload_n 0, 1) := by decide +kernel
theorem dX6_heard_38 : decode cX6_heard 38 = .ok (.getfield 44, 3) := by decide +kernel
theorem dX6_heard_41 : decode cX6_heard 41 = .ok (.iload_n 2, 1) := by decide +kernel
theorem dX6_heard_42 : decode cX6_heard 42 = .ok (.invokevirtual 170, 3) := by decide +kernel
theorem dX6_heard_45 : decode cX6_heard 45 = .ok (.ireturn, 1) := by decide +kernel
theorem dX6_ordered_0 : decode cX6_ordered 0 = .ok (.aload_n 0, 1) := by decide +kernel
theorem dX6_ordered_1 : decode cX6_ordered 1 = .ok (.iload_n 1, 1) := by decide +kernel
theorem dX6_ordered_2 : decode cX6_ordered 2 = .ok (.invokevirtual 136, 3) := by decide +kernel
theorem dX6_ordered_5 : decode cX6_ordered 5 = .ok (.astore 4, 2) := by decide +kernel
theorem dX6_ordered_7 : decode cX6_ordered 7 = .ok (.aload_n 0, 1) := by decide +kernel
theorem dX6_ordered_8 : decode cX6_ordered 8 = .ok (.iload_n 2, 1) := by decide +kernel
theorem dX6_ordered_9 : decode cX6_ordered 9 = .ok (.invokevirtual 87, 3) := by decide +kernel
theorem dX6_ordered_12 : decode cX6_ordered 12 = .ok (.astore 5, 2) := by decide +kernel
theorem dX6_ordered_14 : decode cX6_ordered 14 = .ok (.aload 4, 2) := by decide +kernel
theorem dX6_ordered_16 : decode cX6_ordered 16 = .ok (.ifnull 17, 3) := by decide +kernel
theorem dX6_ordered_19 : decode cX6_ordered 19 = .ok (.aload 5, 2) := by decide +kernel
theorem dX6_ordered_21 : decode cX6_ordered 21 = .ok (.ifnull 12, 3) := by decide +kernel
theorem dX6_ordered_24 : decode cX6_ordered 24 = .ok (.iload_n 3, 1) := by decide +kernel
theorem dX6_ordered_25 : decode cX6_ordered 25 = .ok (.ifCond .lt 8, 3) := by decide +kernel
theorem dX6_ordered_28 : decode cX6_ordered 28 = .ok (.iload_n 3, 1) := by decide +kernel
theorem dX6_ordered_29 : decode cX6_ordered 29 = .ok (.iconst 2, 1) := by decide +kernel
theorem dX6_ordered_30 : decode cX6_ordered 30 = .ok (.if_icmp .le 6, 3) := by decide +kernel
theorem dX6_ordered_33 : decode cX6_ordered 33 = .ok (.bipush (-2), 2) := by decide +kernel
theorem dX6_ordered_35 : decode cX6_ordered 35 = .ok (.ireturn, 1) := by decide +kernel
theorem dX6_ordered_36 : decode cX6_ordered 36 = .ok (.aload 5, 2) := by decide +kernel
theorem dX6_ordered_38 : decode cX6_ordered 38 = .ok (.getfield 91, 3) := by decide +kernel
theorem dX6_ordered_41 : decode cX6_ordered 41 = .ok (.ifCond .eq 9, 3) := by decide +kernel
theorem dX6_ordered_44 : decode cX6_ordered 44 = .ok (.aload_n 0, 1) := by decide +kernel
theorem dX6_ordered_45 : decode cX6_ordered 45 = .ok (.iconst 1, 1) := by decide +kernel
theorem dX6_ordered_46 : decode cX6_ordered 46 = .ok (.invokevirtual 95, 3) := by decide +kernel
theorem dX6_ordered_49 : decode cX6_ordered 49 = .ok (.ireturn, 1) := by decide +kernel
theorem dX6_ordered_50 : decode cX6_ordered 50 = .ok (.aload_n 0, 1) := by decide +kernel
theorem dX6_ordered_51 : decode cX6_ordered 51 = .ok (.aload 5, 2) := by decide +kernel
theorem dX6_ordered_53 : decode cX6_ordered 53 = .ok (.invokevirtual 173, 3) := by decide +kernel
theorem dX6_ordered_56 : decode cX6_ordered 56 = .ok (.ifCond .ne 6, 3) := by decide +kernel
theorem dX6_ordered_59 : decode cX6_ordered 59 = .ok (.bipush (-3), 2) := by decide +kernel
theorem dX6_ordered_61 : decode cX6_ordered 61 = .ok (.ireturn, 1) := by decide +kernel
theorem dX6_ordered_62 : decode cX6_ordered 62 = .ok (.aload_n 0, 1) := by decide +kernel
theorem dX6_ordered_63 : decode cX6_ordered 63 = .ok (.getfield 44, 3) := by decide +kernel
theorem dX6_ordered_66 : decode cX6_ordered 66 = .ok (.invokevirtual 177, 3) := by decide +kernel
theorem dX6_ordered_69 : decode cX6_ordered 69 = .ok (.iconst 0, 1) := by decide +kernel
theorem dX6_ordered_70 : decode cX6_ordered 70 = .ok (.istore 6, 2) := by decide +kernel
theorem dX6_ordered_72 : decode cX6_ordered 72 = .ok (.iload 6, 2) := by decide +kernel
theorem dX6_ordered_74 : decode cX6_ordered 74 = .ok (.aload 5, 2) := by decide +kernel
theorem dX6_ordered_76 : decode cX6_ordered 76 = .ok (.getfield 99, 3) := by decide +kernel
theorem dX6_ordered_79 : decode cX6_ordered 79 = .ok (.if_icmp .ge 26, 3) := by decide +kernel
theorem dX6_ordered_82 : decode cX6_ordered 82 = .ok (.aload_n 0, 1) := by decide +kernel
theorem dX6_ordered_83 : decode cX6_ordered 83 = .ok (.getfield 44, 3) := by decide +kernel
theorem dX6_ordered_86 : decode cX6_ordered 86 = .ok (.aload 4, 2) := by decide +kernel
theorem dX6_ordered_88 : decode cX6_ordered 88 = .ok (.aload 5, 2) := by decide +kernel
theorem dX6_ordered_90 : decode cX6_ordered 90 = .ok (.getfield 100, 3) := by decide +kernel
theorem dX6_ordered_93 : decode cX6_ordered 93 = .ok (.iload 6, 2) := by decide +kernel
theorem dX6_ordered_95 : decode cX6_ordered 95 = .ok (.iaload, 1) := by decide +kernel
theorem dX6_ordered_96 : decode cX6_ordered 96 = .ok (.invokevirtual 180, 3) := by decide +kernel
theorem dX6_ordered_99 : decode cX6_ordered 99 = .ok (.iinc 6 1, 3) := by decide +kernel
theorem dX6_ordered_102 : decode cX6_ordered 102 = .ok (.goto (-30), 3) := by decide +kernel
theorem dX6_ordered_105 : decode cX6_ordered 105 = .ok (.aload_n 0, 1) := by decide +kernel
theorem dX6_ordered_106 : decode cX6_ordered 106 = .ok (.getfield 44, 3) := by decide +kernel
theorem dX6_ordered_109 : decode cX6_ordered 109 = .ok (.iload_n 3, 1) := by decide +kernel
theorem dX6_ordered_110 : decode cX6_ordered 110 = .ok (.invokevirtual 170, 3) := by decide +kernel
theorem dX6_ordered_113 : decode cX6_ordered 113 = .ok (.ireturn, 1) := by decide +kernel
theorem dX6_head_0 : decode cX6_head 0 = .ok (.aload_n 0, 1) := by decide +kernel
theorem dX6_head_1 : decode cX6_head 1 = .ok (.iload_n 1, 1) := by decide +kernel
theorem dX6_head_2 : decode cX6_head 2 = .ok (.invokevirtual 136, 3) := by decide +kernel
theorem dX6_head_5 : decode cX6_head 5 = .ok (.astore_n 3, 1) := by decide +kernel
theorem dX6_head_6 : decode cX6_head 6 = .ok (.aload_n 3, 1) := by decide +kernel
theorem dX6_head_7 : decode cX6_head 7 = .ok (.ifnull 13, 3) := by decide +kernel
theorem dX6_head_10 : decode cX6_head 10 = .ok (.iload_n 2, 1) := by decide +kernel
theorem dX6_head_11 : decode cX6_head 11 = .ok (.ifCond .lt 9, 3) := by decide +kernel
theorem dX6_head_14 : decode cX6_head 14 = .ok (.iload_n 2, 1) := by decide +kernel
theorem dX6_head_15 : decode cX6_head 15 = .ok (.bipush 10, 2) := by decide +kernel
theorem dX6_head_17 : decode cX6_head 17 = .ok (.if_icmp .lt 6, 3) := by decide +kernel
theorem dX6_head_20 : decode cX6_head 20 = .ok (.bipush (-2), 2) := by decide +kernel
theorem dX6_head_22 : decode cX6_head 22 = .ok (.ireturn, 1) := by decide +kernel
theorem dX6_head_23 : decode cX6_head 23 = .ok (.aload_n 0, 1) := by decide +kernel
theorem dX6_head_24 : decode cX6_head 24 = .ok (.getfield 44, 3) := by decide +kernel
theorem dX6_head_27 : decode cX6_head 27 = .ok (.aload_n 3, 1) := by decide +kernel
theorem dX6_head_28 : decode cX6_head 28 = .ok (.aload_n 0, 1) := by decide +kernel
theorem dX6_head_29 : decode cX6_head 29 = .ok (.getfield 19, 3) := by decide +kernel
theorem dX6_head_32 : decode cX6_head 32 = .ok (.invokevirtual 163, 3) := by decide +kernel
theorem dX6_head_35 : decode cX6_head 35 = .ok (.invokevirtual 166, 3) := by decide +kernel
theorem dX6_head_38 : decode cX6_head 38 = .ok (.aload_n 0, 1) := by decide +kernel
theorem dX6_head_39 : decode cX6_head 39 = .ok (.getfield 44, 3) := by decide +kernel
theorem dX6_head_42 : decode cX6_head 42 = .ok (.iload_n 2, 1) := by decide +kernel
theorem dX6_head_43 : decode cX6_head 43 = .ok (.invokevirtual 183, 3) := by decide +kernel
theorem dX6_head_46 : decode cX6_head 46 = .ok (.ireturn, 1) := by decide +kernel
theorem dX6_orders_0 : decode cX6_orders 0 = .ok (.aload_n 0, 1) := by decide +kernel
theorem dX6_orders_1 : decode cX6_orders 1 = .ok (.iload_n 1, 1) := by decide +kernel
theorem dX6_orders_2 : decode cX6_orders 2 = .ok (.invokevirtual 136, 3) := by decide +kernel
theorem dX6_orders_5 : decode cX6_orders 5 = .ok (.astore_n 3, 1) := by decide +kernel
theorem dX6_orders_6 : decode cX6_orders 6 = .ok (.aload_n 3, 1) := by decide +kernel
theorem dX6_orders_7 : decode cX6_orders 7 = .ok (.ifnull 19, 3) := by decide +kernel
theorem dX6_orders_10 : decode cX6_orders 10 = .ok (.iload_n 2, 1) := by decide +kernel
theorem dX6_orders_11 : decode cX6_orders 11 = .ok (.iconst (-1), 1) := by decide +kernel
theorem dX6_orders_12 : decode cX6_orders 12 = .ok (.if_icmp .eq 17, 3) := by decide +kernel
theorem dX6_orders_15 : decode cX6_orders 15 = .ok (.aload_n 0, 1) := by decide +kernel
theorem dX6_orders_16 : decode cX6_orders 16 = .ok (.getfield 19, 3) := by decide +kernel
theorem dX6_orders_19 : decode cX6_orders 19 = .ok (.iload_n 2, 1) := by decide +kernel
theorem dX6_orders_20 : decode cX6_orders 20 = .ok (.invokevirtual 108, 3) := by decide +kernel
theorem dX6_orders_23 : decode cX6_orders 23 = .ok (.ifCond .ne 6, 3) := by decide +kernel
theorem dX6_orders_26 : decode cX6_orders 26 = .ok (.bipush (-2), 2) := by decide +kernel
theorem dX6_orders_28 : decode cX6_orders 28 = .ok (.ireturn, 1) := by decide +kernel
theorem dX6_orders_29 : decode cX6_orders 29 = .ok (.aload_n 0, 1) := by decide +kernel
theorem dX6_orders_30 : decode cX6_orders 30 = .ok (.getfield 19, 3) := by decide +kernel
theorem dX6_orders_33 : decode cX6_orders 33 = .ok (.invokevirtual 163, 3) := by decide +kernel
theorem dX6_orders_36 : decode cX6_orders 36 = .ok (.istore 4, 2) := by decide +kernel
theorem dX6_orders_38 : decode cX6_orders 38 = .ok (.iload 4, 2) := by decide +kernel
theorem dX6_orders_40 : decode cX6_orders 40 = .ok (.invokestatic 186, 3) := by decide +kernel
theorem dX6_orders_43 : decode cX6_orders 43 = .ok (.bipush 7, 2) := by decide +kernel
theorem dX6_orders_45 : decode cX6_orders 45 = .ok (.if_icmp .le 6, 3) := by decide +kernel
theorem dX6_orders_48 : decode cX6_orders 48 = .ok (.bipush (-4), 2) := by decide +kernel
theorem dX6_orders_50 : decode cX6_orders 50 = .ok (.ireturn, 1) := by decide +kernel
theorem dX6_orders_51 : decode cX6_orders 51 = .ok (.iload_n 2, 1) := by decide +kernel
theorem dX6_orders_52 : decode cX6_orders 52 = .ok (.iconst (-1), 1) := by decide +kernel
theorem dX6_orders_53 : decode cX6_orders 53 = .ok (.if_icmp .ne 12, 3) := by decide +kernel
theorem dX6_orders_56 : decode cX6_orders 56 = .ok (.iload 4, 2) := by decide +kernel
theorem dX6_orders_58 : decode cX6_orders 58 = .ok (.invokestatic 186, 3) := by decide +kernel
theorem dX6_orders_61 : decode cX6_orders 61 = .ok (.invokestatic 191, 3) := by decide +kernel
theorem dX6_orders_64 : decode cX6_orders 64 = .ok (.ireturn, 1) := by decide +kernel
theorem dX6_orders_65 : decode cX6_orders 65 = .ok (.iload 4, 2) := by decide +kernel
theorem dX6_orders_67 : decode cX6_orders 67 = .ok (.iload_n 2, 1) := by decide +kernel
theorem dX6_orders_68 : decode cX6_orders 68 = .ok (.ishr, 1) := by decide +kernel
theorem dX6_orders_69 : decode cX6_orders 69 = .ok (.iconst 1, 1) := by decide +kernel
theorem dX6_orders_70 : decode cX6_orders 70 = .ok (.iand, 1) := by decide +kernel
theorem dX6_orders_71 : decode cX6_orders 71 = .ok (.ifCond .ne 5, 3) := by decide +kernel
theorem dX6_orders_74 : decode cX6_orders 74 = .ok (.iconst 0, 1) := by decide +kernel
theorem dX6_orders_75 : decode cX6_orders 75 = .ok (.ireturn, 1) := by decide +kernel
theorem dX6_orders_76 : decode cX6_orders 76 = .ok (.aload_n 0, 1) := by decide +kernel
theorem dX6_orders_77 : decode cX6_orders 77 = .ok (.getfield 44, 3) := by decide +kernel
theorem dX6_orders_80 : decode cX6_orders 80 = .ok (.invokevirtual 177, 3) := by decide +kernel
theorem dX6_orders_83 : decode cX6_orders 83 = .ok (.aload_n 0, 1) := by decide +kernel
theorem dX6_orders_84 : decode cX6_orders 84 = .ok (.getfield 44, 3) := by decide +kernel
theorem dX6_orders_87 : decode cX6_orders 87 = .ok (.aload_n 3, 1) := by decide +kernel
theorem dX6_orders_88 : decode cX6_orders 88 = .ok (.iload 4, 2) := by decide +kernel
theorem dX6_orders_90 : decode cX6_orders 90 = .ok (.iload_n 2, 1) := by decide +kernel
theorem dX6_orders_91 : decode cX6_orders 91 = .ok (.iconst 0, 1) := by decide +kernel
theorem dX6_orders_92 : decode cX6_orders 92 = .ok (.invokevirtual 194, 3) := by decide +kernel
theorem dX6_orders_95 : decode cX6_orders 95 = .ok (.ireturn, 1) := by decide +kernel
theorem dX6_isOrder_0 : decode cX6_isOrder 0 = .ok (.aload_n 0, 1) := by decide +kernel
theorem dX6_isOrder_1 : decode cX6_isOrder 1 = .ok (.getfield 19, 3) := by decide +kernel
theorem dX6_isOrder_4 : decode cX6_isOrder 4 = .ok (.invokevirtual 163, 3) := by decide +kernel
theorem dX6_isOrder_7 : decode cX6_isOrder 7 = .ok (.istore_n 2, 1) := by decide +kernel
theorem dX6_isOrder_8 : decode cX6_isOrder 8 = .ok (.iconst 0, 1) := by decide +kernel
theorem dX6_isOrder_9 : decode cX6_isOrder 9 = .ok (.istore_n 3, 1) := by decide +kernel
theorem dX6_isOrder_10 : decode cX6_isOrder 10 = .ok (.iload_n 3, 1) := by decide +kernel
theorem dX6_isOrder_11 : decode cX6_isOrder 11 = .ok (.aload_n 1, 1) := by decide +kernel
theorem dX6_isOrder_12 : decode cX6_isOrder 12 = .ok (.getfield 99, 3) := by decide +kernel
theorem dX6_isOrder_15 : decode cX6_isOrder 15 = .ok (.if_icmp .ge 49, 3) := by decide +kernel
theorem dX6_isOrder_18 : decode cX6_isOrder 18 = .ok (.aload_n 1, 1) := by decide +kernel
theorem dX6_isOrder_19 : decode cX6_isOrder 19 = .ok (.getfield 100, 3) := by decide +kernel
theorem dX6_isOrder_22 : decode cX6_isOrder 22 = .ok (.iload_n 3, 1) := by decide +kernel
theorem dX6_isOrder_23 : decode cX6_isOrder 23 = .ok (.iaload, 1) := by decide +kernel
theorem dX6_isOrder_24 : decode cX6_isOrder 24 = .ok (.istore 4, 2) := by decide +kernel
theorem dX6_isOrder_26 : decode cX6_isOrder 26 = .ok (.aload_n 0, 1) := by decide +kernel
theorem dX6_isOrder_27 : decode cX6_isOrder 27 = .ok (.getfield 19, 3) := by decide +kernel
theorem dX6_isOrder_30 : decode cX6_isOrder 30 = .ok (.iload 4, 2) := by decide +kernel
theorem dX6_isOrder_32 : decode cX6_isOrder 32 = .ok (.invokevirtual 108, 3) := by decide +kernel
theorem dX6_isOrder_35 : decode cX6_isOrder 35 = .ok (.ifCond .eq 12, 3) := by decide +kernel
theorem dX6_isOrder_38 : decode cX6_isOrder 38 = .ok (.iload_n 2, 1) := by decide +kernel
theorem dX6_isOrder_39 : decode cX6_isOrder 39 = .ok (.iload 4, 2) := by decide +kernel
theorem dX6_isOrder_41 : decode cX6_isOrder 41 = .ok (.ishr, 1) := by decide +kernel
theorem dX6_isOrder_42 : decode cX6_isOrder 42 = .ok (.iconst 1, 1) := by decide +kernel
theorem dX6_isOrder_43 : decode cX6_isOrder 43 = .ok (.iand, 1) := by decide +kernel
theorem dX6_isOrder_44 : decode cX6_isOrder 44 = .ok (.ifCond .ne 5, 3) := by decide +kernel
theorem dX6_isOrder_47 : decode cX6_isOrder 47 = .ok (.iconst 0, 1) := by decide +kernel
theorem dX6_isOrder_48 : decode cX6_isOrder 48 = .ok (.ireturn, 1) := by decide +kernel
theorem dX6_isOrder_49 : decode cX6_isOrder 49 = .ok (.iload_n 2, 1) := by decide +kernel
theorem dX6_isOrder_50 : decode cX6_isOrder 50 = .ok (.iconst 1, 1) := by decide +kernel
theorem dX6_isOrder_51 : decode cX6_isOrder 51 = .ok (.iload 4, 2) := by decide +kernel
theorem dX6_isOrder_53 : decode cX6_isOrder 53 = .ok (.ishl, 1) := by decide +kernel
theorem dX6_isOrder_54 : decode cX6_isOrder 54 = .ok (.iconst (-1), 1) := by decide +kernel
theorem dX6_isOrder_55 : decode cX6_isOrder 55 = .ok (.ixor, 1) := by decide +kernel
theorem dX6_isOrder_56 : decode cX6_isOrder 56 = .ok (.iand, 1) := by decide +kernel
theorem dX6_isOrder_57 : decode cX6_isOrder 57 = .ok (.istore_n 2, 1) := by decide +kernel
theorem dX6_isOrder_58 : decode cX6_isOrder 58 = .ok (.iinc 3 1, 3) := by decide +kernel
theorem dX6_isOrder_61 : decode cX6_isOrder 61 = .ok (.goto (-51), 3) := by decide +kernel
theorem dX6_isOrder_64 : decode cX6_isOrder 64 = .ok (.iconst 1, 1) := by decide +kernel
theorem dX6_isOrder_65 : decode cX6_isOrder 65 = .ok (.ireturn, 1) := by decide +kernel
theorem dX6_factorial_0 : decode cX6_factorial 0 = .ok (.iconst 1, 1) := by decide +kernel
theorem dX6_factorial_1 : decode cX6_factorial 1 = .ok (.istore_n 1, 1) := by decide +kernel
theorem dX6_factorial_2 : decode cX6_factorial 2 = .ok (.iconst 2, 1) := by decide +kernel
theorem dX6_factorial_3 : decode cX6_factorial 3 = .ok (.istore_n 2, 1) := by decide +kernel
theorem dX6_factorial_4 : decode cX6_factorial 4 = .ok (.iload_n 2, 1) := by decide +kernel
theorem dX6_factorial_5 : decode cX6_factorial 5 = .ok (.iload_n 0, 1) := by decide +kernel
theorem dX6_factorial_6 : decode cX6_factorial 6 = .ok (.if_icmp .gt 13, 3) := by decide +kernel
theorem dX6_factorial_9 : decode cX6_factorial 9 = .ok (.iload_n 1, 1) := by decide +kernel
theorem dX6_factorial_10 : decode cX6_factorial 10 = .ok (.iload_n 2, 1) := by decide +kernel
theorem dX6_factorial_11 : decode cX6_factorial 11 = .ok (.imul, 1) := by decide +kernel
theorem dX6_factorial_12 : decode cX6_factorial 12 = .ok (.istore_n 1, 1) := by decide +kernel
theorem dX6_factorial_13 : decode cX6_factorial 13 = .ok (.iinc 2 1, 3) := by decide +kernel
theorem dX6_factorial_16 : decode cX6_factorial 16 = .ok (.goto (-12), 3) := by decide +kernel
theorem dX6_factorial_19 : decode cX6_factorial 19 = .ok (.iload_n 1, 1) := by decide +kernel
theorem dX6_factorial_20 : decode cX6_factorial 20 = .ok (.ireturn, 1) := by decide +kernel
theorem dX6_strikes_0 : decode cX6_strikes 0 = .ok (.aload_n 0, 1) := by decide +kernel
theorem dX6_strikes_1 : decode cX6_strikes 1 = .ok (.iload_n 1, 1) := by decide +kernel
theorem dX6_strikes_2 : decode cX6_strikes 2 = .ok (.invokevirtual 136, 3) := by decide +kernel
theorem dX6_strikes_5 : decode cX6_strikes 5 = .ok (.astore 4, 2) := by decide +kernel
theorem dX6_strikes_7 : decode cX6_strikes 7 = .ok (.aload 4, 2) := by decide +kernel
theorem dX6_strikes_9 : decode cX6_strikes 9 = .ok (.ifnull 25, 3) := by decide +kernel
theorem dX6_strikes_12 : decode cX6_strikes 12 = .ok (.aload_n 0, 1) := by decide +kernel
theorem dX6_strikes_13 : decode cX6_strikes 13 = .ok (.getfield 19, 3) := by decide +kernel
theorem dX6_strikes_16 : decode cX6_strikes 16 = .ok (.iload_n 2, 1) := by decide +kernel
theorem dX6_strikes_17 : decode cX6_strikes 17 = .ok (.invokevirtual 108, 3) := by decide +kernel
theorem dX6_strikes_20 : decode cX6_strikes 20 = .ok (.ifCond .eq 14, 3) := by decide +kernel
theorem dX6_strikes_23 : decode cX6_strikes 23 = .ok (.aload_n 0, 1) := by decide +kernel
theorem dX6_strikes_24 : decode cX6_strikes 24 = .ok (.getfield 19, 3) := by decide +kernel
theorem dX6_strikes_27 : decode cX6_strikes 27 = .ok (.iload_n 3, 1) := by decide +kernel
theorem dX6_strikes_28 : decode cX6_strikes 28 = .ok (.invokevirtual 108, 3) := by decide +kernel
theorem dX6_strikes_31 : decode cX6_strikes 31 = .ok (.ifCond .ne 6, 3) := by decide +kernel
theorem dX6_strikes_34 : decode cX6_strikes 34 = .ok (.bipush (-2), 2) := by decide +kernel
theorem dX6_strikes_36 : decode cX6_strikes 36 = .ok (.ireturn, 1) := by decide +kernel
theorem dX6_strikes_37 : decode cX6_strikes 37 = .ok (.aload_n 0, 1) := by decide +kernel
theorem dX6_strikes_38 : decode cX6_strikes 38 = .ok (.getfield 51, 3) := by decide +kernel
theorem dX6_strikes_41 : decode cX6_strikes 41 = .ok (.aload 4, 2) := by decide +kernel
theorem dX6_strikes_43 : decode cX6_strikes 43 = .ok (.aload_n 0, 1) := by decide +kernel
theorem dX6_strikes_44 : decode cX6_strikes 44 = .ok (.getfield 19, 3) := by decide +kernel
theorem dX6_strikes_47 : decode cX6_strikes 47 = .ok (.invokevirtual 163, 3) := by decide +kernel
theorem dX6_strikes_50 : decode cX6_strikes 50 = .ok (.invokevirtual 198, 3) := by decide +kernel
theorem dX6_strikes_53 : decode cX6_strikes 53 = .ok (.aload_n 0, 1) := by decide +kernel
theorem dX6_strikes_54 : decode cX6_strikes 54 = .ok (.getfield 51, 3) := by decide +kernel
theorem dX6_strikes_57 : decode cX6_strikes 57 = .ok (.iconst 1, 1) := by decide +kernel
theorem dX6_strikes_58 : decode cX6_strikes 58 = .ok (.iload_n 2, 1) := by decide +kernel
theorem dX6_strikes_59 : decode cX6_strikes 59 = .ok (.ishl, 1) := by decide +kernel
theorem dX6_strikes_60 : decode cX6_strikes 60 = .ok (.invokevirtual 201, 3) := by decide +kernel
theorem dX6_strikes_63 : decode cX6_strikes 63 = .ok (.iload_n 3, 1) := by decide +kernel
theorem dX6_strikes_64 : decode cX6_strikes 64 = .ok (.ishr, 1) := by decide +kernel
theorem dX6_strikes_65 : decode cX6_strikes 65 = .ok (.iconst 1, 1) := by decide +kernel
theorem dX6_strikes_66 : decode cX6_strikes 66 = .ok (.iand, 1) := by decide +kernel
theorem dX6_strikes_67 : decode cX6_strikes 67 = .ok (.ireturn, 1) := by decide +kernel
theorem dX6_sound_0 : decode cX6_sound 0 = .ok (.aload_n 0, 1) := by decide +kernel
theorem dX6_sound_1 : decode cX6_sound 1 = .ok (.iload_n 1, 1) := by decide +kernel
theorem dX6_sound_2 : decode cX6_sound 2 = .ok (.invokevirtual 136, 3) := by decide +kernel
theorem dX6_sound_5 : decode cX6_sound 5 = .ok (.astore_n 3, 1) := by decide +kernel
theorem dX6_sound_6 : decode cX6_sound 6 = .ok (.aload_n 3, 1) := by decide +kernel
theorem dX6_sound_7 : decode cX6_sound 7 = .ok (.ifnull 17, 3) := by decide +kernel
theorem dX6_sound_10 : decode cX6_sound 10 = .ok (.iload_n 2, 1) := by decide +kernel
theorem dX6_sound_11 : decode cX6_sound 11 = .ok (.aload_n 0, 1) := by decide +kernel
theorem dX6_sound_12 : decode cX6_sound 12 = .ok (.getfield 19, 3) := by decide +kernel
theorem dX6_sound_15 : decode cX6_sound 15 = .ok (.invokevirtual 132, 3) := by decide +kernel
theorem dX6_sound_18 : decode cX6_sound 18 = .ok (.iconst (-1), 1) := by decide +kernel
theorem dX6_sound_19 : decode cX6_sound 19 = .ok (.ixor, 1) := by decide +kernel
theorem dX6_sound_20 : decode cX6_sound 20 = .ok (.iand, 1) := by decide +kernel
theorem dX6_sound_21 : decode cX6_sound 21 = .ok (.ifCond .eq 6, 3) := by decide +kernel
theorem dX6_sound_24 : decode cX6_sound 24 = .ok (.bipush (-2), 2) := by decide +kernel
theorem dX6_sound_26 : decode cX6_sound 26 = .ok (.ireturn, 1) := by decide +kernel
theorem dX6_sound_27 : decode cX6_sound 27 = .ok (.aload_n 0, 1) := by decide +kernel
theorem dX6_sound_28 : decode cX6_sound 28 = .ok (.getfield 51, 3) := by decide +kernel
theorem dX6_sound_31 : decode cX6_sound 31 = .ok (.aload_n 3, 1) := by decide +kernel
theorem dX6_sound_32 : decode cX6_sound 32 = .ok (.aload_n 0, 1) := by decide +kernel
theorem dX6_sound_33 : decode cX6_sound 33 = .ok (.getfield 19, 3) := by decide +kernel
theorem dX6_sound_36 : decode cX6_sound 36 = .ok (.invokevirtual 163, 3) := by decide +kernel
theorem dX6_sound_39 : decode cX6_sound 39 = .ok (.invokevirtual 198, 3) := by decide +kernel
theorem dX6_sound_42 : decode cX6_sound 42 = .ok (.aload_n 0, 1) := by decide +kernel
theorem dX6_sound_43 : decode cX6_sound 43 = .ok (.getfield 51, 3) := by decide +kernel
theorem dX6_sound_46 : decode cX6_sound 46 = .ok (.iload_n 2, 1) := by decide +kernel
theorem dX6_sound_47 : decode cX6_sound 47 = .ok (.invokevirtual 204, 3) := by decide +kernel
theorem dX6_sound_50 : decode cX6_sound 50 = .ok (.ifCond .eq 7, 3) := by decide +kernel
theorem dX6_sound_53 : decode cX6_sound 53 = .ok (.iconst 1, 1) := by decide +kernel
theorem dX6_sound_54 : decode cX6_sound 54 = .ok (.goto 4, 3) := by decide +kernel
theorem dX6_sound_57 : decode cX6_sound 57 = .ok (.iconst 0, 1) := by decide +kernel
theorem dX6_sound_58 : decode cX6_sound 58 = .ok (.ireturn, 1) := by decide +kernel
theorem dX6_least_0 : decode cX6_least 0 = .ok (.aload_n 0, 1) := by decide +kernel
theorem dX6_least_1 : decode cX6_least 1 = .ok (.iload_n 1, 1) := by decide +kernel
theorem dX6_least_2 : decode cX6_least 2 = .ok (.invokevirtual 136, 3) := by decide +kernel
theorem dX6_least_5 : decode cX6_least 5 = .ok (.astore_n 2, 1) := by decide +kernel
theorem dX6_least_6 : decode cX6_least 6 = .ok (.aload_n 2, 1) := by decide +kernel
theorem dX6_least_7 : decode cX6_least 7 = .ok (.ifnonnull 6, 3) := by decide +kernel
theorem dX6_least_10 : decode cX6_least 10 = .ok (.bipush (-2), 2) := by decide +kernel
theorem dX6_least_12 : decode cX6_least 12 = .ok (.ireturn, 1) := by decide +kernel
theorem dX6_least_13 : decode cX6_least 13 = .ok (.aload_n 0, 1) := by decide +kernel
theorem dX6_least_14 : decode cX6_least 14 = .ok (.getfield 51, 3) := by decide +kernel
theorem dX6_least_17 : decode cX6_least 17 = .ok (.aload_n 2, 1) := by decide +kernel
theorem dX6_least_18 : decode cX6_least 18 = .ok (.aload_n 0, 1) := by decide +kernel
theorem dX6_least_19 : decode cX6_least 19 = .ok (.getfield 19, 3) := by decide +kernel
theorem dX6_least_22 : decode cX6_least 22 = .ok (.invokevirtual 163, 3) := by decide +kernel
theorem dX6_least_25 : decode cX6_least 25 = .ok (.invokevirtual 198, 3) := by decide +kernel
theorem dX6_least_28 : decode cX6_least 28 = .ok (.aload_n 0, 1) := by decide +kernel
theorem dX6_least_29 : decode cX6_least 29 = .ok (.getfield 51, 3) := by decide +kernel
theorem dX6_least_32 : decode cX6_least 32 = .ok (.invokevirtual 207, 3) := by decide +kernel
theorem dX6_least_35 : decode cX6_least 35 = .ok (.ireturn, 1) := by decide +kernel
theorem dX6_full_0 : decode cX6_full 0 = .ok (.aload_n 0, 1) := by decide +kernel
theorem dX6_full_1 : decode cX6_full 1 = .ok (.iload_n 1, 1) := by decide +kernel
theorem dX6_full_2 : decode cX6_full 2 = .ok (.invokevirtual 136, 3) := by decide +kernel
theorem dX6_full_5 : decode cX6_full 5 = .ok (.astore_n 3, 1) := by decide +kernel
theorem dX6_full_6 : decode cX6_full 6 = .ok (.aload_n 3, 1) := by decide +kernel
theorem dX6_full_7 : decode cX6_full 7 = .ok (.ifnull 8, 3) := by decide +kernel
theorem dX6_full_10 : decode cX6_full 10 = .ok (.iload_n 2, 1) := by decide +kernel
theorem dX6_full_11 : decode cX6_full 11 = .ok (.iconst (-1), 1) := by decide +kernel
theorem dX6_full_12 : decode cX6_full 12 = .ok (.if_icmp .ge 6, 3) := by decide +kernel
theorem dX6_full_15 : decode cX6_full 15 = .ok (.bipush (-2), 2) := by decide +kernel
theorem dX6_full_17 : decode cX6_full 17 = .ok (.ireturn, 1) := by decide +kernel
theorem dX6_full_18 : decode cX6_full 18 = .ok (.aload_n 0, 1) := by decide +kernel
theorem dX6_full_19 : decode cX6_full 19 = .ok (.getfield 51, 3) := by decide +kernel
theorem dX6_full_22 : decode cX6_full 22 = .ok (.aload_n 3, 1) := by decide +kernel
theorem dX6_full_23 : decode cX6_full 23 = .ok (.aload_n 0, 1) := by decide +kernel
theorem dX6_full_24 : decode cX6_full 24 = .ok (.getfield 19, 3) := by decide +kernel
theorem dX6_full_27 : decode cX6_full 27 = .ok (.invokevirtual 163, 3) := by decide +kernel
theorem dX6_full_30 : decode cX6_full 30 = .ok (.invokevirtual 198, 3) := by decide +kernel
theorem dX6_full_33 : decode cX6_full 33 = .ok (.aload_n 0, 1) := by decide +kernel
theorem dX6_full_34 : decode cX6_full 34 = .ok (.getfield 51, 3) := by decide +kernel
theorem dX6_full_37 : decode cX6_full 37 = .ok (.invokevirtual 210, 3) := by decide +kernel
theorem dX6_full_40 : decode cX6_full 40 = .ok (.iload_n 2, 1) := by decide +kernel
theorem dX6_full_41 : decode cX6_full 41 = .ok (.iconst (-1), 1) := by decide +kernel
theorem dX6_full_42 : decode cX6_full 42 = .ok (.if_icmp .ne 13, 3) := by decide +kernel
theorem dX6_full_45 : decode cX6_full 45 = .ok (.aload_n 0, 1) := by decide +kernel
theorem dX6_full_46 : decode cX6_full 46 = .ok (.getfield 51, 3) := by decide +kernel
theorem dX6_full_49 : decode cX6_full 49 = .ok (.invokevirtual 213, 3) := by decide +kernel
theorem dX6_full_52 : decode cX6_full 52 = .ok (.goto 11, 3) := by decide +kernel
theorem dX6_full_55 : decode cX6_full 55 = .ok (.aload_n 0, 1) := by decide +kernel
theorem dX6_full_56 : decode cX6_full 56 = .ok (.getfield 51, 3) := by decide +kernel
theorem dX6_full_59 : decode cX6_full 59 = .ok (.iload_n 2, 1) := by decide +kernel
theorem dX6_full_60 : decode cX6_full 60 = .ok (.invokevirtual 216, 3) := by decide +kernel
theorem dX6_full_63 : decode cX6_full 63 = .ok (.ireturn, 1) := by decide +kernel
theorem dX6_firm_0 : decode cX6_firm 0 = .ok (.aload_n 0, 1) := by decide +kernel
theorem dX6_firm_1 : decode cX6_firm 1 = .ok (.iload_n 1, 1) := by decide +kernel
theorem dX6_firm_2 : decode cX6_firm 2 = .ok (.invokevirtual 136, 3) := by decide +kernel
theorem dX6_firm_5 : decode cX6_firm 5 = .ok (.astore_n 3, 1) := by decide +kernel
theorem dX6_firm_6 : decode cX6_firm 6 = .ok (.aload_n 3, 1) := by decide +kernel
theorem dX6_firm_7 : decode cX6_firm 7 = .ok (.ifnull 14, 3) := by decide +kernel
theorem dX6_firm_10 : decode cX6_firm 10 = .ok (.aload_n 0, 1) := by decide +kernel
theorem dX6_firm_11 : decode cX6_firm 11 = .ok (.getfield 19, 3) := by decide +kernel
theorem dX6_firm_14 : decode cX6_firm 14 = .ok (.iload_n 2, 1) := by decide +kernel
theorem dX6_firm_15 : decode cX6_firm 15 = .ok (.invokevirtual 108, 3) := by decide +kernel
theorem dX6_firm_18 : decode cX6_firm 18 = .ok (.ifCond .ne 6, 3) := by decide +kernel
theorem dX6_firm_21 : decode cX6_firm 21 = .ok (.bipush (-2), 2) := by decide +kernel
theorem dX6_firm_23 : decode cX6_firm 23 = .ok (.ireturn, 1) := by decide +kernel
theorem dX6_firm_24 : decode cX6_firm 24 = .ok (.aload_n 0, 1) := by decide +kernel
theorem dX6_firm_25 : decode cX6_firm 25 = .ok (.getfield 51, 3) := by decide +kernel
theorem dX6_firm_28 : decode cX6_firm 28 = .ok (.aload_n 3, 1) := by decide +kernel
theorem dX6_firm_29 : decode cX6_firm 29 = .ok (.aload_n 0, 1) := by decide +kernel
theorem dX6_firm_30 : decode cX6_firm 30 = .ok (.getfield 19, 3) := by decide +kernel
theorem dX6_firm_33 : decode cX6_firm 33 = .ok (.invokevirtual 163, 3) := by decide +kernel
theorem dX6_firm_36 : decode cX6_firm 36 = .ok (.invokevirtual 198, 3) := by decide +kernel
theorem dX6_firm_39 : decode cX6_firm 39 = .ok (.aload_n 0, 1) := by decide +kernel
theorem dX6_firm_40 : decode cX6_firm 40 = .ok (.getfield 51, 3) := by decide +kernel
theorem dX6_firm_43 : decode cX6_firm 43 = .ok (.invokevirtual 210, 3) := by decide +kernel
theorem dX6_firm_46 : decode cX6_firm 46 = .ok (.aload_n 0, 1) := by decide +kernel
theorem dX6_firm_47 : decode cX6_firm 47 = .ok (.getfield 51, 3) := by decide +kernel
theorem dX6_firm_50 : decode cX6_firm 50 = .ok (.iload_n 2, 1) := by decide +kernel
theorem dX6_firm_51 : decode cX6_firm 51 = .ok (.invokevirtual 219, 3) := by decide +kernel
theorem dX6_firm_54 : decode cX6_firm 54 = .ok (.ireturn, 1) := by decide +kernel
theorem dX6_ring_0 : decode cX6_ring 0 = .ok (.aload_n 0, 1) := by decide +kernel
theorem dX6_ring_1 : decode cX6_ring 1 = .ok (.getfield 51, 3) := by decide +kernel
theorem dX6_ring_4 : decode cX6_ring 4 = .ok (.aload_n 0, 1) := by decide +kernel
theorem dX6_ring_5 : decode cX6_ring 5 = .ok (.getfield 26, 3) := by decide +kernel
theorem dX6_ring_8 : decode cX6_ring 8 = .ok (.aload_n 0, 1) := by decide +kernel
theorem dX6_ring_9 : decode cX6_ring 9 = .ok (.getfield 19, 3) := by decide +kernel
theorem dX6_ring_12 : decode cX6_ring 12 = .ok (.invokevirtual 163, 3) := by decide +kernel
theorem dX6_ring_15 : decode cX6_ring 15 = .ok (.invokevirtual 198, 3) := by decide +kernel
theorem dX6_ring_18 : decode cX6_ring 18 = .ok (.aload_n 0, 1) := by decide +kernel
theorem dX6_ring_19 : decode cX6_ring 19 = .ok (.getfield 51, 3) := by decide +kernel
theorem dX6_ring_22 : decode cX6_ring 22 = .ok (.invokevirtual 222, 3) := by decide +kernel
theorem dX6_ring_25 : decode cX6_ring 25 = .ok (.ireturn, 1) := by decide +kernel
theorem dX6_chain_0 : decode cX6_chain 0 = .ok (.aload_n 0, 1) := by decide +kernel
theorem dX6_chain_1 : decode cX6_chain 1 = .ok (.getfield 19, 3) := by decide +kernel
theorem dX6_chain_4 : decode cX6_chain 4 = .ok (.iload_n 1, 1) := by decide +kernel
theorem dX6_chain_5 : decode cX6_chain 5 = .ok (.invokevirtual 108, 3) := by decide +kernel
theorem dX6_chain_8 : decode cX6_chain 8 = .ok (.ifCond .eq 14, 3) := by decide +kernel
theorem dX6_chain_11 : decode cX6_chain 11 = .ok (.aload_n 0, 1) := by decide +kernel
theorem dX6_chain_12 : decode cX6_chain 12 = .ok (.getfield 19, 3) := by decide +kernel
theorem dX6_chain_15 : decode cX6_chain 15 = .ok (.iload_n 1, 1) := by decide +kernel
theorem dX6_chain_16 : decode cX6_chain 16 = .ok (.invokevirtual 225, 3) := by decide +kernel
theorem dX6_chain_19 : decode cX6_chain 19 = .ok (.goto 5, 3) := by decide +kernel
theorem dX6_chain_22 : decode cX6_chain 22 = .ok (.bipush (-2), 2) := by decide +kernel
theorem dX6_chain_24 : decode cX6_chain 24 = .ok (.ireturn, 1) := by decide +kernel
theorem dX6_hangs_0 : decode cX6_hangs 0 = .ok (.aload_n 0, 1) := by decide +kernel
theorem dX6_hangs_1 : decode cX6_hangs 1 = .ok (.getfield 19, 3) := by decide +kernel
theorem dX6_hangs_4 : decode cX6_hangs 4 = .ok (.iload_n 1, 1) := by decide +kernel
theorem dX6_hangs_5 : decode cX6_hangs 5 = .ok (.invokevirtual 108, 3) := by decide +kernel
theorem dX6_hangs_8 : decode cX6_hangs 8 = .ok (.ifCond .eq 17, 3) := by decide +kernel
theorem dX6_hangs_11 : decode cX6_hangs 11 = .ok (.aload_n 0, 1) := by decide +kernel
theorem dX6_hangs_12 : decode cX6_hangs 12 = .ok (.getfield 19, 3) := by decide +kernel
theorem dX6_hangs_15 : decode cX6_hangs 15 = .ok (.getfield 126, 3) := by decide +kernel
theorem dX6_hangs_18 : decode cX6_hangs 18 = .ok (.iload_n 1, 1) := by decide +kernel
theorem dX6_hangs_19 : decode cX6_hangs 19 = .ok (.ishr, 1) := by decide +kernel
theorem dX6_hangs_20 : decode cX6_hangs 20 = .ok (.iconst 1, 1) := by decide +kernel
theorem dX6_hangs_21 : decode cX6_hangs 21 = .ok (.iand, 1) := by decide +kernel
theorem dX6_hangs_22 : decode cX6_hangs 22 = .ok (.ifCond .eq 6, 3) := by decide +kernel
theorem dX6_hangs_25 : decode cX6_hangs 25 = .ok (.bipush (-2), 2) := by decide +kernel
theorem dX6_hangs_27 : decode cX6_hangs 27 = .ok (.ireturn, 1) := by decide +kernel
theorem dX6_hangs_28 : decode cX6_hangs 28 = .ok (.aload_n 0, 1) := by decide +kernel
theorem dX6_hangs_29 : decode cX6_hangs 29 = .ok (.getfield 44, 3) := by decide +kernel
theorem dX6_hangs_32 : decode cX6_hangs 32 = .ok (.aload_n 0, 1) := by decide +kernel
theorem dX6_hangs_33 : decode cX6_hangs 33 = .ok (.getfield 26, 3) := by decide +kernel
theorem dX6_hangs_36 : decode cX6_hangs 36 = .ok (.aload_n 0, 1) := by decide +kernel
theorem dX6_hangs_37 : decode cX6_hangs 37 = .ok (.getfield 19, 3) := by decide +kernel
theorem dX6_hangs_40 : decode cX6_hangs 40 = .ok (.invokevirtual 163, 3) := by decide +kernel
theorem dX6_hangs_43 : decode cX6_hangs 43 = .ok (.iload_n 1, 1) := by decide +kernel
theorem dX6_hangs_44 : decode cX6_hangs 44 = .ok (.invokevirtual 228, 3) := by decide +kernel
theorem dX6_hangs_47 : decode cX6_hangs 47 = .ok (.ireturn, 1) := by decide +kernel
theorem dX6_most_0 : decode cX6_most 0 = .ok (.aload_n 0, 1) := by decide +kernel
theorem dX6_most_1 : decode cX6_most 1 = .ok (.getfield 19, 3) := by decide +kernel
theorem dX6_most_4 : decode cX6_most 4 = .ok (.invokevirtual 163, 3) := by decide +kernel
theorem dX6_most_7 : decode cX6_most 7 = .ok (.istore_n 1, 1) := by decide +kernel
theorem dX6_most_8 : decode cX6_most 8 = .ok (.iconst (-1), 1) := by decide +kernel
theorem dX6_most_9 : decode cX6_most 9 = .ok (.istore_n 2, 1) := by decide +kernel
theorem dX6_most_10 : decode cX6_most 10 = .ok (.iconst (-1), 1) := by decide +kernel
theorem dX6_most_11 : decode cX6_most 11 = .ok (.istore_n 3, 1) := by decide +kernel
theorem dX6_most_12 : decode cX6_most 12 = .ok (.iconst 0, 1) := by decide +kernel
theorem dX6_most_13 : decode cX6_most 13 = .ok (.istore 4, 2) := by decide +kernel
theorem dX6_most_15 : decode cX6_most 15 = .ok (.iload 4, 2) := by decide +kernel
theorem dX6_most_17 : decode cX6_most 17 = .ok (.aload_n 0, 1) := by decide +kernel
theorem dX6_most_18 : decode cX6_most 18 = .ok (.getfield 19, 3) := by decide +kernel
theorem dX6_most_21 : decode cX6_most 21 = .ok (.getfield 80, 3) := by decide +kernel
theorem dX6_most_24 : decode cX6_most 24 = .ok (.if_icmp .ge 46, 3) := by decide +kernel
theorem dX6_most_27 : decode cX6_most 27 = .ok (.iload_n 1, 1) := by decide +kernel
theorem dX6_most_28 : decode cX6_most 28 = .ok (.iload 4, 2) := by decide +kernel
theorem dX6_most_30 : decode cX6_most 30 = .ok (.ishr, 1) := by decide +kernel
theorem dX6_most_31 : decode cX6_most 31 = .ok (.iconst 1, 1) := by decide +kernel
theorem dX6_most_32 : decode cX6_most 32 = .ok (.iand, 1) := by decide +kernel
theorem dX6_most_33 : decode cX6_most 33 = .ok (.ifCond .eq 31, 3) := by decide +kernel
theorem dX6_most_36 : decode cX6_most 36 = .ok (.aload_n 0, 1) := by decide +kernel
theorem dX6_most_37 : decode cX6_most 37 = .ok (.getfield 44, 3) := by decide +kernel
theorem dX6_most_40 : decode cX6_most 40 = .ok (.aload_n 0, 1) := by decide +kernel
theorem dX6_most_41 : decode cX6_most 41 = .ok (.getfield 26, 3) := by decide +kernel
theorem dX6_most_44 : decode cX6_most 44 = .ok (.iload_n 1, 1) := by decide +kernel
theorem dX6_most_45 : decode cX6_most 45 = .ok (.iload 4, 2) := by decide +kernel
theorem dX6_most_47 : decode cX6_most 47 = .ok (.invokevirtual 228, 3) := by decide +kernel
theorem dX6_most_50 : decode cX6_most 50 = .ok (.istore 5, 2) := by decide +kernel
theorem dX6_most_52 : decode cX6_most 52 = .ok (.iload 5, 2) := by decide +kernel
theorem dX6_most_54 : decode cX6_most 54 = .ok (.iload_n 3, 1) := by decide +kernel
theorem dX6_most_55 : decode cX6_most 55 = .ok (.if_icmp .le 9, 3) := by decide +kernel
theorem dX6_most_58 : decode cX6_most 58 = .ok (.iload 4, 2) := by decide +kernel
theorem dX6_most_60 : decode cX6_most 60 = .ok (.istore_n 2, 1) := by decide +kernel
theorem dX6_most_61 : decode cX6_most 61 = .ok (.iload 5, 2) := by decide +kernel
theorem dX6_most_63 : decode cX6_most 63 = .ok (.istore_n 3, 1) := by decide +kernel
theorem dX6_most_64 : decode cX6_most 64 = .ok (.iinc 4 1, 3) := by decide +kernel
theorem dX6_most_67 : decode cX6_most 67 = .ok (.goto (-52), 3) := by decide +kernel
theorem dX6_most_70 : decode cX6_most 70 = .ok (.iload_n 2, 1) := by decide +kernel
theorem dX6_most_71 : decode cX6_most 71 = .ok (.ireturn, 1) := by decide +kernel
theorem dX6_brings_0 : decode cX6_brings 0 = .ok (.aload_n 0, 1) := by decide +kernel
theorem dX6_brings_1 : decode cX6_brings 1 = .ok (.getfield 19, 3) := by decide +kernel
theorem dX6_brings_4 : decode cX6_brings 4 = .ok (.iload_n 1, 1) := by decide +kernel
theorem dX6_brings_5 : decode cX6_brings 5 = .ok (.invokevirtual 108, 3) := by decide +kernel
theorem dX6_brings_8 : decode cX6_brings 8 = .ok (.ifCond .eq 29, 3) := by decide +kernel
theorem dX6_brings_11 : decode cX6_brings 11 = .ok (.aload_n 0, 1) := by decide +kernel
theorem dX6_brings_12 : decode cX6_brings 12 = .ok (.getfield 19, 3) := by decide +kernel
theorem dX6_brings_15 : decode cX6_brings 15 = .ok (.getfield 111, 3) := by decide +kernel
theorem dX6_brings_18 : decode cX6_brings 18 = .ok (.iload_n 1, 1) := by decide +kernel
theorem dX6_brings_19 : decode cX6_brings 19 = .ok (.iaload, 1) := by decide +kernel
theorem dX6_brings_20 : decode cX6_brings 20 = .ok (.ifCond .ne 17, 3) := by decide +kernel
theorem dX6_brings_23 : decode cX6_brings 23 = .ok (.aload_n 0, 1) := by decide +kernel
theorem dX6_brings_24 : decode cX6_brings 24 = .ok (.getfield 19, 3) := by decide +kernel
theorem dX6_brings_27 : decode cX6_brings 27 = .ok (.getfield 126, 3) := by decide +kernel
theorem dX6_brings_30 : decode cX6_brings 30 = .ok (.iload_n 1, 1) := by decide +kernel
theorem dX6_brings_31 : decode cX6_brings 31 = .ok (.ishr, 1) := by decide +kernel
theorem dX6_brings_32 : decode cX6_brings 32 = .ok (.iconst 1, 1) := by decide +kernel
theorem dX6_brings_33 : decode cX6_brings 33 = .ok (.iand, 1) := by decide +kernel
theorem dX6_brings_34 : decode cX6_brings 34 = .ok (.ifCond .eq 6, 3) := by decide +kernel
theorem dX6_brings_37 : decode cX6_brings 37 = .ok (.bipush (-2), 2) := by decide +kernel
theorem dX6_brings_39 : decode cX6_brings 39 = .ok (.ireturn, 1) := by decide +kernel
theorem dX6_brings_40 : decode cX6_brings 40 = .ok (.iload_n 2, 1) := by decide +kernel
theorem dX6_brings_41 : decode cX6_brings 41 = .ok (.ifCond .eq 11, 3) := by decide +kernel
theorem dX6_brings_44 : decode cX6_brings 44 = .ok (.iload_n 2, 1) := by decide +kernel
theorem dX6_brings_45 : decode cX6_brings 45 = .ok (.iconst 1, 1) := by decide +kernel
theorem dX6_brings_46 : decode cX6_brings 46 = .ok (.if_icmp .eq 6, 3) := by decide +kernel
theorem dX6_brings_49 : decode cX6_brings 49 = .ok (.bipush (-2), 2) := by decide +kernel
theorem dX6_brings_51 : decode cX6_brings 51 = .ok (.ireturn, 1) := by decide +kernel
theorem dX6_brings_52 : decode cX6_brings 52 = .ok (.iconst (-1), 1) := by decide +kernel
theorem dX6_brings_53 : decode cX6_brings 53 = .ok (.istore_n 3, 1) := by decide +kernel
theorem dX6_brings_54 : decode cX6_brings 54 = .ok (.iconst 0, 1) := by decide +kernel
theorem dX6_brings_55 : decode cX6_brings 55 = .ok (.istore 4, 2) := by decide +kernel
theorem dX6_brings_57 : decode cX6_brings 57 = .ok (.iload 4, 2) := by decide +kernel
theorem dX6_brings_59 : decode cX6_brings 59 = .ok (.aload_n 0, 1) := by decide +kernel
theorem dX6_brings_60 : decode cX6_brings 60 = .ok (.getfield 19, 3) := by decide +kernel
theorem dX6_brings_63 : decode cX6_brings 63 = .ok (.getfield 126, 3) := by decide +kernel
theorem dX6_brings_66 : decode cX6_brings 66 = .ok (.if_icmp .gt 72, 3) := by decide +kernel
theorem dX6_brings_69 : decode cX6_brings 69 = .ok (.iload 4, 2) := by decide +kernel
theorem dX6_brings_71 : decode cX6_brings 71 = .ok (.aload_n 0, 1) := by decide +kernel
theorem dX6_brings_72 : decode cX6_brings 72 = .ok (.getfield 19, 3) := by decide +kernel
theorem dX6_brings_75 : decode cX6_brings 75 = .ok (.getfield 126, 3) := by decide +kernel
theorem dX6_brings_78 : decode cX6_brings 78 = .ok (.iconst (-1), 1) := by decide +kernel
theorem dX6_brings_79 : decode cX6_brings 79 = .ok (.ixor, 1) := by decide +kernel
theorem dX6_brings_80 : decode cX6_brings 80 = .ok (.iand, 1) := by decide +kernel
theorem dX6_brings_81 : decode cX6_brings 81 = .ok (.ifCond .ne 51, 3) := by decide +kernel
theorem dX6_brings_84 : decode cX6_brings 84 = .ok (.iload 4, 2) := by decide +kernel
theorem dX6_brings_86 : decode cX6_brings 86 = .ok (.iload_n 3, 1) := by decide +kernel
theorem dX6_brings_87 : decode cX6_brings 87 = .ok (.invokestatic 232, 3) := by decide +kernel
theorem dX6_brings_90 : decode cX6_brings 90 = .ok (.ifCond .eq 42, 3) := by decide +kernel
theorem dX6_brings_93 : decode cX6_brings 93 = .ok (.aload_n 0, 1) := by decide +kernel
theorem dX6_brings_94 : decode cX6_brings 94 = .ok (.getfield 51, 3) := by decide +kernel
theorem dX6_brings_97 : decode cX6_brings 97 = .ok (.aload_n 0, 1) := by decide +kernel
theorem dX6_brings_98 : decode cX6_brings 98 = .ok (.getfield 26, 3) := by decide +kernel
theorem dX6_brings_101 : decode cX6_brings 101 = .ok (.aload_n 0, 1) := by decide +kernel
theorem dX6_brings_102 : decode cX6_brings 102 = .ok (.getfield 19, 3) := by decide +kernel
theorem dX6_brings_105 : decode cX6_brings 105 = .ok (.invokevirtual 163, 3) := by decide +kernel
theorem dX6_brings_108 : decode cX6_brings 108 = .ok (.iload 4, 2) := by decide +kernel
theorem dX6_brings_110 : decode cX6_brings 110 = .ok (.ior, 1) := by decide +kernel
theorem dX6_brings_111 : decode cX6_brings 111 = .ok (.invokevirtual 198, 3) := by decide +kernel
theorem dX6_brings_114 : decode cX6_brings 114 = .ok (.aload_n 0, 1) := by decide +kernel
theorem dX6_brings_115 : decode cX6_brings 115 = .ok (.getfield 51, 3) := by decide +kernel
theorem dX6_brings_118 : decode cX6_brings 118 = .ok (.invokevirtual 207, 3) := by decide +kernel
theorem dX6_brings_121 : decode cX6_brings 121 = .ok (.iload_n 1, 1) := by decide +kernel
theorem dX6_brings_122 : decode cX6_brings 122 = .ok (.ishr, 1) := by decide +kernel
theorem dX6_brings_123 : decode cX6_brings 123 = .ok (.iconst 1, 1) := by decide +kernel
theorem dX6_brings_124 : decode cX6_brings 124 = .ok (.iand, 1) := by decide +kernel
theorem dX6_brings_125 : decode cX6_brings 125 = .ok (.iload_n 2, 1) := by decide +kernel
theorem dX6_brings_126 : decode cX6_brings 126 = .ok (.if_icmp .ne 6, 3) := by decide +kernel
theorem dX6_brings_129 : decode cX6_brings 129 = .ok (.iload 4, 2) := by decide +kernel
theorem dX6_brings_131 : decode cX6_brings 131 = .ok (.istore_n 3, 1) := by decide +kernel
theorem dX6_brings_132 : decode cX6_brings 132 = .ok (.iinc 4 1, 3) := by decide +kernel
theorem dX6_brings_135 : decode cX6_brings 135 = .ok (.goto (-78), 3) := by decide +kernel
theorem dX6_brings_138 : decode cX6_brings 138 = .ok (.iload_n 3, 1) := by decide +kernel
theorem dX6_brings_139 : decode cX6_brings 139 = .ok (.ireturn, 1) := by decide +kernel
theorem dX6_part_0 : decode cX6_part 0 = .ok (.aload_n 0, 1) := by decide +kernel
theorem dX6_part_1 : decode cX6_part 1 = .ok (.getfield 26, 3) := by decide +kernel
theorem dX6_part_4 : decode cX6_part 4 = .ok (.aload_n 0, 1) := by decide +kernel
theorem dX6_part_5 : decode cX6_part 5 = .ok (.getfield 30, 3) := by decide +kernel
theorem dX6_part_8 : decode cX6_part 8 = .ok (.invokevirtual 236, 3) := by decide +kernel
theorem dX6_part_11 : decode cX6_part 11 = .ok (.ifCond .eq 5, 3) := by decide +kernel
theorem dX6_part_14 : decode cX6_part 14 = .ok (.iconst (-1), 1) := by decide +kernel
theorem dX6_part_15 : decode cX6_part 15 = .ok (.ireturn, 1) := by decide +kernel
theorem dX6_part_16 : decode cX6_part 16 = .ok (.aload_n 0, 1) := by decide +kernel
theorem dX6_part_17 : decode cX6_part 17 = .ok (.getfield 19, 3) := by decide +kernel
theorem dX6_part_20 : decode cX6_part 20 = .ok (.invokevirtual 163, 3) := by decide +kernel
theorem dX6_part_23 : decode cX6_part 23 = .ok (.istore_n 1, 1) := by decide +kernel
theorem dX6_part_24 : decode cX6_part 24 = .ok (.iconst (-1), 1) := by decide +kernel
theorem dX6_part_25 : decode cX6_part 25 = .ok (.istore_n 2, 1) := by decide +kernel
theorem dX6_part_26 : decode cX6_part 26 = .ok (.iconst 1, 1) := by decide +kernel
theorem dX6_part_27 : decode cX6_part 27 = .ok (.istore_n 3, 1) := by decide +kernel
theorem dX6_part_28 : decode cX6_part 28 = .ok (.iload_n 3, 1) := by decide +kernel
theorem dX6_part_29 : decode cX6_part 29 = .ok (.iload_n 1, 1) := by decide +kernel
theorem dX6_part_30 : decode cX6_part 30 = .ok (.if_icmp .gt 35, 3) := by decide +kernel
theorem dX6_part_33 : decode cX6_part 33 = .ok (.iload_n 3, 1) := by decide +kernel
theorem dX6_part_34 : decode cX6_part 34 = .ok (.iload_n 1, 1) := by decide +kernel
theorem dX6_part_35 : decode cX6_part 35 = .ok (.iconst (-1), 1) := by decide +kernel
theorem dX6_part_36 : decode cX6_part 36 = .ok (.ixor, 1) := by decide +kernel
theorem dX6_part_37 : decode cX6_part 37 = .ok (.iand, 1) := by decide +kernel
theorem dX6_part_38 : decode cX6_part 38 = .ok (.ifCond .ne 21, 3) := by decide +kernel
theorem dX6_part_41 : decode cX6_part 41 = .ok (.iload_n 3, 1) := by decide +kernel
theorem dX6_part_42 : decode cX6_part 42 = .ok (.iload_n 2, 1) := by decide +kernel
theorem dX6_part_43 : decode cX6_part 43 = .ok (.invokestatic 232, 3) := by decide +kernel
theorem dX6_part_46 : decode cX6_part 46 = .ok (.ifCond .eq 13, 3) := by decide +kernel
theorem dX6_part_49 : decode cX6_part 49 = .ok (.aload_n 0, 1) := by decide +kernel
theorem dX6_part_50 : decode cX6_part 50 = .ok (.iload_n 3, 1) := by decide +kernel
theorem dX6_part_51 : decode cX6_part 51 = .ok (.invokevirtual 240, 3) := by decide +kernel
theorem dX6_part_54 : decode cX6_part 54 = .ok (.ifCond .eq 5, 3) := by decide +kernel
theorem dX6_part_57 : decode cX6_part 57 = .ok (.iload_n 3, 1) := by decide +kernel
theorem dX6_part_58 : decode cX6_part 58 = .ok (.istore_n 2, 1) := by decide +kernel
theorem dX6_part_59 : decode cX6_part 59 = .ok (.iinc 3 1, 3) := by decide +kernel
theorem dX6_part_62 : decode cX6_part 62 = .ok (.goto (-34), 3) := by decide +kernel
theorem dX6_part_65 : decode cX6_part 65 = .ok (.iload_n 2, 1) := by decide +kernel
theorem dX6_part_66 : decode cX6_part 66 = .ok (.ireturn, 1) := by decide +kernel
theorem dX6_isFewer_0 : decode cX6_isFewer 0 = .ok (.iload_n 1, 1) := by decide +kernel
theorem dX6_isFewer_1 : decode cX6_isFewer 1 = .ok (.iconst (-1), 1) := by decide +kernel
theorem dX6_isFewer_2 : decode cX6_isFewer 2 = .ok (.if_icmp .eq 14, 3) := by decide +kernel
theorem dX6_isFewer_5 : decode cX6_isFewer 5 = .ok (.iload_n 0, 1) := by decide +kernel
theorem dX6_isFewer_6 : decode cX6_isFewer 6 = .ok (.invokestatic 186, 3) := by decide +kernel
theorem dX6_isFewer_9 : decode cX6_isFewer 9 = .ok (.iload_n 1, 1) := by decide +kernel
theorem dX6_isFewer_10 : decode cX6_isFewer 10 = .ok (.invokestatic 186, 3) := by decide +kernel
theorem dX6_isFewer_13 : decode cX6_isFewer 13 = .ok (.if_icmp .ge 7, 3) := by decide +kernel
theorem dX6_isFewer_16 : decode cX6_isFewer 16 = .ok (.iconst 1, 1) := by decide +kernel
theorem dX6_isFewer_17 : decode cX6_isFewer 17 = .ok (.goto 4, 3) := by decide +kernel
theorem dX6_isFewer_20 : decode cX6_isFewer 20 = .ok (.iconst 0, 1) := by decide +kernel
theorem dX6_isFewer_21 : decode cX6_isFewer 21 = .ok (.ireturn, 1) := by decide +kernel
theorem dX6_isHeardUnlike_0 : decode cX6_isHeardUnlike 0 = .ok (.aload_n 0, 1) := by decide +kernel
theorem dX6_isHeardUnlike_1 : decode cX6_isHeardUnlike 1 = .ok (.getfield 44, 3) := by decide +kernel
theorem dX6_isHeardUnlike_4 : decode cX6_isHeardUnlike 4 = .ok (.aload_n 0, 1) := by decide +kernel
theorem dX6_isHeardUnlike_5 : decode cX6_isHeardUnlike 5 = .ok (.getfield 26, 3) := by decide +kernel
theorem dX6_isHeardUnlike_8 : decode cX6_isHeardUnlike 8 = .ok (.iload_n 1, 1) := by decide +kernel
theorem dX6_isHeardUnlike_9 : decode cX6_isHeardUnlike 9 = .ok (.invokevirtual 166, 3) := by decide +kernel
theorem dX6_isHeardUnlike_12 : decode cX6_isHeardUnlike 12 = .ok (.aload_n 0, 1) := by decide +kernel
theorem dX6_isHeardUnlike_13 : decode cX6_isHeardUnlike 13 = .ok (.getfield 44, 3) := by decide +kernel
theorem dX6_isHeardUnlike_16 : decode cX6_isHeardUnlike 16 = .ok (.getfield 243, 3) := by decide +kernel
theorem dX6_isHeardUnlike_19 : decode cX6_isHeardUnlike 19 = .ok (.istore_n 2, 1) := by decide +kernel
theorem dX6_isHeardUnlike_20 : decode cX6_isHeardUnlike 20 = .ok (.aload_n 0, 1) := by decide +kernel
theorem dX6_isHeardUnlike_21 : decode cX6_isHeardUnlike 21 = .ok (.getfield 44, 3) := by decide +kernel
theorem dX6_isHeardUnlike_24 : decode cX6_isHeardUnlike 24 = .ok (.aload_n 0, 1) := by decide +kernel
theorem dX6_isHeardUnlike_25 : decode cX6_isHeardUnlike 25 = .ok (.getfield 30, 3) := by decide +kernel
theorem dX6_isHeardUnlike_28 : decode cX6_isHeardUnlike 28 = .ok (.iload_n 1, 1) := by decide +kernel
theorem dX6_isHeardUnlike_29 : decode cX6_isHeardUnlike 29 = .ok (.invokevirtual 166, 3) := by decide +kernel
theorem dX6_isHeardUnlike_32 : decode cX6_isHeardUnlike 32 = .ok (.iload_n 2, 1) := by decide +kernel
theorem dX6_isHeardUnlike_33 : decode cX6_isHeardUnlike 33 = .ok (.aload_n 0, 1) := by decide +kernel
theorem dX6_isHeardUnlike_34 : decode cX6_isHeardUnlike 34 = .ok (.getfield 44, 3) := by decide +kernel
theorem dX6_isHeardUnlike_37 : decode cX6_isHeardUnlike 37 = .ok (.getfield 243, 3) := by decide +kernel
theorem dX6_isHeardUnlike_40 : decode cX6_isHeardUnlike 40 = .ok (.if_icmp .eq 7, 3) := by decide +kernel
theorem dX6_isHeardUnlike_43 : decode cX6_isHeardUnlike 43 = .ok (.iconst 1, 1) := by decide +kernel
theorem dX6_isHeardUnlike_44 : decode cX6_isHeardUnlike 44 = .ok (.goto 4, 3) := by decide +kernel
theorem dX6_isHeardUnlike_47 : decode cX6_isHeardUnlike 47 = .ok (.iconst 0, 1) := by decide +kernel
theorem dX6_isHeardUnlike_48 : decode cX6_isHeardUnlike 48 = .ok (.ireturn, 1) := by decide +kernel
theorem dX6_sheet_0 : decode cX6_sheet 0 = .ok (.aload_n 0, 1) := by decide +kernel
theorem dX6_sheet_1 : decode cX6_sheet 1 = .ok (.iload_n 1, 1) := by decide +kernel
theorem dX6_sheet_2 : decode cX6_sheet 2 = .ok (.invokevirtual 87, 3) := by decide +kernel
theorem dX6_sheet_5 : decode cX6_sheet 5 = .ok (.astore 4, 2) := by decide +kernel
theorem dX6_sheet_7 : decode cX6_sheet 7 = .ok (.aload 4, 2) := by decide +kernel
theorem dX6_sheet_9 : decode cX6_sheet 9 = .ok (.ifnull 16, 3) := by decide +kernel
theorem dX6_sheet_12 : decode cX6_sheet 12 = .ok (.iload_n 2, 1) := by decide +kernel
theorem dX6_sheet_13 : decode cX6_sheet 13 = .ok (.invokestatic 246, 3) := by decide +kernel
theorem dX6_sheet_16 : decode cX6_sheet 16 = .ok (.ifCond .eq 9, 3) := by decide +kernel
theorem dX6_sheet_19 : decode cX6_sheet 19 = .ok (.iload_n 3, 1) := by decide +kernel
theorem dX6_sheet_20 : decode cX6_sheet 20 = .ok (.bipush 40, 2) := by decide +kernel
theorem dX6_sheet_22 : decode cX6_sheet 22 = .ok (.if_icmp .le 6, 3) := by decide +kernel
theorem dX6_sheet_25 : decode cX6_sheet 25 = .ok (.bipush (-2), 2) := by decide +kernel
theorem dX6_sheet_27 : decode cX6_sheet 27 = .ok (.ireturn, 1) := by decide +kernel
theorem dX6_sheet_28 : decode cX6_sheet 28 = .ok (.iload_n 3, 1) := by decide +kernel
theorem dX6_sheet_29 : decode cX6_sheet 29 = .ok (.ifCond .ge 9, 3) := by decide +kernel
theorem dX6_sheet_32 : decode cX6_sheet 32 = .ok (.aload_n 0, 1) := by decide +kernel
theorem dX6_sheet_33 : decode cX6_sheet 33 = .ok (.iconst 5, 1) := by decide +kernel
theorem dX6_sheet_34 : decode cX6_sheet 34 = .ok (.invokevirtual 95, 3) := by decide +kernel
theorem dX6_sheet_37 : decode cX6_sheet 37 = .ok (.ireturn, 1) := by decide +kernel
theorem dX6_sheet_38 : decode cX6_sheet 38 = .ok (.aload 4, 2) := by decide +kernel
theorem dX6_sheet_40 : decode cX6_sheet 40 = .ok (.iload_n 2, 1) := by decide +kernel
theorem dX6_sheet_41 : decode cX6_sheet 41 = .ok (.iload_n 3, 1) := by decide +kernel
theorem dX6_sheet_42 : decode cX6_sheet 42 = .ok (.invokevirtual 249, 3) := by decide +kernel
theorem dX6_sheet_45 : decode cX6_sheet 45 = .ok (.iload_n 3, 1) := by decide +kernel
theorem dX6_sheet_46 : decode cX6_sheet 46 = .ok (.ireturn, 1) := by decide +kernel
theorem dX6_lose_0 : decode cX6_lose 0 = .ok (.aload_n 0, 1) := by decide +kernel
theorem dX6_lose_1 : decode cX6_lose 1 = .ok (.iload_n 1, 1) := by decide +kernel
theorem dX6_lose_2 : decode cX6_lose 2 = .ok (.invokevirtual 87, 3) := by decide +kernel
theorem dX6_lose_5 : decode cX6_lose 5 = .ok (.astore_n 2, 1) := by decide +kernel
theorem dX6_lose_6 : decode cX6_lose 6 = .ok (.aload_n 2, 1) := by decide +kernel
theorem dX6_lose_7 : decode cX6_lose 7 = .ok (.ifnonnull 6, 3) := by decide +kernel
theorem dX6_lose_10 : decode cX6_lose 10 = .ok (.bipush (-2), 2) := by decide +kernel
theorem dX6_lose_12 : decode cX6_lose 12 = .ok (.ireturn, 1) := by decide +kernel
theorem dX6_lose_13 : decode cX6_lose 13 = .ok (.aload_n 2, 1) := by decide +kernel
theorem dX6_lose_14 : decode cX6_lose 14 = .ok (.getfield 91, 3) := by decide +kernel
theorem dX6_lose_17 : decode cX6_lose 17 = .ok (.ifCond .eq 9, 3) := by decide +kernel
theorem dX6_lose_20 : decode cX6_lose 20 = .ok (.aload_n 0, 1) := by decide +kernel
theorem dX6_lose_21 : decode cX6_lose 21 = .ok (.iconst 1, 1) := by decide +kernel
theorem dX6_lose_22 : decode cX6_lose 22 = .ok (.invokevirtual 95, 3) := by decide +kernel
theorem dX6_lose_25 : decode cX6_lose 25 = .ok (.ireturn, 1) := by decide +kernel
theorem dX6_lose_26 : decode cX6_lose 26 = .ok (.aload_n 2, 1) := by decide +kernel
theorem dX6_lose_27 : decode cX6_lose 27 = .ok (.iconst 1, 1) := by decide +kernel
theorem dX6_lose_28 : decode cX6_lose 28 = .ok (.putfield 91, 3) := by decide +kernel
theorem dX6_lose_31 : decode cX6_lose 31 = .ok (.aload_n 2, 1) := by decide +kernel
theorem dX6_lose_32 : decode cX6_lose 32 = .ok (.getfield 99, 3) := by decide +kernel
theorem dX6_lose_35 : decode cX6_lose 35 = .ok (.ireturn, 1) := by decide +kernel
theorem dX6_put_0 : decode cX6_put 0 = .ok (.aload_n 0, 1) := by decide +kernel
theorem dX6_put_1 : decode cX6_put 1 = .ok (.iload_n 1, 1) := by decide +kernel
theorem dX6_put_2 : decode cX6_put 2 = .ok (.invokevirtual 87, 3) := by decide +kernel
theorem dX6_put_5 : decode cX6_put 5 = .ok (.astore 5, 2) := by decide +kernel
theorem dX6_put_7 : decode cX6_put 7 = .ok (.aload 5, 2) := by decide +kernel
theorem dX6_put_9 : decode cX6_put 9 = .ok (.ifnull 10, 3) := by decide +kernel
theorem dX6_put_12 : decode cX6_put 12 = .ok (.iload_n 2, 1) := by decide +kernel
theorem dX6_put_13 : decode cX6_put 13 = .ok (.invokestatic 246, 3) := by decide +kernel
theorem dX6_put_16 : decode cX6_put 16 = .ok (.ifCond .ne 6, 3) := by decide +kernel
theorem dX6_put_19 : decode cX6_put 19 = .ok (.bipush (-2), 2) := by decide +kernel
theorem dX6_put_21 : decode cX6_put 21 = .ok (.ireturn, 1) := by decide +kernel
theorem dX6_put_22 : decode cX6_put 22 = .ok (.aload 5, 2) := by decide +kernel
theorem dX6_put_24 : decode cX6_put 24 = .ok (.iload_n 2, 1) := by decide +kernel
theorem dX6_put_25 : decode cX6_put 25 = .ok (.iload_n 3, 1) := by decide +kernel
theorem dX6_put_26 : decode cX6_put 26 = .ok (.invokevirtual 253, 3) := by decide +kernel
theorem dX6_put_29 : decode cX6_put 29 = .ok (.istore 6, 2) := by decide +kernel
theorem dX6_put_31 : decode cX6_put 31 = .ok (.iload 6, 2) := by decide +kernel
theorem dX6_put_33 : decode cX6_put 33 = .ok (.ifCond .eq 10, 3) := by decide +kernel
theorem dX6_put_36 : decode cX6_put 36 = .ok (.aload_n 0, 1) := by decide +kernel
theorem dX6_put_37 : decode cX6_put 37 = .ok (.iload 6, 2) := by decide +kernel
theorem dX6_put_39 : decode cX6_put 39 = .ok (.invokevirtual 95, 3) := by decide +kernel
theorem dX6_put_42 : decode cX6_put 42 = .ok (.ireturn, 1) := by decide +kernel
theorem dX6_put_43 : decode cX6_put 43 = .ok (.aload 5, 2) := by decide +kernel
theorem dX6_put_45 : decode cX6_put 45 = .ok (.iload_n 3, 1) := by decide +kernel
theorem dX6_put_46 : decode cX6_put 46 = .ok (.iload 4, 2) := by decide +kernel
theorem dX6_put_48 : decode cX6_put 48 = .ok (.invokevirtual 256, 3) := by decide +kernel
theorem dX6_put_51 : decode cX6_put 51 = .ok (.iconst 1, 1) := by decide +kernel
theorem dX6_put_52 : decode cX6_put 52 = .ok (.ireturn, 1) := by decide +kernel
theorem dX6_get_0 : decode cX6_get 0 = .ok (.aload_n 0, 1) := by decide +kernel
theorem dX6_get_1 : decode cX6_get 1 = .ok (.iload_n 1, 1) := by decide +kernel
theorem dX6_get_2 : decode cX6_get 2 = .ok (.invokevirtual 87, 3) := by decide +kernel
theorem dX6_get_5 : decode cX6_get 5 = .ok (.astore 4, 2) := by decide +kernel
theorem dX6_get_7 : decode cX6_get 7 = .ok (.aload 4, 2) := by decide +kernel
theorem dX6_get_9 : decode cX6_get 9 = .ok (.ifnull 10, 3) := by decide +kernel
theorem dX6_get_12 : decode cX6_get 12 = .ok (.iload_n 2, 1) := by decide +kernel
theorem dX6_get_13 : decode cX6_get 13 = .ok (.invokestatic 246, 3) := by decide +kernel
theorem dX6_get_16 : decode cX6_get 16 = .ok (.ifCond .ne 7, 3) := by decide +kernel
theorem dX6_get_19 : decode cX6_get 19 = .ok (.ldc_w 259, 3) := by decide +kernel
theorem dX6_get_22 : decode cX6_get 22 = .ok (.ireturn, 1) := by decide +kernel
theorem dX6_get_23 : decode cX6_get 23 = .ok (.aload 4, 2) := by decide +kernel
theorem dX6_get_25 : decode cX6_get 25 = .ok (.iload_n 2, 1) := by decide +kernel
theorem dX6_get_26 : decode cX6_get 26 = .ok (.iload_n 3, 1) := by decide +kernel
theorem dX6_get_27 : decode cX6_get 27 = .ok (.invokevirtual 253, 3) := by decide +kernel
theorem dX6_get_30 : decode cX6_get 30 = .ok (.istore 5, 2) := by decide +kernel
theorem dX6_get_32 : decode cX6_get 32 = .ok (.iload 5, 2) := by decide +kernel
theorem dX6_get_34 : decode cX6_get 34 = .ok (.ifCond .eq 14, 3) := by decide +kernel
theorem dX6_get_37 : decode cX6_get 37 = .ok (.aload_n 0, 1) := by decide +kernel
theorem dX6_get_38 : decode cX6_get 38 = .ok (.iload 5, 2) := by decide +kernel
theorem dX6_get_40 : decode cX6_get 40 = .ok (.invokevirtual 95, 3) := by decide +kernel
theorem dX6_get_43 : decode cX6_get 43 = .ok (.pop, 1) := by decide +kernel
theorem dX6_get_44 : decode cX6_get 44 = .ok (.ldc_w 259, 3) := by decide +kernel
theorem dX6_get_47 : decode cX6_get 47 = .ok (.ireturn, 1) := by decide +kernel
theorem dX6_get_48 : decode cX6_get 48 = .ok (.aload 4, 2) := by decide +kernel
theorem dX6_get_50 : decode cX6_get 50 = .ok (.getfield 100, 3) := by decide +kernel
theorem dX6_get_53 : decode cX6_get 53 = .ok (.iload_n 3, 1) := by decide +kernel
theorem dX6_get_54 : decode cX6_get 54 = .ok (.iaload, 1) := by decide +kernel
theorem dX6_get_55 : decode cX6_get 55 = .ok (.ireturn, 1) := by decide +kernel
theorem dX6_copy_0 : decode cX6_copy 0 = .ok (.aload_n 0, 1) := by decide +kernel
theorem dX6_copy_1 : decode cX6_copy 1 = .ok (.iload_n 1, 1) := by decide +kernel
theorem dX6_copy_2 : decode cX6_copy 2 = .ok (.invokevirtual 87, 3) := by decide +kernel
theorem dX6_copy_5 : decode cX6_copy 5 = .ok (.astore 6, 2) := by decide +kernel
theorem dX6_copy_7 : decode cX6_copy 7 = .ok (.aload_n 0, 1) := by decide +kernel
theorem dX6_copy_8 : decode cX6_copy 8 = .ok (.iload_n 3, 1) := by decide +kernel
theorem dX6_copy_9 : decode cX6_copy 9 = .ok (.invokevirtual 87, 3) := by decide +kernel
theorem dX6_copy_12 : decode cX6_copy 12 = .ok (.astore 7, 2) := by decide +kernel
theorem dX6_copy_14 : decode cX6_copy 14 = .ok (.aload 6, 2) := by decide +kernel
theorem dX6_copy_16 : decode cX6_copy 16 = .ok (.ifnull 8, 3) := by decide +kernel
theorem dX6_copy_19 : decode cX6_copy 19 = .ok (.aload 7, 2) := by decide +kernel
theorem dX6_copy_21 : decode cX6_copy 21 = .ok (.ifnonnull 6, 3) := by decide +kernel
theorem dX6_copy_24 : decode cX6_copy 24 = .ok (.bipush (-2), 2) := by decide +kernel
theorem dX6_copy_26 : decode cX6_copy 26 = .ok (.ireturn, 1) := by decide +kernel
theorem dX6_copy_27 : decode cX6_copy 27 = .ok (.aload 6, 2) := by decide +kernel
theorem dX6_copy_29 : decode cX6_copy 29 = .ok (.getfield 91, 3) := by decide +kernel
theorem dX6_copy_32 : decode cX6_copy 32 = .ok (.ifCond .ne 11, 3) := by decide +kernel
theorem dX6_copy_35 : decode cX6_copy 35 = .ok (.aload 7, 2) := by decide +kernel
theorem dX6_copy_37 : decode cX6_copy 37 = .ok (.getfield 91, 3) := by decide +kernel
theorem dX6_copy_40 : decode cX6_copy 40 = .ok (.ifCond .eq 9, 3) := by decide +kernel
theorem dX6_copy_43 : decode cX6_copy 43 = .ok (.aload_n 0, 1) := by decide +kernel
theorem dX6_copy_44 : decode cX6_copy 44 = .ok (.iconst 1, 1) := by decide +kernel
theorem dX6_copy_45 : decode cX6_copy 45 = .ok (.invokevirtual 95, 3) := by decide +kernel
theorem dX6_copy_48 : decode cX6_copy 48 = .ok (.ireturn, 1) := by decide +kernel
theorem dX6_copy_49 : decode cX6_copy 49 = .ok (.aload 6, 2) := by decide +kernel
theorem dX6_copy_51 : decode cX6_copy 51 = .ok (.getfield 260, 3) := by decide +kernel
theorem dX6_copy_54 : decode cX6_copy 54 = .ok (.aload 7, 2) := by decide +kernel
theorem dX6_copy_56 : decode cX6_copy 56 = .ok (.getfield 260, 3) := by decide +kernel
theorem dX6_copy_59 : decode cX6_copy 59 = .ok (.if_icmp .eq 9, 3) := by decide +kernel
theorem dX6_copy_62 : decode cX6_copy 62 = .ok (.aload_n 0, 1) := by decide +kernel
theorem dX6_copy_63 : decode cX6_copy 63 = .ok (.iconst 4, 1) := by decide +kernel
theorem dX6_copy_64 : decode cX6_copy 64 = .ok (.invokevirtual 95, 3) := by decide +kernel
theorem dX6_copy_67 : decode cX6_copy 67 = .ok (.ireturn, 1) := by decide +kernel
theorem dX6_copy_68 : decode cX6_copy 68 = .ok (.aload 6, 2) := by decide +kernel
theorem dX6_copy_70 : decode cX6_copy 70 = .ok (.iload_n 2, 1) := by decide +kernel
theorem dX6_copy_71 : decode cX6_copy 71 = .ok (.iload 5, 2) := by decide +kernel
theorem dX6_copy_73 : decode cX6_copy 73 = .ok (.invokevirtual 263, 3) := by decide +kernel
theorem dX6_copy_76 : decode cX6_copy 76 = .ok (.ifCond .eq 15, 3) := by decide +kernel
theorem dX6_copy_79 : decode cX6_copy 79 = .ok (.aload 7, 2) := by decide +kernel
theorem dX6_copy_81 : decode cX6_copy 81 = .ok (.iload 4, 2) := by decide +kernel
theorem dX6_copy_83 : decode cX6_copy 83 = .ok (.iload 5, 2) := by decide +kernel
theorem dX6_copy_85 : decode cX6_copy 85 = .ok (.invokevirtual 263, 3) := by decide +kernel
theorem dX6_copy_88 : decode cX6_copy 88 = .ok (.ifCond .ne 9, 3) := by decide +kernel
theorem dX6_copy_91 : decode cX6_copy 91 = .ok (.aload_n 0, 1) := by decide +kernel
theorem dX6_copy_92 : decode cX6_copy 92 = .ok (.iconst 2, 1) := by decide +kernel
theorem dX6_copy_93 : decode cX6_copy 93 = .ok (.invokevirtual 95, 3) := by decide +kernel
theorem dX6_copy_96 : decode cX6_copy 96 = .ok (.ireturn, 1) := by decide +kernel
theorem dX6_copy_97 : decode cX6_copy 97 = .ok (.aload 6, 2) := by decide +kernel
theorem dX6_copy_99 : decode cX6_copy 99 = .ok (.getfield 100, 3) := by decide +kernel
theorem dX6_copy_102 : decode cX6_copy 102 = .ok (.iload_n 2, 1) := by decide +kernel
theorem dX6_copy_103 : decode cX6_copy 103 = .ok (.aload 7, 2) := by decide +kernel
theorem dX6_copy_105 : decode cX6_copy 105 = .ok (.getfield 100, 3) := by decide +kernel
theorem dX6_copy_108 : decode cX6_copy 108 = .ok (.iload 4, 2) := by decide +kernel
theorem dX6_copy_110 : decode cX6_copy 110 = .ok (.iload 5, 2) := by decide +kernel
theorem dX6_copy_112 : decode cX6_copy 112 = .ok (.invokestatic 266, 3) := by decide +kernel
theorem dX6_copy_115 : decode cX6_copy 115 = .ok (.iconst 1, 1) := by decide +kernel
theorem dX6_copy_116 : decode cX6_copy 116 = .ok (.ireturn, 1) := by decide +kernel
theorem dX6_write_0 : decode cX6_write 0 = .ok (.aload_n 0, 1) := by decide +kernel
theorem dX6_write_1 : decode cX6_write 1 = .ok (.iload_n 1, 1) := by decide +kernel
theorem dX6_write_2 : decode cX6_write 2 = .ok (.invokevirtual 87, 3) := by decide +kernel
theorem dX6_write_5 : decode cX6_write 5 = .ok (.astore_n 2, 1) := by decide +kernel
theorem dX6_write_6 : decode cX6_write 6 = .ok (.aload_n 2, 1) := by decide +kernel
theorem dX6_write_7 : decode cX6_write 7 = .ok (.ifnonnull 6, 3) := by decide +kernel
theorem dX6_write_10 : decode cX6_write 10 = .ok (.bipush (-2), 2) := by decide +kernel
theorem dX6_write_12 : decode cX6_write 12 = .ok (.ireturn, 1) := by decide +kernel
theorem dX6_write_13 : decode cX6_write 13 = .ok (.aload_n 2, 1) := by decide +kernel
theorem dX6_write_14 : decode cX6_write 14 = .ok (.getfield 91, 3) := by decide +kernel
theorem dX6_write_17 : decode cX6_write 17 = .ok (.ifCond .eq 9, 3) := by decide +kernel
theorem dX6_write_20 : decode cX6_write 20 = .ok (.aload_n 0, 1) := by decide +kernel
theorem dX6_write_21 : decode cX6_write 21 = .ok (.iconst 1, 1) := by decide +kernel
theorem dX6_write_22 : decode cX6_write 22 = .ok (.invokevirtual 95, 3) := by decide +kernel
theorem dX6_write_25 : decode cX6_write 25 = .ok (.ireturn, 1) := by decide +kernel
theorem dX6_write_26 : decode cX6_write 26 = .ok (.aload_n 0, 1) := by decide +kernel
theorem dX6_write_27 : decode cX6_write 27 = .ok (.getfield 44, 3) := by decide +kernel
theorem dX6_write_30 : decode cX6_write 30 = .ok (.aload_n 0, 1) := by decide +kernel
theorem dX6_write_31 : decode cX6_write 31 = .ok (.getfield 26, 3) := by decide +kernel
theorem dX6_write_34 : decode cX6_write 34 = .ok (.aload_n 0, 1) := by decide +kernel
theorem dX6_write_35 : decode cX6_write 35 = .ok (.getfield 19, 3) := by decide +kernel
theorem dX6_write_38 : decode cX6_write 38 = .ok (.invokevirtual 163, 3) := by decide +kernel
theorem dX6_write_41 : decode cX6_write 41 = .ok (.invokevirtual 166, 3) := by decide +kernel
theorem dX6_write_44 : decode cX6_write 44 = .ok (.aload_n 2, 1) := by decide +kernel
theorem dX6_write_45 : decode cX6_write 45 = .ok (.getfield 99, 3) := by decide +kernel
theorem dX6_write_48 : decode cX6_write 48 = .ok (.bipush 10, 2) := by decide +kernel
theorem dX6_write_50 : decode cX6_write 50 = .ok (.invokestatic 272, 3) := by decide +kernel
theorem dX6_write_53 : decode cX6_write 53 = .ok (.istore_n 3, 1) := by decide +kernel
theorem dX6_write_54 : decode cX6_write 54 = .ok (.iconst 0, 1) := by decide +kernel
theorem dX6_write_55 : decode cX6_write 55 = .ok (.istore 4, 2) := by decide +kernel
theorem dX6_write_57 : decode cX6_write 57 = .ok (.iload 4, 2) := by decide +kernel
theorem dX6_write_59 : decode cX6_write 59 = .ok (.iload_n 3, 1) := by decide +kernel
theorem dX6_write_60 : decode cX6_write 60 = .ok (.if_icmp .ge 24, 3) := by decide +kernel
theorem dX6_write_63 : decode cX6_write 63 = .ok (.aload_n 2, 1) := by decide +kernel
theorem dX6_write_64 : decode cX6_write 64 = .ok (.iload 4, 2) := by decide +kernel
theorem dX6_write_66 : decode cX6_write 66 = .ok (.aload_n 0, 1) := by decide +kernel
theorem dX6_write_67 : decode cX6_write 67 = .ok (.getfield 44, 3) := by decide +kernel
theorem dX6_write_70 : decode cX6_write 70 = .ok (.iload 4, 2) := by decide +kernel
theorem dX6_write_72 : decode cX6_write 72 = .ok (.invokevirtual 183, 3) := by decide +kernel
theorem dX6_write_75 : decode cX6_write 75 = .ok (.invokevirtual 256, 3) := by decide +kernel
theorem dX6_write_78 : decode cX6_write 78 = .ok (.iinc 4 1, 3) := by decide +kernel
theorem dX6_write_81 : decode cX6_write 81 = .ok (.goto (-24), 3) := by decide +kernel
theorem dX6_write_84 : decode cX6_write 84 = .ok (.iload_n 3, 1) := by decide +kernel
theorem dX6_write_85 : decode cX6_write 85 = .ok (.ireturn, 1) := by decide +kernel
end
section
theorem dX6_count_0 : decode cX6_count 0 = .ok (.iload_n 1, 1) := by decide +kernel
theorem dX6_count_1 : decode cX6_count 1 = .ok (.tableswitch 104 0 8 #[51, 59, 67, 75, 83, 91, 104, 104, 99], 51) := by decide +kernel
theorem dX6_count_52 : decode cX6_count 52 = .ok (.aload_n 0, 1) := by decide +kernel
theorem dX6_count_53 : decode cX6_count 53 = .ok (.getfield 19, 3) := by decide +kernel
theorem dX6_count_56 : decode cX6_count 56 = .ok (.getfield 80, 3) := by decide +kernel
theorem dX6_count_59 : decode cX6_count 59 = .ok (.ireturn, 1) := by decide +kernel
theorem dX6_count_60 : decode cX6_count 60 = .ok (.aload_n 0, 1) := by decide +kernel
theorem dX6_count_61 : decode cX6_count 61 = .ok (.getfield 19, 3) := by decide +kernel
theorem dX6_count_64 : decode cX6_count 64 = .ok (.getfield 126, 3) := by decide +kernel
theorem dX6_count_67 : decode cX6_count 67 = .ok (.ireturn, 1) := by decide +kernel
theorem dX6_count_68 : decode cX6_count 68 = .ok (.aload_n 0, 1) := by decide +kernel
theorem dX6_count_69 : decode cX6_count 69 = .ok (.getfield 26, 3) := by decide +kernel
theorem dX6_count_72 : decode cX6_count 72 = .ok (.getfield 140, 3) := by decide +kernel
theorem dX6_count_75 : decode cX6_count 75 = .ok (.ireturn, 1) := by decide +kernel
theorem dX6_count_76 : decode cX6_count 76 = .ok (.aload_n 0, 1) := by decide +kernel
theorem dX6_count_77 : decode cX6_count 77 = .ok (.getfield 30, 3) := by decide +kernel
theorem dX6_count_80 : decode cX6_count 80 = .ok (.getfield 140, 3) := by decide +kernel
theorem dX6_count_83 : decode cX6_count 83 = .ok (.ireturn, 1) := by decide +kernel
theorem dX6_count_84 : decode cX6_count 84 = .ok (.aload_n 0, 1) := by decide +kernel
theorem dX6_count_85 : decode cX6_count 85 = .ok (.getfield 10, 3) := by decide +kernel
theorem dX6_count_88 : decode cX6_count 88 = .ok (.invokevirtual 277, 3) := by decide +kernel
theorem dX6_count_91 : decode cX6_count 91 = .ok (.ireturn, 1) := by decide +kernel
theorem dX6_count_92 : decode cX6_count 92 = .ok (.aload_n 0, 1) := by decide +kernel
theorem dX6_count_93 : decode cX6_count 93 = .ok (.getfield 19, 3) := by decide +kernel
theorem dX6_count_96 : decode cX6_count 96 = .ok (.getfield 129, 3) := by decide +kernel
theorem dX6_count_99 : decode cX6_count 99 = .ok (.ireturn, 1) := by decide +kernel
theorem dX6_count_100 : decode cX6_count 100 = .ok (.aload_n 0, 1) := by decide +kernel
theorem dX6_count_101 : decode cX6_count 101 = .ok (.getfield 55, 3) := by decide +kernel
theorem dX6_count_104 : decode cX6_count 104 = .ok (.ireturn, 1) := by decide +kernel
theorem dX6_count_105 : decode cX6_count 105 = .ok (.bipush (-2), 2) := by decide +kernel
theorem dX6_count_107 : decode cX6_count 107 = .ok (.ireturn, 1) := by decide +kernel
theorem dX6_digest_0 : decode cX6_digest 0 = .ok (.ldc2_w 280, 3) := by decide +kernel
theorem dX6_digest_3 : decode cX6_digest 3 = .ok (.lstore_n 1, 1) := by decide +kernel
theorem dX6_digest_4 : decode cX6_digest 4 = .ok (.iconst 0, 1) := by decide +kernel
theorem dX6_digest_5 : decode cX6_digest 5 = .ok (.istore_n 3, 1) := by decide +kernel
theorem dX6_digest_6 : decode cX6_digest 6 = .ok (.iload_n 3, 1) := by decide +kernel
theorem dX6_digest_7 : decode cX6_digest 7 = .ok (.iconst 5, 1) := by decide +kernel
theorem dX6_digest_8 : decode cX6_digest 8 = .ok (.if_icmp .gt 22, 3) := by decide +kernel
theorem dX6_digest_11 : decode cX6_digest 11 = .ok (.ldc2_w 282, 3) := by decide +kernel
theorem dX6_digest_14 : decode cX6_digest 14 = .ok (.lload_n 1, 1) := by decide +kernel
theorem dX6_digest_15 : decode cX6_digest 15 = .ok (.lmul, 1) := by decide +kernel
theorem dX6_digest_16 : decode cX6_digest 16 = .ok (.aload_n 0, 1) := by decide +kernel
theorem dX6_digest_17 : decode cX6_digest 17 = .ok (.iload_n 3, 1) := by decide +kernel
theorem dX6_digest_18 : decode cX6_digest 18 = .ok (.invokevirtual 284, 3) := by decide +kernel
theorem dX6_digest_21 : decode cX6_digest 21 = .ok (.i2l, 1) := by decide +kernel
theorem dX6_digest_22 : decode cX6_digest 22 = .ok (.ladd, 1) := by decide +kernel
theorem dX6_digest_23 : decode cX6_digest 23 = .ok (.lstore_n 1, 1) := by decide +kernel
theorem dX6_digest_24 : decode cX6_digest 24 = .ok (.iinc 3 1, 3) := by decide +kernel
theorem dX6_digest_27 : decode cX6_digest 27 = .ok (.goto (-21), 3) := by decide +kernel
theorem dX6_digest_30 : decode cX6_digest 30 = .ok (.iconst 0, 1) := by decide +kernel
theorem dX6_digest_31 : decode cX6_digest 31 = .ok (.istore_n 3, 1) := by decide +kernel
theorem dX6_digest_32 : decode cX6_digest 32 = .ok (.iload_n 3, 1) := by decide +kernel
theorem dX6_digest_33 : decode cX6_digest 33 = .ok (.aload_n 0, 1) := by decide +kernel
theorem dX6_digest_34 : decode cX6_digest 34 = .ok (.getfield 19, 3) := by decide +kernel
theorem dX6_digest_37 : decode cX6_digest 37 = .ok (.getfield 80, 3) := by decide +kernel
theorem dX6_digest_40 : decode cX6_digest 40 = .ok (.if_icmp .ge 40, 3) := by decide +kernel
theorem dX6_digest_43 : decode cX6_digest 43 = .ok (.iconst 0, 1) := by decide +kernel
theorem dX6_digest_44 : decode cX6_digest 44 = .ok (.istore 4, 2) := by decide +kernel
theorem dX6_digest_46 : decode cX6_digest 46 = .ok (.iload 4, 2) := by decide +kernel
theorem dX6_digest_48 : decode cX6_digest 48 = .ok (.bipush 6, 2) := by decide +kernel
theorem dX6_digest_50 : decode cX6_digest 50 = .ok (.if_icmp .gt 24, 3) := by decide +kernel
theorem dX6_digest_53 : decode cX6_digest 53 = .ok (.ldc2_w 282, 3) := by decide +kernel
theorem dX6_digest_56 : decode cX6_digest 56 = .ok (.lload_n 1, 1) := by decide +kernel
theorem dX6_digest_57 : decode cX6_digest 57 = .ok (.lmul, 1) := by decide +kernel
theorem dX6_digest_58 : decode cX6_digest 58 = .ok (.aload_n 0, 1) := by decide +kernel
theorem dX6_digest_59 : decode cX6_digest 59 = .ok (.iload_n 3, 1) := by decide +kernel
theorem dX6_digest_60 : decode cX6_digest 60 = .ok (.iload 4, 2) := by decide +kernel
theorem dX6_digest_62 : decode cX6_digest 62 = .ok (.invokevirtual 287, 3) := by decide +kernel
theorem dX6_digest_65 : decode cX6_digest 65 = .ok (.i2l, 1) := by decide +kernel
theorem dX6_digest_66 : decode cX6_digest 66 = .ok (.ladd, 1) := by decide +kernel
theorem dX6_digest_67 : decode cX6_digest 67 = .ok (.lstore_n 1, 1) := by decide +kernel
theorem dX6_digest_68 : decode cX6_digest 68 = .ok (.iinc 4 1, 3) := by decide +kernel
theorem dX6_digest_71 : decode cX6_digest 71 = .ok (.goto (-25), 3) := by decide +kernel
theorem dX6_digest_74 : decode cX6_digest 74 = .ok (.iinc 3 1, 3) := by decide +kernel
theorem dX6_digest_77 : decode cX6_digest 77 = .ok (.goto (-45), 3) := by decide +kernel
theorem dX6_digest_80 : decode cX6_digest 80 = .ok (.aload_n 0, 1) := by decide +kernel
theorem dX6_digest_81 : decode cX6_digest 81 = .ok (.lload_n 1, 1) := by decide +kernel
theorem dX6_digest_82 : decode cX6_digest 82 = .ok (.iconst 0, 1) := by decide +kernel
theorem dX6_digest_83 : decode cX6_digest 83 = .ok (.invokevirtual 290, 3) := by decide +kernel
theorem dX6_digest_86 : decode cX6_digest 86 = .ok (.lstore_n 1, 1) := by decide +kernel
theorem dX6_digest_87 : decode cX6_digest 87 = .ok (.aload_n 0, 1) := by decide +kernel
theorem dX6_digest_88 : decode cX6_digest 88 = .ok (.lload_n 1, 1) := by decide +kernel
theorem dX6_digest_89 : decode cX6_digest 89 = .ok (.iconst 1, 1) := by decide +kernel
theorem dX6_digest_90 : decode cX6_digest 90 = .ok (.invokevirtual 290, 3) := by decide +kernel
theorem dX6_digest_93 : decode cX6_digest 93 = .ok (.lstore_n 1, 1) := by decide +kernel
theorem dX6_digest_94 : decode cX6_digest 94 = .ok (.ldc2_w 282, 3) := by decide +kernel
theorem dX6_digest_97 : decode cX6_digest 97 = .ok (.lload_n 1, 1) := by decide +kernel
theorem dX6_digest_98 : decode cX6_digest 98 = .ok (.lmul, 1) := by decide +kernel
theorem dX6_digest_99 : decode cX6_digest 99 = .ok (.aload_n 0, 1) := by decide +kernel
theorem dX6_digest_100 : decode cX6_digest 100 = .ok (.invokevirtual 294, 3) := by decide +kernel
theorem dX6_digest_103 : decode cX6_digest 103 = .ok (.i2l, 1) := by decide +kernel
theorem dX6_digest_104 : decode cX6_digest 104 = .ok (.ladd, 1) := by decide +kernel
theorem dX6_digest_105 : decode cX6_digest 105 = .ok (.lstore_n 1, 1) := by decide +kernel
theorem dX6_digest_106 : decode cX6_digest 106 = .ok (.ldc2_w 282, 3) := by decide +kernel
theorem dX6_digest_109 : decode cX6_digest 109 = .ok (.lload_n 1, 1) := by decide +kernel
theorem dX6_digest_110 : decode cX6_digest 110 = .ok (.lmul, 1) := by decide +kernel
theorem dX6_digest_111 : decode cX6_digest 111 = .ok (.aload_n 0, 1) := by decide +kernel
theorem dX6_digest_112 : decode cX6_digest 112 = .ok (.invokevirtual 297, 3) := by decide +kernel
theorem dX6_digest_115 : decode cX6_digest 115 = .ok (.i2l, 1) := by decide +kernel
theorem dX6_digest_116 : decode cX6_digest 116 = .ok (.ladd, 1) := by decide +kernel
theorem dX6_digest_117 : decode cX6_digest 117 = .ok (.lreturn, 1) := by decide +kernel
theorem dX6_digestOfLaw_0 : decode cX6_digestOfLaw 0 = .ok (.ldc2_w 282, 3) := by decide +kernel
theorem dX6_digestOfLaw_3 : decode cX6_digestOfLaw 3 = .ok (.lload_n 1, 1) := by decide +kernel
theorem dX6_digestOfLaw_4 : decode cX6_digestOfLaw 4 = .ok (.lmul, 1) := by decide +kernel
theorem dX6_digestOfLaw_5 : decode cX6_digestOfLaw 5 = .ok (.aload_n 0, 1) := by decide +kernel
theorem dX6_digestOfLaw_6 : decode cX6_digestOfLaw 6 = .ok (.iload_n 3, 1) := by decide +kernel
theorem dX6_digestOfLaw_7 : decode cX6_digestOfLaw 7 = .ok (.invokevirtual 300, 3) := by decide +kernel
theorem dX6_digestOfLaw_10 : decode cX6_digestOfLaw 10 = .ok (.i2l, 1) := by decide +kernel
theorem dX6_digestOfLaw_11 : decode cX6_digestOfLaw 11 = .ok (.ladd, 1) := by decide +kernel
theorem dX6_digestOfLaw_12 : decode cX6_digestOfLaw 12 = .ok (.lstore 4, 2) := by decide +kernel
theorem dX6_digestOfLaw_14 : decode cX6_digestOfLaw 14 = .ok (.iconst 0, 1) := by decide +kernel
theorem dX6_digestOfLaw_15 : decode cX6_digestOfLaw 15 = .ok (.istore 6, 2) := by decide +kernel
theorem dX6_digestOfLaw_17 : decode cX6_digestOfLaw 17 = .ok (.iload 6, 2) := by decide +kernel
theorem dX6_digestOfLaw_19 : decode cX6_digestOfLaw 19 = .ok (.iconst 3, 1) := by decide +kernel
theorem dX6_digestOfLaw_20 : decode cX6_digestOfLaw 20 = .ok (.if_icmp .gt 26, 3) := by decide +kernel
theorem dX6_digestOfLaw_23 : decode cX6_digestOfLaw 23 = .ok (.ldc2_w 282, 3) := by decide +kernel
theorem dX6_digestOfLaw_26 : decode cX6_digestOfLaw 26 = .ok (.lload 4, 2) := by decide +kernel
theorem dX6_digestOfLaw_28 : decode cX6_digestOfLaw 28 = .ok (.lmul, 1) := by decide +kernel
theorem dX6_digestOfLaw_29 : decode cX6_digestOfLaw 29 = .ok (.aload_n 0, 1) := by decide +kernel
theorem dX6_digestOfLaw_30 : decode cX6_digestOfLaw 30 = .ok (.iload_n 3, 1) := by decide +kernel
theorem dX6_digestOfLaw_31 : decode cX6_digestOfLaw 31 = .ok (.iload 6, 2) := by decide +kernel
theorem dX6_digestOfLaw_33 : decode cX6_digestOfLaw 33 = .ok (.invokevirtual 303, 3) := by decide +kernel
theorem dX6_digestOfLaw_36 : decode cX6_digestOfLaw 36 = .ok (.i2l, 1) := by decide +kernel
theorem dX6_digestOfLaw_37 : decode cX6_digestOfLaw 37 = .ok (.ladd, 1) := by decide +kernel
theorem dX6_digestOfLaw_38 : decode cX6_digestOfLaw 38 = .ok (.lstore 4, 2) := by decide +kernel
theorem dX6_digestOfLaw_40 : decode cX6_digestOfLaw 40 = .ok (.iinc 6 1, 3) := by decide +kernel
theorem dX6_digestOfLaw_43 : decode cX6_digestOfLaw 43 = .ok (.goto (-26), 3) := by decide +kernel
theorem dX6_digestOfLaw_46 : decode cX6_digestOfLaw 46 = .ok (.iconst 0, 1) := by decide +kernel
theorem dX6_digestOfLaw_47 : decode cX6_digestOfLaw 47 = .ok (.istore 6, 2) := by decide +kernel
theorem dX6_digestOfLaw_49 : decode cX6_digestOfLaw 49 = .ok (.iload 6, 2) := by decide +kernel
theorem dX6_digestOfLaw_51 : decode cX6_digestOfLaw 51 = .ok (.iconst 2, 1) := by decide +kernel
theorem dX6_digestOfLaw_52 : decode cX6_digestOfLaw 52 = .ok (.if_icmp .gt 26, 3) := by decide +kernel
theorem dX6_digestOfLaw_55 : decode cX6_digestOfLaw 55 = .ok (.ldc2_w 282, 3) := by decide +kernel
theorem dX6_digestOfLaw_58 : decode cX6_digestOfLaw 58 = .ok (.lload 4, 2) := by decide +kernel
theorem dX6_digestOfLaw_60 : decode cX6_digestOfLaw 60 = .ok (.lmul, 1) := by decide +kernel
theorem dX6_digestOfLaw_61 : decode cX6_digestOfLaw 61 = .ok (.aload_n 0, 1) := by decide +kernel
theorem dX6_digestOfLaw_62 : decode cX6_digestOfLaw 62 = .ok (.iload_n 3, 1) := by decide +kernel
theorem dX6_digestOfLaw_63 : decode cX6_digestOfLaw 63 = .ok (.iload 6, 2) := by decide +kernel
theorem dX6_digestOfLaw_65 : decode cX6_digestOfLaw 65 = .ok (.invokevirtual 306, 3) := by decide +kernel
theorem dX6_digestOfLaw_68 : decode cX6_digestOfLaw 68 = .ok (.i2l, 1) := by decide +kernel
theorem dX6_digestOfLaw_69 : decode cX6_digestOfLaw 69 = .ok (.ladd, 1) := by decide +kernel
theorem dX6_digestOfLaw_70 : decode cX6_digestOfLaw 70 = .ok (.lstore 4, 2) := by decide +kernel
theorem dX6_digestOfLaw_72 : decode cX6_digestOfLaw 72 = .ok (.iinc 6 1, 3) := by decide +kernel
theorem dX6_digestOfLaw_75 : decode cX6_digestOfLaw 75 = .ok (.goto (-26), 3) := by decide +kernel
theorem dX6_digestOfLaw_78 : decode cX6_digestOfLaw 78 = .ok (.ldc2_w 282, 3) := by decide +kernel
theorem dX6_digestOfLaw_81 : decode cX6_digestOfLaw 81 = .ok (.lload 4, 2) := by decide +kernel
theorem dX6_digestOfLaw_83 : decode cX6_digestOfLaw 83 = .ok (.lmul, 1) := by decide +kernel
theorem dX6_digestOfLaw_84 : decode cX6_digestOfLaw 84 = .ok (.aload_n 0, 1) := by decide +kernel
theorem dX6_digestOfLaw_85 : decode cX6_digestOfLaw 85 = .ok (.iload_n 3, 1) := by decide +kernel
theorem dX6_digestOfLaw_86 : decode cX6_digestOfLaw 86 = .ok (.invokevirtual 309, 3) := by decide +kernel
theorem dX6_digestOfLaw_89 : decode cX6_digestOfLaw 89 = .ok (.i2l, 1) := by decide +kernel
theorem dX6_digestOfLaw_90 : decode cX6_digestOfLaw 90 = .ok (.ladd, 1) := by decide +kernel
theorem dX6_digestOfLaw_91 : decode cX6_digestOfLaw 91 = .ok (.lstore 4, 2) := by decide +kernel
theorem dX6_digestOfLaw_93 : decode cX6_digestOfLaw 93 = .ok (.ldc2_w 282, 3) := by decide +kernel
theorem dX6_digestOfLaw_96 : decode cX6_digestOfLaw 96 = .ok (.lload 4, 2) := by decide +kernel
theorem dX6_digestOfLaw_98 : decode cX6_digestOfLaw 98 = .ok (.lmul, 1) := by decide +kernel
theorem dX6_digestOfLaw_99 : decode cX6_digestOfLaw 99 = .ok (.aload_n 0, 1) := by decide +kernel
theorem dX6_digestOfLaw_100 : decode cX6_digestOfLaw 100 = .ok (.iload_n 3, 1) := by decide +kernel
theorem dX6_digestOfLaw_101 : decode cX6_digestOfLaw 101 = .ok (.iconst (-1), 1) := by decide +kernel
theorem dX6_digestOfLaw_102 : decode cX6_digestOfLaw 102 = .ok (.invokevirtual 312, 3) := by decide +kernel
theorem dX6_digestOfLaw_105 : decode cX6_digestOfLaw 105 = .ok (.i2l, 1) := by decide +kernel
theorem dX6_digestOfLaw_106 : decode cX6_digestOfLaw 106 = .ok (.ladd, 1) := by decide +kernel
theorem dX6_digestOfLaw_107 : decode cX6_digestOfLaw 107 = .ok (.lreturn, 1) := by decide +kernel
theorem dX6_sheetOf_0 : decode cX6_sheetOf 0 = .ok (.iload_n 1, 1) := by decide +kernel
theorem dX6_sheetOf_1 : decode cX6_sheetOf 1 = .ok (.ifCond .lt 17, 3) := by decide +kernel
theorem dX6_sheetOf_4 : decode cX6_sheetOf 4 = .ok (.iload_n 1, 1) := by decide +kernel
theorem dX6_sheetOf_5 : decode cX6_sheetOf 5 = .ok (.iconst 4, 1) := by decide +kernel
theorem dX6_sheetOf_6 : decode cX6_sheetOf 6 = .ok (.if_icmp .ge 12, 3) := by decide +kernel
theorem dX6_sheetOf_9 : decode cX6_sheetOf 9 = .ok (.aload_n 0, 1) := by decide +kernel
theorem dX6_sheetOf_10 : decode cX6_sheetOf 10 = .ok (.getfield 35, 3) := by decide +kernel
theorem dX6_sheetOf_13 : decode cX6_sheetOf 13 = .ok (.iload_n 1, 1) := by decide +kernel
theorem dX6_sheetOf_14 : decode cX6_sheetOf 14 = .ok (.aaload, 1) := by decide +kernel
theorem dX6_sheetOf_15 : decode cX6_sheetOf 15 = .ok (.goto 4, 3) := by decide +kernel
theorem dX6_sheetOf_18 : decode cX6_sheetOf 18 = .ok (.aconst_null, 1) := by decide +kernel
theorem dX6_sheetOf_19 : decode cX6_sheetOf 19 = .ok (.areturn, 1) := by decide +kernel
theorem dX6_isForm_0 : decode cX6_isForm 0 = .ok (.iload_n 0, 1) := by decide +kernel
theorem dX6_isForm_1 : decode cX6_isForm 1 = .ok (.ifCond .lt 12, 3) := by decide +kernel
theorem dX6_isForm_4 : decode cX6_isForm 4 = .ok (.iload_n 0, 1) := by decide +kernel
theorem dX6_isForm_5 : decode cX6_isForm 5 = .ok (.iconst 3, 1) := by decide +kernel
theorem dX6_isForm_6 : decode cX6_isForm 6 = .ok (.if_icmp .ge 7, 3) := by decide +kernel
theorem dX6_isForm_9 : decode cX6_isForm 9 = .ok (.iconst 1, 1) := by decide +kernel
theorem dX6_isForm_10 : decode cX6_isForm 10 = .ok (.goto 4, 3) := by decide +kernel
theorem dX6_isForm_13 : decode cX6_isForm 13 = .ok (.iconst 0, 1) := by decide +kernel
theorem dX6_isForm_14 : decode cX6_isForm 14 = .ok (.ireturn, 1) := by decide +kernel
theorem dX6_find_0 : decode cX6_find 0 = .ok (.aload_n 0, 1) := by decide +kernel
theorem dX6_find_1 : decode cX6_find 1 = .ok (.iload_n 1, 1) := by decide +kernel
theorem dX6_find_2 : decode cX6_find 2 = .ok (.putfield 55, 3) := by decide +kernel
theorem dX6_find_5 : decode cX6_find 5 = .ok (.bipush (-10), 2) := by decide +kernel
theorem dX6_find_7 : decode cX6_find 7 = .ok (.iload_n 1, 1) := by decide +kernel
theorem dX6_find_8 : decode cX6_find 8 = .ok (.isub, 1) := by decide +kernel
theorem dX6_find_9 : decode cX6_find 9 = .ok (.ireturn, 1) := by decide +kernel
theorem dX7_init_0 : decode cX7_init 0 = .ok (.aload_n 0, 1) := by decide +kernel
theorem dX7_init_1 : decode cX7_init 1 = .ok (.invokespecial 1, 3) := by decide +kernel
theorem dX7_init_4 : decode cX7_init 4 = .ok (.aload_n 0, 1) := by decide +kernel
theorem dX7_init_5 : decode cX7_init 5 = .ok (.bipush 36, 2) := by decide +kernel
theorem dX7_init_7 : decode cX7_init 7 = .ok (.newarray .int, 2) := by decide +kernel
theorem dX7_init_9 : decode cX7_init 9 = .ok (.putfield 7, 3) := by decide +kernel
theorem dX7_init_12 : decode cX7_init 12 = .ok (.aload_n 0, 1) := by decide +kernel
theorem dX7_init_13 : decode cX7_init 13 = .ok (.bipush 36, 2) := by decide +kernel
theorem dX7_init_15 : decode cX7_init 15 = .ok (.newarray .int, 2) := by decide +kernel
theorem dX7_init_17 : decode cX7_init 17 = .ok (.putfield 13, 3) := by decide +kernel
theorem dX7_init_20 : decode cX7_init 20 = .ok (.aload_n 0, 1) := by decide +kernel
theorem dX7_init_21 : decode cX7_init 21 = .ok (.bipush 10, 2) := by decide +kernel
theorem dX7_init_23 : decode cX7_init 23 = .ok (.newarray .int, 2) := by decide +kernel
theorem dX7_init_25 : decode cX7_init 25 = .ok (.putfield 16, 3) := by decide +kernel
theorem dX7_init_28 : decode cX7_init 28 = .ok (.aload_n 0, 1) := by decide +kernel
theorem dX7_init_29 : decode cX7_init 29 = .ok (.bipush 10, 2) := by decide +kernel
theorem dX7_init_31 : decode cX7_init 31 = .ok (.newarray .int, 2) := by decide +kernel
theorem dX7_init_33 : decode cX7_init 33 = .ok (.putfield 19, 3) := by decide +kernel
theorem dX7_init_36 : decode cX7_init 36 = .ok (.aload_n 0, 1) := by decide +kernel
theorem dX7_init_37 : decode cX7_init 37 = .ok (.bipush 10, 2) := by decide +kernel
theorem dX7_init_39 : decode cX7_init 39 = .ok (.newarray .int, 2) := by decide +kernel
theorem dX7_init_41 : decode cX7_init 41 = .ok (.putfield 22, 3) := by decide +kernel
theorem dX7_init_44 : decode cX7_init 44 = .ok (.aload_n 0, 1) := by decide +kernel
theorem dX7_init_45 : decode cX7_init 45 = .ok (.bipush 10, 2) := by decide +kernel
theorem dX7_init_47 : decode cX7_init 47 = .ok (.newarray .int, 2) := by decide +kernel
theorem dX7_init_49 : decode cX7_init 49 = .ok (.putfield 25, 3) := by decide +kernel
theorem dX7_init_52 : decode cX7_init 52 = .ok (.aload_n 0, 1) := by decide +kernel
theorem dX7_init_53 : decode cX7_init 53 = .ok (.bipush 10, 2) := by decide +kernel
theorem dX7_init_55 : decode cX7_init 55 = .ok (.newarray .int, 2) := by decide +kernel
theorem dX7_init_57 : decode cX7_init 57 = .ok (.putfield 28, 3) := by decide +kernel
theorem dX7_init_60 : decode cX7_init 60 = .ok (.aload_n 0, 1) := by decide +kernel
theorem dX7_init_61 : decode cX7_init 61 = .ok (.iconst 2, 1) := by decide +kernel
theorem dX7_init_62 : decode cX7_init 62 = .ok (.newarray .int, 2) := by decide +kernel
theorem dX7_init_64 : decode cX7_init 64 = .ok (.putfield 31, 3) := by decide +kernel
theorem dX7_init_67 : decode cX7_init 67 = .ok (.aload_n 0, 1) := by decide +kernel
theorem dX7_init_68 : decode cX7_init 68 = .ok (.bipush 80, 2) := by decide +kernel
theorem dX7_init_70 : decode cX7_init 70 = .ok (.newarray .int, 2) := by decide +kernel
theorem dX7_init_72 : decode cX7_init 72 = .ok (.putfield 34, 3) := by decide +kernel
theorem dX7_init_75 : decode cX7_init 75 = .ok (.aload_n 0, 1) := by decide +kernel
theorem dX7_init_76 : decode cX7_init 76 = .ok (.iconst 2, 1) := by decide +kernel
theorem dX7_init_77 : decode cX7_init 77 = .ok (.newarray .int, 2) := by decide +kernel
theorem dX7_init_79 : decode cX7_init 79 = .ok (.putfield 37, 3) := by decide +kernel
theorem dX7_init_82 : decode cX7_init 82 = .ok (.aload_n 0, 1) := by decide +kernel
theorem dX7_init_83 : decode cX7_init 83 = .ok (.bipush 8, 2) := by decide +kernel
theorem dX7_init_85 : decode cX7_init 85 = .ok (.newarray .int, 2) := by decide +kernel
theorem dX7_init_87 : decode cX7_init 87 = .ok (.putfield 40, 3) := by decide +kernel
theorem dX7_init_90 : decode cX7_init 90 = .ok (.aload_n 0, 1) := by decide +kernel
theorem dX7_init_91 : decode cX7_init 91 = .ok (.bipush 10, 2) := by decide +kernel
theorem dX7_init_93 : decode cX7_init 93 = .ok (.newarray .int, 2) := by decide +kernel
theorem dX7_init_95 : decode cX7_init 95 = .ok (.putfield 43, 3) := by decide +kernel
theorem dX7_init_98 : decode cX7_init 98 = .ok (.aload_n 0, 1) := by decide +kernel
theorem dX7_init_99 : decode cX7_init 99 = .ok (.bipush 10, 2) := by decide +kernel
theorem dX7_init_101 : decode cX7_init 101 = .ok (.newarray .int, 2) := by decide +kernel
theorem dX7_init_103 : decode cX7_init 103 = .ok (.putfield 46, 3) := by decide +kernel
theorem dX7_init_106 : decode cX7_init 106 = .ok (.aload_n 0, 1) := by decide +kernel
theorem dX7_init_107 : decode cX7_init 107 = .ok (.sipush 1024, 3) := by decide +kernel
theorem dX7_init_110 : decode cX7_init 110 = .ok (.newarray .boolean, 2) := by decide +kernel
theorem dX7_init_112 : decode cX7_init 112 = .ok (.putfield 49, 3) := by decide +kernel
theorem dX7_init_115 : decode cX7_init 115 = .ok (.aload_n 0, 1) := by decide +kernel
theorem dX7_init_116 : decode cX7_init 116 = .ok (.bipush 10, 2) := by decide +kernel
theorem dX7_init_118 : decode cX7_init 118 = .ok (.newarray .int, 2) := by decide +kernel
theorem dX7_init_120 : decode cX7_init 120 = .ok (.putfield 53, 3) := by decide +kernel
theorem dX7_init_123 : decode cX7_init 123 = .ok (.aload_n 0, 1) := by decide +kernel
theorem dX7_init_124 : decode cX7_init 124 = .ok (.iconst 4, 1) := by decide +kernel
theorem dX7_init_125 : decode cX7_init 125 = .ok (.newarray .boolean, 2) := by decide +kernel
theorem dX7_init_127 : decode cX7_init 127 = .ok (.putfield 56, 3) := by decide +kernel
theorem dX7_init_130 : decode cX7_init 130 = .ok (.aload_n 0, 1) := by decide +kernel
theorem dX7_init_131 : decode cX7_init 131 = .ok (.iconst 4, 1) := by decide +kernel
theorem dX7_init_132 : decode cX7_init 132 = .ok (.newarray .int, 2) := by decide +kernel
theorem dX7_init_134 : decode cX7_init 134 = .ok (.putfield 59, 3) := by decide +kernel
theorem dX7_init_137 : decode cX7_init 137 = .ok (.aload_n 0, 1) := by decide +kernel
theorem dX7_init_138 : decode cX7_init 138 = .ok (.iconst 4, 1) := by decide +kernel
theorem dX7_init_139 : decode cX7_init 139 = .ok (.newarray .int, 2) := by decide +kernel
theorem dX7_init_141 : decode cX7_init 141 = .ok (.putfield 62, 3) := by decide +kernel
theorem dX7_init_144 : decode cX7_init 144 = .ok (.aload_n 0, 1) := by decide +kernel
theorem dX7_init_145 : decode cX7_init 145 = .ok (.sipush 160, 3) := by decide +kernel
theorem dX7_init_148 : decode cX7_init 148 = .ok (.newarray .int, 2) := by decide +kernel
theorem dX7_init_150 : decode cX7_init 150 = .ok (.putfield 65, 3) := by decide +kernel
theorem dX7_init_153 : decode cX7_init 153 = .ok (.aload_n 0, 1) := by decide +kernel
theorem dX7_init_154 : decode cX7_init 154 = .ok (.bipush 40, 2) := by decide +kernel
theorem dX7_init_156 : decode cX7_init 156 = .ok (.newarray .int, 2) := by decide +kernel
theorem dX7_init_158 : decode cX7_init 158 = .ok (.putfield 68, 3) := by decide +kernel
theorem dX7_init_161 : decode cX7_init 161 = .ok (.return_, 1) := by decide +kernel
theorem dX7_in_0 : decode cX7_in 0 = .ok (.iload_n 0, 1) := by decide +kernel
theorem dX7_in_1 : decode cX7_in 1 = .ok (.iload_n 1, 1) := by decide +kernel
theorem dX7_in_2 : decode cX7_in 2 = .ok (.if_icmp .lt 12, 3) := by decide +kernel
theorem dX7_in_5 : decode cX7_in 5 = .ok (.iload_n 0, 1) := by decide +kernel
theorem dX7_in_6 : decode cX7_in 6 = .ok (.iload_n 2, 1) := by decide +kernel
theorem dX7_in_7 : decode cX7_in 7 = .ok (.if_icmp .gt 7, 3) := by decide +kernel
theorem dX7_in_10 : decode cX7_in 10 = .ok (.iconst 1, 1) := by decide +kernel
theorem dX7_in_11 : decode cX7_in 11 = .ok (.goto 4, 3) := by decide +kernel
theorem dX7_in_14 : decode cX7_in 14 = .ok (.iconst 0, 1) := by decide +kernel
theorem dX7_in_15 : decode cX7_in 15 = .ok (.ireturn, 1) := by decide +kernel
theorem dX7_has_0 : decode cX7_has 0 = .ok (.iload_n 0, 1) := by decide +kernel
theorem dX7_has_1 : decode cX7_has 1 = .ok (.iload_n 1, 1) := by decide +kernel
theorem dX7_has_2 : decode cX7_has 2 = .ok (.ishr, 1) := by decide +kernel
theorem dX7_has_3 : decode cX7_has 3 = .ok (.iconst 1, 1) := by decide +kernel
theorem dX7_has_4 : decode cX7_has 4 = .ok (.iand, 1) := by decide +kernel
theorem dX7_has_5 : decode cX7_has 5 = .ok (.iconst 1, 1) := by decide +kernel
theorem dX7_has_6 : decode cX7_has 6 = .ok (.if_icmp .ne 7, 3) := by decide +kernel
theorem dX7_has_9 : decode cX7_has 9 = .ok (.iconst 1, 1) := by decide +kernel
theorem dX7_has_10 : decode cX7_has 10 = .ok (.goto 4, 3) := by decide +kernel
theorem dX7_has_13 : decode cX7_has 13 = .ok (.iconst 0, 1) := by decide +kernel
theorem dX7_has_14 : decode cX7_has 14 = .ok (.ireturn, 1) := by decide +kernel
theorem dX7_ones_0 : decode cX7_ones 0 = .ok (.iconst 0, 1) := by decide +kernel
theorem dX7_ones_1 : decode cX7_ones 1 = .ok (.istore_n 1, 1) := by decide +kernel
theorem dX7_ones_2 : decode cX7_ones 2 = .ok (.iconst 0, 1) := by decide +kernel
theorem dX7_ones_3 : decode cX7_ones 3 = .ok (.istore_n 2, 1) := by decide +kernel
theorem dX7_ones_4 : decode cX7_ones 4 = .ok (.iload_n 2, 1) := by decide +kernel
theorem dX7_ones_5 : decode cX7_ones 5 = .ok (.bipush 10, 2) := by decide +kernel
theorem dX7_ones_7 : decode cX7_ones 7 = .ok (.if_icmp .ge 17, 3) := by decide +kernel
theorem dX7_ones_10 : decode cX7_ones 10 = .ok (.iload_n 1, 1) := by decide +kernel
theorem dX7_ones_11 : decode cX7_ones 11 = .ok (.iload_n 0, 1) := by decide +kernel
theorem dX7_ones_12 : decode cX7_ones 12 = .ok (.iload_n 2, 1) := by decide +kernel
theorem dX7_ones_13 : decode cX7_ones 13 = .ok (.ishr, 1) := by decide +kernel
theorem dX7_ones_14 : decode cX7_ones 14 = .ok (.iconst 1, 1) := by decide +kernel
theorem dX7_ones_15 : decode cX7_ones 15 = .ok (.iand, 1) := by decide +kernel
theorem dX7_ones_16 : decode cX7_ones 16 = .ok (.iadd, 1) := by decide +kernel
theorem dX7_ones_17 : decode cX7_ones 17 = .ok (.istore_n 1, 1) := by decide +kernel
theorem dX7_ones_18 : decode cX7_ones 18 = .ok (.iinc 2 1, 3) := by decide +kernel
theorem dX7_ones_21 : decode cX7_ones 21 = .ok (.goto (-17), 3) := by decide +kernel
theorem dX7_ones_24 : decode cX7_ones 24 = .ok (.iload_n 1, 1) := by decide +kernel
theorem dX7_ones_25 : decode cX7_ones 25 = .ok (.ireturn, 1) := by decide +kernel
theorem dX7_apart_0 : decode cX7_apart 0 = .ok (.iload_n 0, 1) := by decide +kernel
theorem dX7_apart_1 : decode cX7_apart 1 = .ok (.iload_n 1, 1) := by decide +kernel
theorem dX7_apart_2 : decode cX7_apart 2 = .ok (.if_icmp .le 9, 3) := by decide +kernel
theorem dX7_apart_5 : decode cX7_apart 5 = .ok (.iload_n 0, 1) := by decide +kernel
theorem dX7_apart_6 : decode cX7_apart 6 = .ok (.iload_n 1, 1) := by decide +kernel
theorem dX7_apart_7 : decode cX7_apart 7 = .ok (.isub, 1) := by decide +kernel
theorem dX7_apart_8 : decode cX7_apart 8 = .ok (.goto 6, 3) := by decide +kernel
theorem dX7_apart_11 : decode cX7_apart 11 = .ok (.iload_n 1, 1) := by decide +kernel
theorem dX7_apart_12 : decode cX7_apart 12 = .ok (.iload_n 0, 1) := by decide +kernel
theorem dX7_apart_13 : decode cX7_apart 13 = .ok (.isub, 1) := by decide +kernel
theorem dX7_apart_14 : decode cX7_apart 14 = .ok (.ireturn, 1) := by decide +kernel
theorem dX7_isTown_0 : decode cX7_isTown 0 = .ok (.iload_n 0, 1) := by decide +kernel
theorem dX7_isTown_1 : decode cX7_isTown 1 = .ok (.iconst 0, 1) := by decide +kernel
theorem dX7_isTown_2 : decode cX7_isTown 2 = .ok (.iconst 5, 1) := by decide +kernel
theorem dX7_isTown_3 : decode cX7_isTown 3 = .ok (.invokestatic 71, 3) := by decide +kernel
theorem dX7_isTown_6 : decode cX7_isTown 6 = .ok (.ireturn, 1) := by decide +kernel
theorem dX7_road_0 : decode cX7_road 0 = .ok (.iload_n 1, 1) := by decide +kernel
theorem dX7_road_1 : decode cX7_road 1 = .ok (.invokestatic 75, 3) := by decide +kernel
theorem dX7_road_4 : decode cX7_road 4 = .ok (.ifCond .eq 25, 3) := by decide +kernel
theorem dX7_road_7 : decode cX7_road 7 = .ok (.iload_n 2, 1) := by decide +kernel
theorem dX7_road_8 : decode cX7_road 8 = .ok (.invokestatic 75, 3) := by decide +kernel
theorem dX7_road_11 : decode cX7_road 11 = .ok (.ifCond .eq 18, 3) := by decide +kernel
theorem dX7_road_14 : decode cX7_road 14 = .ok (.iload_n 1, 1) := by decide +kernel
theorem dX7_road_15 : decode cX7_road 15 = .ok (.iload_n 2, 1) := by decide +kernel
theorem dX7_road_16 : decode cX7_road 16 = .ok (.if_icmp .eq 13, 3) := by decide +kernel
theorem dX7_road_19 : decode cX7_road 19 = .ok (.iload_n 3, 1) := by decide +kernel
theorem dX7_road_20 : decode cX7_road 20 = .ok (.iconst 0, 1) := by decide +kernel
theorem dX7_road_21 : decode cX7_road 21 = .ok (.bipush 99, 2) := by decide +kernel
theorem dX7_road_23 : decode cX7_road 23 = .ok (.invokestatic 71, 3) := by decide +kernel
theorem dX7_road_26 : decode cX7_road 26 = .ok (.ifCond .ne 6, 3) := by decide +kernel
theorem dX7_road_29 : decode cX7_road 29 = .ok (.bipush (-2), 2) := by decide +kernel
theorem dX7_road_31 : decode cX7_road 31 = .ok (.ireturn, 1) := by decide +kernel
theorem dX7_road_32 : decode cX7_road 32 = .ok (.aload_n 0, 1) := by decide +kernel
theorem dX7_road_33 : decode cX7_road 33 = .ok (.getfield 7, 3) := by decide +kernel
theorem dX7_road_36 : decode cX7_road 36 = .ok (.bipush 6, 2) := by decide +kernel
theorem dX7_road_38 : decode cX7_road 38 = .ok (.iload_n 1, 1) := by decide +kernel
theorem dX7_road_39 : decode cX7_road 39 = .ok (.imul, 1) := by decide +kernel
theorem dX7_road_40 : decode cX7_road 40 = .ok (.iload_n 2, 1) := by decide +kernel
theorem dX7_road_41 : decode cX7_road 41 = .ok (.iadd, 1) := by decide +kernel
theorem dX7_road_42 : decode cX7_road 42 = .ok (.iaload, 1) := by decide +kernel
theorem dX7_road_43 : decode cX7_road 43 = .ok (.istore 4, 2) := by decide +kernel
theorem dX7_road_45 : decode cX7_road 45 = .ok (.aload_n 0, 1) := by decide +kernel
theorem dX7_road_46 : decode cX7_road 46 = .ok (.getfield 7, 3) := by decide +kernel
theorem dX7_road_49 : decode cX7_road 49 = .ok (.bipush 6, 2) := by decide +kernel
theorem dX7_road_51 : decode cX7_road 51 = .ok (.iload_n 1, 1) := by decide +kernel
theorem dX7_road_52 : decode cX7_road 52 = .ok (.imul, 1) := by decide +kernel
theorem dX7_road_53 : decode cX7_road 53 = .ok (.iload_n 2, 1) := by decide +kernel
theorem dX7_road_54 : decode cX7_road 54 = .ok (.iadd, 1) := by decide +kernel
theorem dX7_road_55 : decode cX7_road 55 = .ok (.iload_n 3, 1) := by decide +kernel
theorem dX7_road_56 : decode cX7_road 56 = .ok (.iastore, 1) := by decide +kernel
theorem dX7_road_57 : decode cX7_road 57 = .ok (.aload_n 0, 1) := by decide +kernel
theorem dX7_road_58 : decode cX7_road 58 = .ok (.getfield 7, 3) := by decide +kernel
theorem dX7_road_61 : decode cX7_road 61 = .ok (.bipush 6, 2) := by decide +kernel
theorem dX7_road_63 : decode cX7_road 63 = .ok (.iload_n 2, 1) := by decide +kernel
theorem dX7_road_64 : decode cX7_road 64 = .ok (.imul, 1) := by decide +kernel
theorem dX7_road_65 : decode cX7_road 65 = .ok (.iload_n 1, 1) := by decide +kernel
theorem dX7_road_66 : decode cX7_road 66 = .ok (.iadd, 1) := by decide +kernel
theorem dX7_road_67 : decode cX7_road 67 = .ok (.iload_n 3, 1) := by decide +kernel
theorem dX7_road_68 : decode cX7_road 68 = .ok (.iastore, 1) := by decide +kernel
theorem dX7_road_69 : decode cX7_road 69 = .ok (.iload 4, 2) := by decide +kernel
theorem dX7_road_71 : decode cX7_road 71 = .ok (.ireturn, 1) := by decide +kernel
theorem dX7_laysWays_0 : decode cX7_laysWays 0 = .ok (.iconst 0, 1) := by decide +kernel
theorem dX7_laysWays_1 : decode cX7_laysWays 1 = .ok (.istore_n 1, 1) := by decide +kernel
theorem dX7_laysWays_2 : decode cX7_laysWays 2 = .ok (.iload_n 1, 1) := by decide +kernel
theorem dX7_laysWays_3 : decode cX7_laysWays 3 = .ok (.bipush 36, 2) := by decide +kernel
theorem dX7_laysWays_5 : decode cX7_laysWays 5 = .ok (.if_icmp .ge 51, 3) := by decide +kernel
theorem dX7_laysWays_8 : decode cX7_laysWays 8 = .ok (.aload_n 0, 1) := by decide +kernel
theorem dX7_laysWays_9 : decode cX7_laysWays 9 = .ok (.getfield 13, 3) := by decide +kernel
theorem dX7_laysWays_12 : decode cX7_laysWays 12 = .ok (.iload_n 1, 1) := by decide +kernel
theorem dX7_laysWays_13 : decode cX7_laysWays 13 = .ok (.iload_n 1, 1) := by decide +kernel
theorem dX7_laysWays_14 : decode cX7_laysWays 14 = .ok (.bipush 6, 2) := by decide +kernel
theorem dX7_laysWays_16 : decode cX7_laysWays 16 = .ok (.idiv, 1) := by decide +kernel
theorem dX7_laysWays_17 : decode cX7_laysWays 17 = .ok (.iload_n 1, 1) := by decide +kernel
theorem dX7_laysWays_18 : decode cX7_laysWays 18 = .ok (.bipush 6, 2) := by decide +kernel
theorem dX7_laysWays_20 : decode cX7_laysWays 20 = .ok (.irem, 1) := by decide +kernel
theorem dX7_laysWays_21 : decode cX7_laysWays 21 = .ok (.if_icmp .ne 7, 3) := by decide +kernel
theorem dX7_laysWays_24 : decode cX7_laysWays 24 = .ok (.iconst 0, 1) := by decide +kernel
theorem dX7_laysWays_25 : decode cX7_laysWays 25 = .ok (.goto 24, 3) := by decide +kernel
theorem dX7_laysWays_28 : decode cX7_laysWays 28 = .ok (.aload_n 0, 1) := by decide +kernel
theorem dX7_laysWays_29 : decode cX7_laysWays 29 = .ok (.getfield 7, 3) := by decide +kernel
theorem dX7_laysWays_32 : decode cX7_laysWays 32 = .ok (.iload_n 1, 1) := by decide +kernel
theorem dX7_laysWays_33 : decode cX7_laysWays 33 = .ok (.iaload, 1) := by decide +kernel
theorem dX7_laysWays_34 : decode cX7_laysWays 34 = .ok (.ifCond .le 12, 3) := by decide +kernel
theorem dX7_laysWays_37 : decode cX7_laysWays 37 = .ok (.aload_n 0, 1) := by decide +kernel
theorem dX7_laysWays_38 : decode cX7_laysWays 38 = .ok (.getfield 7, 3) := by decide +kernel
theorem dX7_laysWays_41 : decode cX7_laysWays 41 = .ok (.iload_n 1, 1) := by decide +kernel
theorem dX7_laysWays_42 : decode cX7_laysWays 42 = .ok (.iaload, 1) := by decide +kernel
theorem dX7_laysWays_43 : decode cX7_laysWays 43 = .ok (.goto 6, 3) := by decide +kernel
theorem dX7_laysWays_46 : decode cX7_laysWays 46 = .ok (.sipush 1000, 3) := by decide +kernel
theorem dX7_laysWays_49 : decode cX7_laysWays 49 = .ok (.iastore, 1) := by decide +kernel
theorem dX7_laysWays_50 : decode cX7_laysWays 50 = .ok (.iinc 1 1, 3) := by decide +kernel
theorem dX7_laysWays_53 : decode cX7_laysWays 53 = .ok (.goto (-51), 3) := by decide +kernel
theorem dX7_laysWays_56 : decode cX7_laysWays 56 = .ok (.iconst 0, 1) := by decide +kernel
theorem dX7_laysWays_57 : decode cX7_laysWays 57 = .ok (.istore_n 1, 1) := by decide +kernel
theorem dX7_laysWays_58 : decode cX7_laysWays 58 = .ok (.iload_n 1, 1) := by decide +kernel
theorem dX7_laysWays_59 : decode cX7_laysWays 59 = .ok (.bipush 6, 2) := by decide +kernel
theorem dX7_laysWays_61 : decode cX7_laysWays 61 = .ok (.if_icmp .ge 79, 3) := by decide +kernel
theorem dX7_laysWays_64 : decode cX7_laysWays 64 = .ok (.iconst 0, 1) := by decide +kernel
theorem dX7_laysWays_65 : decode cX7_laysWays 65 = .ok (.istore_n 2, 1) := by decide +kernel
theorem dX7_laysWays_66 : decode cX7_laysWays 66 = .ok (.iload_n 2, 1) := by decide +kernel
theorem dX7_laysWays_67 : decode cX7_laysWays 67 = .ok (.bipush 36, 2) := by decide +kernel
theorem dX7_laysWays_69 : decode cX7_laysWays 69 = .ok (.if_icmp .ge 65, 3) := by decide +kernel
theorem dX7_laysWays_72 : decode cX7_laysWays 72 = .ok (.aload_n 0, 1) := by decide +kernel
theorem dX7_laysWays_73 : decode cX7_laysWays 73 = .ok (.getfield 13, 3) := by decide +kernel
theorem dX7_laysWays_76 : decode cX7_laysWays 76 = .ok (.iload_n 2, 1) := by decide +kernel
theorem dX7_laysWays_77 : decode cX7_laysWays 77 = .ok (.bipush 6, 2) := by decide +kernel
theorem dX7_laysWays_79 : decode cX7_laysWays 79 = .ok (.idiv, 1) := by decide +kernel
theorem dX7_laysWays_80 : decode cX7_laysWays 80 = .ok (.bipush 6, 2) := by decide +kernel
theorem dX7_laysWays_82 : decode cX7_laysWays 82 = .ok (.imul, 1) := by decide +kernel
theorem dX7_laysWays_83 : decode cX7_laysWays 83 = .ok (.iload_n 1, 1) := by decide +kernel
theorem dX7_laysWays_84 : decode cX7_laysWays 84 = .ok (.iadd, 1) := by decide +kernel
theorem dX7_laysWays_85 : decode cX7_laysWays 85 = .ok (.iaload, 1) := by decide +kernel
theorem dX7_laysWays_86 : decode cX7_laysWays 86 = .ok (.aload_n 0, 1) := by decide +kernel
theorem dX7_laysWays_87 : decode cX7_laysWays 87 = .ok (.getfield 13, 3) := by decide +kernel
theorem dX7_laysWays_90 : decode cX7_laysWays 90 = .ok (.bipush 6, 2) := by decide +kernel
theorem dX7_laysWays_92 : decode cX7_laysWays 92 = .ok (.iload_n 1, 1) := by decide +kernel
theorem dX7_laysWays_93 : decode cX7_laysWays 93 = .ok (.imul, 1) := by decide +kernel
theorem dX7_laysWays_94 : decode cX7_laysWays 94 = .ok (.iload_n 2, 1) := by decide +kernel
theorem dX7_laysWays_95 : decode cX7_laysWays 95 = .ok (.bipush 6, 2) := by decide +kernel
theorem dX7_laysWays_97 : decode cX7_laysWays 97 = .ok (.irem, 1) := by decide +kernel
theorem dX7_laysWays_98 : decode cX7_laysWays 98 = .ok (.iadd, 1) := by decide +kernel
theorem dX7_laysWays_99 : decode cX7_laysWays 99 = .ok (.iaload, 1) := by decide +kernel
theorem dX7_laysWays_100 : decode cX7_laysWays 100 = .ok (.iadd, 1) := by decide +kernel
theorem dX7_laysWays_101 : decode cX7_laysWays 101 = .ok (.istore_n 3, 1) := by decide +kernel
theorem dX7_laysWays_102 : decode cX7_laysWays 102 = .ok (.aload_n 0, 1) := by decide +kernel
theorem dX7_laysWays_103 : decode cX7_laysWays 103 = .ok (.getfield 13, 3) := by decide +kernel
theorem dX7_laysWays_106 : decode cX7_laysWays 106 = .ok (.iload_n 2, 1) := by decide +kernel
theorem dX7_laysWays_107 : decode cX7_laysWays 107 = .ok (.iload_n 3, 1) := by decide +kernel
theorem dX7_laysWays_108 : decode cX7_laysWays 108 = .ok (.aload_n 0, 1) := by decide +kernel
theorem dX7_laysWays_109 : decode cX7_laysWays 109 = .ok (.getfield 13, 3) := by decide +kernel
theorem dX7_laysWays_112 : decode cX7_laysWays 112 = .ok (.iload_n 2, 1) := by decide +kernel
theorem dX7_laysWays_113 : decode cX7_laysWays 113 = .ok (.iaload, 1) := by decide +kernel
theorem dX7_laysWays_114 : decode cX7_laysWays 114 = .ok (.if_icmp .ge 7, 3) := by decide +kernel
theorem dX7_laysWays_117 : decode cX7_laysWays 117 = .ok (.iload_n 3, 1) := by decide +kernel
theorem dX7_laysWays_118 : decode cX7_laysWays 118 = .ok (.goto 9, 3) := by decide +kernel
theorem dX7_laysWays_121 : decode cX7_laysWays 121 = .ok (.aload_n 0, 1) := by decide +kernel
theorem dX7_laysWays_122 : decode cX7_laysWays 122 = .ok (.getfield 13, 3) := by decide +kernel
theorem dX7_laysWays_125 : decode cX7_laysWays 125 = .ok (.iload_n 2, 1) := by decide +kernel
theorem dX7_laysWays_126 : decode cX7_laysWays 126 = .ok (.iaload, 1) := by decide +kernel
theorem dX7_laysWays_127 : decode cX7_laysWays 127 = .ok (.iastore, 1) := by decide +kernel
theorem dX7_laysWays_128 : decode cX7_laysWays 128 = .ok (.iinc 2 1, 3) := by decide +kernel
theorem dX7_laysWays_131 : decode cX7_laysWays 131 = .ok (.goto (-65), 3) := by decide +kernel
theorem dX7_laysWays_134 : decode cX7_laysWays 134 = .ok (.iinc 1 1, 3) := by decide +kernel
theorem dX7_laysWays_137 : decode cX7_laysWays 137 = .ok (.goto (-79), 3) := by decide +kernel
theorem dX7_laysWays_140 : decode cX7_laysWays 140 = .ok (.return_, 1) := by decide +kernel
theorem dX7_away_0 : decode cX7_away 0 = .ok (.iload_n 1, 1) := by decide +kernel
theorem dX7_away_1 : decode cX7_away 1 = .ok (.invokestatic 75, 3) := by decide +kernel
theorem dX7_away_4 : decode cX7_away 4 = .ok (.ifCond .eq 10, 3) := by decide +kernel
theorem dX7_away_7 : decode cX7_away 7 = .ok (.iload_n 2, 1) := by decide +kernel
theorem dX7_away_8 : decode cX7_away 8 = .ok (.invokestatic 75, 3) := by decide +kernel
theorem dX7_away_11 : decode cX7_away 11 = .ok (.ifCond .ne 6, 3) := by decide +kernel
theorem dX7_away_14 : decode cX7_away 14 = .ok (.bipush (-2), 2) := by decide +kernel
theorem dX7_away_16 : decode cX7_away 16 = .ok (.ireturn, 1) := by decide +kernel
theorem dX7_away_17 : decode cX7_away 17 = .ok (.aload_n 0, 1) := by decide +kernel
theorem dX7_away_18 : decode cX7_away 18 = .ok (.invokevirtual 79, 3) := by decide +kernel
theorem dX7_away_21 : decode cX7_away 21 = .ok (.aload_n 0, 1) := by decide +kernel
theorem dX7_away_22 : decode cX7_away 22 = .ok (.getfield 13, 3) := by decide +kernel
theorem dX7_away_25 : decode cX7_away 25 = .ok (.bipush 6, 2) := by decide +kernel
theorem dX7_away_27 : decode cX7_away 27 = .ok (.iload_n 1, 1) := by decide +kernel
theorem dX7_away_28 : decode cX7_away 28 = .ok (.imul, 1) := by decide +kernel
theorem dX7_away_29 : decode cX7_away 29 = .ok (.iload_n 2, 1) := by decide +kernel
theorem dX7_away_30 : decode cX7_away 30 = .ok (.iadd, 1) := by decide +kernel
theorem dX7_away_31 : decode cX7_away 31 = .ok (.iaload, 1) := by decide +kernel
theorem dX7_away_32 : decode cX7_away 32 = .ok (.ireturn, 1) := by decide +kernel
theorem dX7_adds_0 : decode cX7_adds 0 = .ok (.iload_n 1, 1) := by decide +kernel
theorem dX7_adds_1 : decode cX7_adds 1 = .ok (.iconst 0, 1) := by decide +kernel
theorem dX7_adds_2 : decode cX7_adds 2 = .ok (.iconst 2, 1) := by decide +kernel
theorem dX7_adds_3 : decode cX7_adds 3 = .ok (.invokestatic 71, 3) := by decide +kernel
theorem dX7_adds_6 : decode cX7_adds 6 = .ok (.ifCond .eq 57, 3) := by decide +kernel
theorem dX7_adds_9 : decode cX7_adds 9 = .ok (.iload_n 2, 1) := by decide +kernel
theorem dX7_adds_10 : decode cX7_adds 10 = .ok (.iconst 1, 1) := by decide +kernel
theorem dX7_adds_11 : decode cX7_adds 11 = .ok (.sipush 1023, 3) := by decide +kernel
theorem dX7_adds_14 : decode cX7_adds 14 = .ok (.invokestatic 71, 3) := by decide +kernel
theorem dX7_adds_17 : decode cX7_adds 17 = .ok (.ifCond .eq 46, 3) := by decide +kernel
theorem dX7_adds_20 : decode cX7_adds 20 = .ok (.iload_n 3, 1) := by decide +kernel
theorem dX7_adds_21 : decode cX7_adds 21 = .ok (.invokestatic 75, 3) := by decide +kernel
theorem dX7_adds_24 : decode cX7_adds 24 = .ok (.ifCond .eq 39, 3) := by decide +kernel
theorem dX7_adds_27 : decode cX7_adds 27 = .ok (.iload 4, 2) := by decide +kernel
theorem dX7_adds_29 : decode cX7_adds 29 = .ok (.iconst 0, 1) := by decide +kernel
theorem dX7_adds_30 : decode cX7_adds 30 = .ok (.sipush 999, 3) := by decide +kernel
theorem dX7_adds_33 : decode cX7_adds 33 = .ok (.invokestatic 71, 3) := by decide +kernel
theorem dX7_adds_36 : decode cX7_adds 36 = .ok (.ifCond .eq 27, 3) := by decide +kernel
theorem dX7_adds_39 : decode cX7_adds 39 = .ok (.iload 5, 2) := by decide +kernel
theorem dX7_adds_41 : decode cX7_adds 41 = .ok (.iconst 0, 1) := by decide +kernel
theorem dX7_adds_42 : decode cX7_adds 42 = .ok (.iload_n 1, 1) := by decide +kernel
theorem dX7_adds_43 : decode cX7_adds 43 = .ok (.ifCond .ne 8, 3) := by decide +kernel
theorem dX7_adds_46 : decode cX7_adds 46 = .ok (.bipush 99, 2) := by decide +kernel
theorem dX7_adds_48 : decode cX7_adds 48 = .ok (.goto 9, 3) := by decide +kernel
theorem dX7_adds_51 : decode cX7_adds 51 = .ok (.aload_n 0, 1) := by decide +kernel
theorem dX7_adds_52 : decode cX7_adds 52 = .ok (.getfield 82, 3) := by decide +kernel
theorem dX7_adds_55 : decode cX7_adds 55 = .ok (.iconst 1, 1) := by decide +kernel
theorem dX7_adds_56 : decode cX7_adds 56 = .ok (.isub, 1) := by decide +kernel
theorem dX7_adds_57 : decode cX7_adds 57 = .ok (.invokestatic 71, 3) := by decide +kernel
theorem dX7_adds_60 : decode cX7_adds 60 = .ok (.ifCond .ne 6, 3) := by decide +kernel
theorem dX7_adds_63 : decode cX7_adds 63 = .ok (.bipush (-2), 2) := by decide +kernel
theorem dX7_adds_65 : decode cX7_adds 65 = .ok (.ireturn, 1) := by decide +kernel
theorem dX7_adds_66 : decode cX7_adds 66 = .ok (.aload_n 0, 1) := by decide +kernel
theorem dX7_adds_67 : decode cX7_adds 67 = .ok (.getfield 82, 3) := by decide +kernel
theorem dX7_adds_70 : decode cX7_adds 70 = .ok (.bipush 10, 2) := by decide +kernel
theorem dX7_adds_72 : decode cX7_adds 72 = .ok (.if_icmp .ne 6, 3) := by decide +kernel
theorem dX7_adds_75 : decode cX7_adds 75 = .ok (.bipush (-4), 2) := by decide +kernel
theorem dX7_adds_77 : decode cX7_adds 77 = .ok (.ireturn, 1) := by decide +kernel
theorem dX7_adds_78 : decode cX7_adds 78 = .ok (.aload_n 0, 1) := by decide +kernel
theorem dX7_adds_79 : decode cX7_adds 79 = .ok (.getfield 16, 3) := by decide +kernel
theorem dX7_adds_82 : decode cX7_adds 82 = .ok (.aload_n 0, 1) := by decide +kernel
theorem dX7_adds_83 : decode cX7_adds 83 = .ok (.getfield 82, 3) := by decide +kernel
theorem dX7_adds_86 : decode cX7_adds 86 = .ok (.iload_n 1, 1) := by decide +kernel
theorem dX7_adds_87 : decode cX7_adds 87 = .ok (.iastore, 1) := by decide +kernel
theorem dX7_adds_88 : decode cX7_adds 88 = .ok (.aload_n 0, 1) := by decide +kernel
theorem dX7_adds_89 : decode cX7_adds 89 = .ok (.getfield 19, 3) := by decide +kernel
theorem dX7_adds_92 : decode cX7_adds 92 = .ok (.aload_n 0, 1) := by decide +kernel
theorem dX7_adds_93 : decode cX7_adds 93 = .ok (.getfield 82, 3) := by decide +kernel
theorem dX7_adds_96 : decode cX7_adds 96 = .ok (.iload_n 2, 1) := by decide +kernel
theorem dX7_adds_97 : decode cX7_adds 97 = .ok (.iastore, 1) := by decide +kernel
theorem dX7_adds_98 : decode cX7_adds 98 = .ok (.aload_n 0, 1) := by decide +kernel
theorem dX7_adds_99 : decode cX7_adds 99 = .ok (.getfield 22, 3) := by decide +kernel
theorem dX7_adds_102 : decode cX7_adds 102 = .ok (.aload_n 0, 1) := by decide +kernel
theorem dX7_adds_103 : decode cX7_adds 103 = .ok (.getfield 82, 3) := by decide +kernel
theorem dX7_adds_106 : decode cX7_adds 106 = .ok (.iload_n 3, 1) := by decide +kernel
theorem dX7_adds_107 : decode cX7_adds 107 = .ok (.iastore, 1) := by decide +kernel
theorem dX7_adds_108 : decode cX7_adds 108 = .ok (.aload_n 0, 1) := by decide +kernel
theorem dX7_adds_109 : decode cX7_adds 109 = .ok (.getfield 25, 3) := by decide +kernel
theorem dX7_adds_112 : decode cX7_adds 112 = .ok (.aload_n 0, 1) := by decide +kernel
theorem dX7_adds_113 : decode cX7_adds 113 = .ok (.getfield 82, 3) := by decide +kernel
theorem dX7_adds_116 : decode cX7_adds 116 = .ok (.iload 4, 2) := by decide +kernel
theorem dX7_adds_118 : decode cX7_adds 118 = .ok (.iastore, 1) := by decide +kernel
theorem dX7_adds_119 : decode cX7_adds 119 = .ok (.aload_n 0, 1) := by decide +kernel
theorem dX7_adds_120 : decode cX7_adds 120 = .ok (.getfield 28, 3) := by decide +kernel
theorem dX7_adds_123 : decode cX7_adds 123 = .ok (.aload_n 0, 1) := by decide +kernel
theorem dX7_adds_124 : decode cX7_adds 124 = .ok (.getfield 82, 3) := by decide +kernel
theorem dX7_adds_127 : decode cX7_adds 127 = .ok (.iload 5, 2) := by decide +kernel
theorem dX7_adds_129 : decode cX7_adds 129 = .ok (.iastore, 1) := by decide +kernel
theorem dX7_adds_130 : decode cX7_adds 130 = .ok (.aload_n 0, 1) := by decide +kernel
theorem dX7_adds_131 : decode cX7_adds 131 = .ok (.dup, 1) := by decide +kernel
theorem dX7_adds_132 : decode cX7_adds 132 = .ok (.getfield 82, 3) := by decide +kernel
theorem dX7_adds_135 : decode cX7_adds 135 = .ok (.iconst 1, 1) := by decide +kernel
theorem dX7_adds_136 : decode cX7_adds 136 = .ok (.iadd, 1) := by decide +kernel
theorem dX7_adds_137 : decode cX7_adds 137 = .ok (.putfield 82, 3) := by decide +kernel
theorem dX7_adds_140 : decode cX7_adds 140 = .ok (.aload_n 0, 1) := by decide +kernel
theorem dX7_adds_141 : decode cX7_adds 141 = .ok (.getfield 82, 3) := by decide +kernel
theorem dX7_adds_144 : decode cX7_adds 144 = .ok (.iconst 1, 1) := by decide +kernel
theorem dX7_adds_145 : decode cX7_adds 145 = .ok (.isub, 1) := by decide +kernel
theorem dX7_adds_146 : decode cX7_adds 146 = .ok (.ireturn, 1) := by decide +kernel
theorem dX7_word_0 : decode cX7_word 0 = .ok (.aload_n 0, 1) := by decide +kernel
theorem dX7_word_1 : decode cX7_word 1 = .ok (.iload_n 1, 1) := by decide +kernel
theorem dX7_word_2 : decode cX7_word 2 = .ok (.iload_n 2, 1) := by decide +kernel
theorem dX7_word_3 : decode cX7_word 3 = .ok (.iload_n 3, 1) := by decide +kernel
theorem dX7_word_4 : decode cX7_word 4 = .ok (.iload 4, 2) := by decide +kernel
theorem dX7_word_6 : decode cX7_word 6 = .ok (.iload 5, 2) := by decide +kernel
theorem dX7_word_8 : decode cX7_word 8 = .ok (.invokevirtual 86, 3) := by decide +kernel
theorem dX7_word_11 : decode cX7_word 11 = .ok (.ireturn, 1) := by decide +kernel
theorem dX7_read_0 : decode cX7_read 0 = .ok (.iload_n 1, 1) := by decide +kernel
theorem dX7_read_1 : decode cX7_read 1 = .ok (.invokestatic 90, 3) := by decide +kernel
theorem dX7_read_4 : decode cX7_read 4 = .ok (.ifCond .ne 6, 3) := by decide +kernel
theorem dX7_read_7 : decode cX7_read 7 = .ok (.bipush (-2), 2) := by decide +kernel
theorem dX7_read_9 : decode cX7_read 9 = .ok (.ireturn, 1) := by decide +kernel
theorem dX7_read_10 : decode cX7_read 10 = .ok (.aload_n 0, 1) := by decide +kernel
theorem dX7_read_11 : decode cX7_read 11 = .ok (.getfield 56, 3) := by decide +kernel
theorem dX7_read_14 : decode cX7_read 14 = .ok (.iload_n 1, 1) := by decide +kernel
theorem dX7_read_15 : decode cX7_read 15 = .ok (.baload, 1) := by decide +kernel
theorem dX7_read_16 : decode cX7_read 16 = .ok (.ifCond .ne 9, 3) := by decide +kernel
theorem dX7_read_19 : decode cX7_read 19 = .ok (.aload_n 0, 1) := by decide +kernel
theorem dX7_read_20 : decode cX7_read 20 = .ok (.iconst 1, 1) := by decide +kernel
theorem dX7_read_21 : decode cX7_read 21 = .ok (.invokevirtual 93, 3) := by decide +kernel
theorem dX7_read_24 : decode cX7_read 24 = .ok (.ireturn, 1) := by decide +kernel
theorem dX7_read_25 : decode cX7_read 25 = .ok (.iconst 0, 1) := by decide +kernel
theorem dX7_read_26 : decode cX7_read 26 = .ok (.istore_n 2, 1) := by decide +kernel
theorem dX7_read_27 : decode cX7_read 27 = .ok (.iconst 5, 1) := by decide +kernel
theorem dX7_read_28 : decode cX7_read 28 = .ok (.iload_n 2, 1) := by decide +kernel
theorem dX7_read_29 : decode cX7_read 29 = .ok (.imul, 1) := by decide +kernel
theorem dX7_read_30 : decode cX7_read 30 = .ok (.iconst 4, 1) := by decide +kernel
theorem dX7_read_31 : decode cX7_read 31 = .ok (.iadd, 1) := by decide +kernel
theorem dX7_read_32 : decode cX7_read 32 = .ok (.aload_n 0, 1) := by decide +kernel
theorem dX7_read_33 : decode cX7_read 33 = .ok (.getfield 62, 3) := by decide +kernel
theorem dX7_read_36 : decode cX7_read 36 = .ok (.iload_n 1, 1) := by decide +kernel
theorem dX7_read_37 : decode cX7_read 37 = .ok (.iaload, 1) := by decide +kernel
theorem dX7_read_38 : decode cX7_read 38 = .ok (.if_icmp .ge 65, 3) := by decide +kernel
theorem dX7_read_41 : decode cX7_read 41 = .ok (.bipush 40, 2) := by decide +kernel
theorem dX7_read_43 : decode cX7_read 43 = .ok (.iload_n 1, 1) := by decide +kernel
theorem dX7_read_44 : decode cX7_read 44 = .ok (.imul, 1) := by decide +kernel
theorem dX7_read_45 : decode cX7_read 45 = .ok (.iconst 5, 1) := by decide +kernel
theorem dX7_read_46 : decode cX7_read 46 = .ok (.iload_n 2, 1) := by decide +kernel
theorem dX7_read_47 : decode cX7_read 47 = .ok (.imul, 1) := by decide +kernel
theorem dX7_read_48 : decode cX7_read 48 = .ok (.iadd, 1) := by decide +kernel
theorem dX7_read_49 : decode cX7_read 49 = .ok (.istore_n 3, 1) := by decide +kernel
theorem dX7_read_50 : decode cX7_read 50 = .ok (.aload_n 0, 1) := by decide +kernel
theorem dX7_read_51 : decode cX7_read 51 = .ok (.aload_n 0, 1) := by decide +kernel
theorem dX7_read_52 : decode cX7_read 52 = .ok (.getfield 65, 3) := by decide +kernel
theorem dX7_read_55 : decode cX7_read 55 = .ok (.iload_n 3, 1) := by decide +kernel
theorem dX7_read_56 : decode cX7_read 56 = .ok (.iaload, 1) := by decide +kernel
theorem dX7_read_57 : decode cX7_read 57 = .ok (.aload_n 0, 1) := by decide +kernel
theorem dX7_read_58 : decode cX7_read 58 = .ok (.getfield 65, 3) := by decide +kernel
theorem dX7_read_61 : decode cX7_read 61 = .ok (.iload_n 3, 1) := by decide +kernel
theorem dX7_read_62 : decode cX7_read 62 = .ok (.iconst 1, 1) := by decide +kernel
theorem dX7_read_63 : decode cX7_read 63 = .ok (.iadd, 1) := by decide +kernel
theorem dX7_read_64 : decode cX7_read 64 = .ok (.iaload, 1) := by decide +kernel
theorem dX7_read_65 : decode cX7_read 65 = .ok (.aload_n 0, 1) := by decide +kernel
theorem dX7_read_66 : decode cX7_read 66 = .ok (.getfield 65, 3) := by decide +kernel
theorem dX7_read_69 : decode cX7_read 69 = .ok (.iload_n 3, 1) := by decide +kernel
theorem dX7_read_70 : decode cX7_read 70 = .ok (.iconst 2, 1) := by decide +kernel
theorem dX7_read_71 : decode cX7_read 71 = .ok (.iadd, 1) := by decide +kernel
theorem dX7_read_72 : decode cX7_read 72 = .ok (.iaload, 1) := by decide +kernel
theorem dX7_read_73 : decode cX7_read 73 = .ok (.aload_n 0, 1) := by decide +kernel
theorem dX7_read_74 : decode cX7_read 74 = .ok (.getfield 65, 3) := by decide +kernel
theorem dX7_read_77 : decode cX7_read 77 = .ok (.iload_n 3, 1) := by decide +kernel
theorem dX7_read_78 : decode cX7_read 78 = .ok (.iconst 3, 1) := by decide +kernel
theorem dX7_read_79 : decode cX7_read 79 = .ok (.iadd, 1) := by decide +kernel
theorem dX7_read_80 : decode cX7_read 80 = .ok (.iaload, 1) := by decide +kernel
theorem dX7_read_81 : decode cX7_read 81 = .ok (.aload_n 0, 1) := by decide +kernel
theorem dX7_read_82 : decode cX7_read 82 = .ok (.getfield 65, 3) := by decide +kernel
theorem dX7_read_85 : decode cX7_read 85 = .ok (.iload_n 3, 1) := by decide +kernel
theorem dX7_read_86 : decode cX7_read 86 = .ok (.iconst 4, 1) := by decide +kernel
theorem dX7_read_87 : decode cX7_read 87 = .ok (.iadd, 1) := by decide +kernel
theorem dX7_read_88 : decode cX7_read 88 = .ok (.iaload, 1) := by decide +kernel
theorem dX7_read_89 : decode cX7_read 89 = .ok (.invokevirtual 86, 3) := by decide +kernel
theorem dX7_read_92 : decode cX7_read 92 = .ok (.ifCond .ge 5, 3) := by decide +kernel
theorem dX7_read_95 : decode cX7_read 95 = .ok (.iload_n 2, 1) := by decide +kernel
theorem dX7_read_96 : decode cX7_read 96 = .ok (.ireturn, 1) := by decide +kernel
theorem dX7_read_97 : decode cX7_read 97 = .ok (.iinc 2 1, 3) := by decide +kernel
theorem dX7_read_100 : decode cX7_read 100 = .ok (.goto (-73), 3) := by decide +kernel
theorem dX7_read_103 : decode cX7_read 103 = .ok (.iload_n 2, 1) := by decide +kernel
theorem dX7_read_104 : decode cX7_read 104 = .ok (.ireturn, 1) := by decide +kernel
theorem dX7_isWord_0 : decode cX7_isWord 0 = .ok (.iload_n 1, 1) := by decide +kernel
theorem dX7_isWord_1 : decode cX7_isWord 1 = .ok (.iconst 0, 1) := by decide +kernel
theorem dX7_isWord_2 : decode cX7_isWord 2 = .ok (.aload_n 0, 1) := by decide +kernel
theorem dX7_isWord_3 : decode cX7_isWord 3 = .ok (.getfield 82, 3) := by decide +kernel
theorem dX7_isWord_6 : decode cX7_isWord 6 = .ok (.iconst 1, 1) := by decide +kernel
theorem dX7_isWord_7 : decode cX7_isWord 7 = .ok (.isub, 1) := by decide +kernel
theorem dX7_isWord_8 : decode cX7_isWord 8 = .ok (.invokestatic 71, 3) := by decide +kernel
theorem dX7_isWord_11 : decode cX7_isWord 11 = .ok (.ireturn, 1) := by decide +kernel
theorem dX7_all_0 : decode cX7_all 0 = .ok (.iconst 1, 1) := by decide +kernel
theorem dX7_all_1 : decode cX7_all 1 = .ok (.aload_n 0, 1) := by decide +kernel
theorem dX7_all_2 : decode cX7_all 2 = .ok (.getfield 82, 3) := by decide +kernel
theorem dX7_all_5 : decode cX7_all 5 = .ok (.ishl, 1) := by decide +kernel
theorem dX7_all_6 : decode cX7_all 6 = .ok (.iconst 1, 1) := by decide +kernel
theorem dX7_all_7 : decode cX7_all 7 = .ok (.isub, 1) := by decide +kernel
theorem dX7_all_8 : decode cX7_all 8 = .ok (.ireturn, 1) := by decide +kernel
theorem dX7_heardOnes_0 : decode cX7_heardOnes 0 = .ok (.aload_n 0, 1) := by decide +kernel
theorem dX7_heardOnes_1 : decode cX7_heardOnes 1 = .ok (.invokevirtual 97, 3) := by decide +kernel
theorem dX7_heardOnes_4 : decode cX7_heardOnes 4 = .ok (.aload_n 0, 1) := by decide +kernel
theorem dX7_heardOnes_5 : decode cX7_heardOnes 5 = .ok (.getfield 101, 3) := by decide +kernel
theorem dX7_heardOnes_8 : decode cX7_heardOnes 8 = .ok (.iconst (-1), 1) := by decide +kernel
theorem dX7_heardOnes_9 : decode cX7_heardOnes 9 = .ok (.ixor, 1) := by decide +kernel
theorem dX7_heardOnes_10 : decode cX7_heardOnes 10 = .ok (.iand, 1) := by decide +kernel
theorem dX7_heardOnes_11 : decode cX7_heardOnes 11 = .ok (.ireturn, 1) := by decide +kernel
theorem dX7_laysPossible_0 : decode cX7_laysPossible 0 = .ok (.aload_n 0, 1) := by decide +kernel
theorem dX7_laysPossible_1 : decode cX7_laysPossible 1 = .ok (.invokevirtual 79, 3) := by decide +kernel
theorem dX7_laysPossible_4 : decode cX7_laysPossible 4 = .ok (.aload_n 0, 1) := by decide +kernel
theorem dX7_laysPossible_5 : decode cX7_laysPossible 5 = .ok (.iconst 0, 1) := by decide +kernel
theorem dX7_laysPossible_6 : decode cX7_laysPossible 6 = .ok (.putfield 104, 3) := by decide +kernel
theorem dX7_laysPossible_9 : decode cX7_laysPossible 9 = .ok (.iconst 0, 1) := by decide +kernel
theorem dX7_laysPossible_10 : decode cX7_laysPossible 10 = .ok (.istore_n 1, 1) := by decide +kernel
theorem dX7_laysPossible_11 : decode cX7_laysPossible 11 = .ok (.iload_n 1, 1) := by decide +kernel
theorem dX7_laysPossible_12 : decode cX7_laysPossible 12 = .ok (.aload_n 0, 1) := by decide +kernel
theorem dX7_laysPossible_13 : decode cX7_laysPossible 13 = .ok (.getfield 82, 3) := by decide +kernel
theorem dX7_laysPossible_16 : decode cX7_laysPossible 16 = .ok (.if_icmp .ge 80, 3) := by decide +kernel
theorem dX7_laysPossible_19 : decode cX7_laysPossible 19 = .ok (.aload_n 0, 1) := by decide +kernel
theorem dX7_laysPossible_20 : decode cX7_laysPossible 20 = .ok (.getfield 16, 3) := by decide +kernel
theorem dX7_laysPossible_23 : decode cX7_laysPossible 23 = .ok (.iload_n 1, 1) := by decide +kernel
theorem dX7_laysPossible_24 : decode cX7_laysPossible 24 = .ok (.iaload, 1) := by decide +kernel
theorem dX7_laysPossible_25 : decode cX7_laysPossible 25 = .ok (.iconst 2, 1) := by decide +kernel
theorem dX7_laysPossible_26 : decode cX7_laysPossible 26 = .ok (.if_icmp .ne 64, 3) := by decide +kernel
theorem dX7_laysPossible_29 : decode cX7_laysPossible 29 = .ok (.aload_n 0, 1) := by decide +kernel
theorem dX7_laysPossible_30 : decode cX7_laysPossible 30 = .ok (.getfield 13, 3) := by decide +kernel
theorem dX7_laysPossible_33 : decode cX7_laysPossible 33 = .ok (.bipush 6, 2) := by decide +kernel
theorem dX7_laysPossible_35 : decode cX7_laysPossible 35 = .ok (.aload_n 0, 1) := by decide +kernel
theorem dX7_laysPossible_36 : decode cX7_laysPossible 36 = .ok (.getfield 22, 3) := by decide +kernel
theorem dX7_laysPossible_39 : decode cX7_laysPossible 39 = .ok (.iload_n 1, 1) := by decide +kernel
theorem dX7_laysPossible_40 : decode cX7_laysPossible 40 = .ok (.iaload, 1) := by decide +kernel
theorem dX7_laysPossible_41 : decode cX7_laysPossible 41 = .ok (.imul, 1) := by decide +kernel
theorem dX7_laysPossible_42 : decode cX7_laysPossible 42 = .ok (.aload_n 0, 1) := by decide +kernel
theorem dX7_laysPossible_43 : decode cX7_laysPossible 43 = .ok (.getfield 22, 3) := by decide +kernel
theorem dX7_laysPossible_46 : decode cX7_laysPossible 46 = .ok (.aload_n 0, 1) := by decide +kernel
theorem dX7_laysPossible_47 : decode cX7_laysPossible 47 = .ok (.getfield 28, 3) := by decide +kernel
theorem dX7_laysPossible_50 : decode cX7_laysPossible 50 = .ok (.iload_n 1, 1) := by decide +kernel
theorem dX7_laysPossible_51 : decode cX7_laysPossible 51 = .ok (.iaload, 1) := by decide +kernel
theorem dX7_laysPossible_52 : decode cX7_laysPossible 52 = .ok (.iaload, 1) := by decide +kernel
theorem dX7_laysPossible_53 : decode cX7_laysPossible 53 = .ok (.iadd, 1) := by decide +kernel
theorem dX7_laysPossible_54 : decode cX7_laysPossible 54 = .ok (.iaload, 1) := by decide +kernel
theorem dX7_laysPossible_55 : decode cX7_laysPossible 55 = .ok (.aload_n 0, 1) := by decide +kernel
theorem dX7_laysPossible_56 : decode cX7_laysPossible 56 = .ok (.getfield 25, 3) := by decide +kernel
theorem dX7_laysPossible_59 : decode cX7_laysPossible 59 = .ok (.iload_n 1, 1) := by decide +kernel
theorem dX7_laysPossible_60 : decode cX7_laysPossible 60 = .ok (.iaload, 1) := by decide +kernel
theorem dX7_laysPossible_61 : decode cX7_laysPossible 61 = .ok (.aload_n 0, 1) := by decide +kernel
theorem dX7_laysPossible_62 : decode cX7_laysPossible 62 = .ok (.getfield 25, 3) := by decide +kernel
theorem dX7_laysPossible_65 : decode cX7_laysPossible 65 = .ok (.aload_n 0, 1) := by decide +kernel
theorem dX7_laysPossible_66 : decode cX7_laysPossible 66 = .ok (.getfield 28, 3) := by decide +kernel
theorem dX7_laysPossible_69 : decode cX7_laysPossible 69 = .ok (.iload_n 1, 1) := by decide +kernel
theorem dX7_laysPossible_70 : decode cX7_laysPossible 70 = .ok (.iaload, 1) := by decide +kernel
theorem dX7_laysPossible_71 : decode cX7_laysPossible 71 = .ok (.iaload, 1) := by decide +kernel
theorem dX7_laysPossible_72 : decode cX7_laysPossible 72 = .ok (.invokestatic 107, 3) := by decide +kernel
theorem dX7_laysPossible_75 : decode cX7_laysPossible 75 = .ok (.if_icmp .le 15, 3) := by decide +kernel
theorem dX7_laysPossible_78 : decode cX7_laysPossible 78 = .ok (.aload_n 0, 1) := by decide +kernel
theorem dX7_laysPossible_79 : decode cX7_laysPossible 79 = .ok (.dup, 1) := by decide +kernel
theorem dX7_laysPossible_80 : decode cX7_laysPossible 80 = .ok (.getfield 104, 3) := by decide +kernel
theorem dX7_laysPossible_83 : decode cX7_laysPossible 83 = .ok (.iconst 1, 1) := by decide +kernel
theorem dX7_laysPossible_84 : decode cX7_laysPossible 84 = .ok (.iload_n 1, 1) := by decide +kernel
theorem dX7_laysPossible_85 : decode cX7_laysPossible 85 = .ok (.ishl, 1) := by decide +kernel
theorem dX7_laysPossible_86 : decode cX7_laysPossible 86 = .ok (.ior, 1) := by decide +kernel
theorem dX7_laysPossible_87 : decode cX7_laysPossible 87 = .ok (.putfield 104, 3) := by decide +kernel
theorem dX7_laysPossible_90 : decode cX7_laysPossible 90 = .ok (.iinc 1 1, 3) := by decide +kernel
theorem dX7_laysPossible_93 : decode cX7_laysPossible 93 = .ok (.goto (-82), 3) := by decide +kernel
theorem dX7_laysPossible_96 : decode cX7_laysPossible 96 = .ok (.return_, 1) := by decide +kernel
theorem dX7_isNow_0 : decode cX7_isNow 0 = .ok (.iload_n 2, 1) := by decide +kernel
theorem dX7_isNow_1 : decode cX7_isNow 1 = .ok (.tableswitch 83 0 5 #[39, 46, 53, 60, 67, 74], 39) := by decide +kernel
theorem dX7_isNow_40 : decode cX7_isNow 40 = .ok (.aload_n 0, 1) := by decide +kernel
theorem dX7_isNow_41 : decode cX7_isNow 41 = .ok (.getfield 16, 3) := by decide +kernel
theorem dX7_isNow_44 : decode cX7_isNow 44 = .ok (.iload_n 1, 1) := by decide +kernel
theorem dX7_isNow_45 : decode cX7_isNow 45 = .ok (.iaload, 1) := by decide +kernel
theorem dX7_isNow_46 : decode cX7_isNow 46 = .ok (.ireturn, 1) := by decide +kernel
theorem dX7_isNow_47 : decode cX7_isNow 47 = .ok (.aload_n 0, 1) := by decide +kernel
theorem dX7_isNow_48 : decode cX7_isNow 48 = .ok (.getfield 19, 3) := by decide +kernel
theorem dX7_isNow_51 : decode cX7_isNow 51 = .ok (.iload_n 1, 1) := by decide +kernel
theorem dX7_isNow_52 : decode cX7_isNow 52 = .ok (.iaload, 1) := by decide +kernel
theorem dX7_isNow_53 : decode cX7_isNow 53 = .ok (.ireturn, 1) := by decide +kernel
theorem dX7_isNow_54 : decode cX7_isNow 54 = .ok (.aload_n 0, 1) := by decide +kernel
theorem dX7_isNow_55 : decode cX7_isNow 55 = .ok (.getfield 22, 3) := by decide +kernel
theorem dX7_isNow_58 : decode cX7_isNow 58 = .ok (.iload_n 1, 1) := by decide +kernel
theorem dX7_isNow_59 : decode cX7_isNow 59 = .ok (.iaload, 1) := by decide +kernel
theorem dX7_isNow_60 : decode cX7_isNow 60 = .ok (.ireturn, 1) := by decide +kernel
theorem dX7_isNow_61 : decode cX7_isNow 61 = .ok (.aload_n 0, 1) := by decide +kernel
theorem dX7_isNow_62 : decode cX7_isNow 62 = .ok (.getfield 25, 3) := by decide +kernel
theorem dX7_isNow_65 : decode cX7_isNow 65 = .ok (.iload_n 1, 1) := by decide +kernel
theorem dX7_isNow_66 : decode cX7_isNow 66 = .ok (.iaload, 1) := by decide +kernel
theorem dX7_isNow_67 : decode cX7_isNow 67 = .ok (.ireturn, 1) := by decide +kernel
theorem dX7_isNow_68 : decode cX7_isNow 68 = .ok (.aload_n 0, 1) := by decide +kernel
theorem dX7_isNow_69 : decode cX7_isNow 69 = .ok (.getfield 28, 3) := by decide +kernel
theorem dX7_isNow_72 : decode cX7_isNow 72 = .ok (.iload_n 1, 1) := by decide +kernel
theorem dX7_isNow_73 : decode cX7_isNow 73 = .ok (.iaload, 1) := by decide +kernel
theorem dX7_isNow_74 : decode cX7_isNow 74 = .ok (.ireturn, 1) := by decide +kernel
theorem dX7_isNow_75 : decode cX7_isNow 75 = .ok (.aload_n 0, 1) := by decide +kernel
theorem dX7_isNow_76 : decode cX7_isNow 76 = .ok (.getfield 101, 3) := by decide +kernel
theorem dX7_isNow_79 : decode cX7_isNow 79 = .ok (.iload_n 1, 1) := by decide +kernel
theorem dX7_isNow_80 : decode cX7_isNow 80 = .ok (.ishr, 1) := by decide +kernel
theorem dX7_isNow_81 : decode cX7_isNow 81 = .ok (.iconst 1, 1) := by decide +kernel
theorem dX7_isNow_82 : decode cX7_isNow 82 = .ok (.iand, 1) := by decide +kernel
theorem dX7_isNow_83 : decode cX7_isNow 83 = .ok (.ireturn, 1) := by decide +kernel
theorem dX7_isNow_84 : decode cX7_isNow 84 = .ok (.aload_n 0, 1) := by decide +kernel
theorem dX7_isNow_85 : decode cX7_isNow 85 = .ok (.getfield 104, 3) := by decide +kernel
theorem dX7_isNow_88 : decode cX7_isNow 88 = .ok (.iload_n 1, 1) := by decide +kernel
theorem dX7_isNow_89 : decode cX7_isNow 89 = .ok (.ishr, 1) := by decide +kernel
theorem dX7_isNow_90 : decode cX7_isNow 90 = .ok (.iconst 1, 1) := by decide +kernel
theorem dX7_isNow_91 : decode cX7_isNow 91 = .ok (.iand, 1) := by decide +kernel
theorem dX7_isNow_92 : decode cX7_isNow 92 = .ok (.ireturn, 1) := by decide +kernel
theorem dX7_is_0 : decode cX7_is 0 = .ok (.aload_n 0, 1) := by decide +kernel
theorem dX7_is_1 : decode cX7_is 1 = .ok (.iload_n 1, 1) := by decide +kernel
theorem dX7_is_2 : decode cX7_is 2 = .ok (.invokevirtual 111, 3) := by decide +kernel
theorem dX7_is_5 : decode cX7_is 5 = .ok (.ifCond .eq 13, 3) := by decide +kernel
theorem dX7_is_8 : decode cX7_is 8 = .ok (.iload_n 2, 1) := by decide +kernel
theorem dX7_is_9 : decode cX7_is 9 = .ok (.iconst 0, 1) := by decide +kernel
theorem dX7_is_10 : decode cX7_is 10 = .ok (.bipush 6, 2) := by decide +kernel
theorem dX7_is_12 : decode cX7_is 12 = .ok (.invokestatic 71, 3) := by decide +kernel
theorem dX7_is_15 : decode cX7_is 15 = .ok (.ifCond .ne 6, 3) := by decide +kernel
theorem dX7_is_18 : decode cX7_is 18 = .ok (.bipush (-2), 2) := by decide +kernel
theorem dX7_is_20 : decode cX7_is 20 = .ok (.ireturn, 1) := by decide +kernel
theorem dX7_is_21 : decode cX7_is 21 = .ok (.aload_n 0, 1) := by decide +kernel
theorem dX7_is_22 : decode cX7_is 22 = .ok (.invokevirtual 114, 3) := by decide +kernel
theorem dX7_is_25 : decode cX7_is 25 = .ok (.aload_n 0, 1) := by decide +kernel
theorem dX7_is_26 : decode cX7_is 26 = .ok (.iload_n 1, 1) := by decide +kernel
theorem dX7_is_27 : decode cX7_is 27 = .ok (.iload_n 2, 1) := by decide +kernel
theorem dX7_is_28 : decode cX7_is 28 = .ok (.invokevirtual 117, 3) := by decide +kernel
theorem dX7_is_31 : decode cX7_is 31 = .ok (.ireturn, 1) := by decide +kernel
theorem dX7_keep_0 : decode cX7_keep 0 = .ok (.iload_n 1, 1) := by decide +kernel
theorem dX7_keep_1 : decode cX7_keep 1 = .ok (.iconst 0, 1) := by decide +kernel
theorem dX7_keep_2 : decode cX7_keep 2 = .ok (.aload_n 0, 1) := by decide +kernel
theorem dX7_keep_3 : decode cX7_keep 3 = .ok (.invokevirtual 97, 3) := by decide +kernel
theorem dX7_keep_6 : decode cX7_keep 6 = .ok (.invokestatic 71, 3) := by decide +kernel
theorem dX7_keep_9 : decode cX7_keep 9 = .ok (.ifCond .ne 6, 3) := by decide +kernel
theorem dX7_keep_12 : decode cX7_keep 12 = .ok (.bipush (-2), 2) := by decide +kernel
theorem dX7_keep_14 : decode cX7_keep 14 = .ok (.ireturn, 1) := by decide +kernel
theorem dX7_keep_15 : decode cX7_keep 15 = .ok (.aload_n 0, 1) := by decide +kernel
theorem dX7_keep_16 : decode cX7_keep 16 = .ok (.getfield 101, 3) := by decide +kernel
theorem dX7_keep_19 : decode cX7_keep 19 = .ok (.istore_n 2, 1) := by decide +kernel
theorem dX7_keep_20 : decode cX7_keep 20 = .ok (.aload_n 0, 1) := by decide +kernel
theorem dX7_keep_21 : decode cX7_keep 21 = .ok (.iload_n 1, 1) := by decide +kernel
theorem dX7_keep_22 : decode cX7_keep 22 = .ok (.putfield 101, 3) := by decide +kernel
theorem dX7_keep_25 : decode cX7_keep 25 = .ok (.iload_n 2, 1) := by decide +kernel
theorem dX7_keep_26 : decode cX7_keep 26 = .ok (.ireturn, 1) := by decide +kernel
theorem dX7_isLaw_0 : decode cX7_isLaw 0 = .ok (.iload_n 0, 1) := by decide +kernel
theorem dX7_isLaw_1 : decode cX7_isLaw 1 = .ok (.iconst 0, 1) := by decide +kernel
theorem dX7_isLaw_2 : decode cX7_isLaw 2 = .ok (.iconst 1, 1) := by decide +kernel
theorem dX7_isLaw_3 : decode cX7_isLaw 3 = .ok (.invokestatic 71, 3) := by decide +kernel
theorem dX7_isLaw_6 : decode cX7_isLaw 6 = .ok (.ireturn, 1) := by decide +kernel
theorem dX7_type_0 : decode cX7_type 0 = .ok (.iload_n 1, 1) := by decide +kernel
theorem dX7_type_1 : decode cX7_type 1 = .ok (.invokestatic 120, 3) := by decide +kernel
theorem dX7_type_4 : decode cX7_type 4 = .ok (.ifCond .eq 14, 3) := by decide +kernel
theorem dX7_type_7 : decode cX7_type 7 = .ok (.iload_n 2, 1) := by decide +kernel
theorem dX7_type_8 : decode cX7_type 8 = .ok (.iconst 0, 1) := by decide +kernel
theorem dX7_type_9 : decode cX7_type 9 = .ok (.sipush 255, 3) := by decide +kernel
theorem dX7_type_12 : decode cX7_type 12 = .ok (.invokestatic 71, 3) := by decide +kernel
theorem dX7_type_15 : decode cX7_type 15 = .ok (.ifCond .ne 6, 3) := by decide +kernel
theorem dX7_type_18 : decode cX7_type 18 = .ok (.bipush (-2), 2) := by decide +kernel
theorem dX7_type_20 : decode cX7_type 20 = .ok (.ireturn, 1) := by decide +kernel
theorem dX7_type_21 : decode cX7_type 21 = .ok (.aload_n 0, 1) := by decide +kernel
theorem dX7_type_22 : decode cX7_type 22 = .ok (.getfield 31, 3) := by decide +kernel
theorem dX7_type_25 : decode cX7_type 25 = .ok (.iload_n 1, 1) := by decide +kernel
theorem dX7_type_26 : decode cX7_type 26 = .ok (.iaload, 1) := by decide +kernel
theorem dX7_type_27 : decode cX7_type 27 = .ok (.bipush 40, 2) := by decide +kernel
theorem dX7_type_29 : decode cX7_type 29 = .ok (.if_icmp .ne 6, 3) := by decide +kernel
theorem dX7_type_32 : decode cX7_type 32 = .ok (.bipush (-4), 2) := by decide +kernel
theorem dX7_type_34 : decode cX7_type 34 = .ok (.ireturn, 1) := by decide +kernel
theorem dX7_type_35 : decode cX7_type 35 = .ok (.aload_n 0, 1) := by decide +kernel
theorem dX7_type_36 : decode cX7_type 36 = .ok (.getfield 34, 3) := by decide +kernel
theorem dX7_type_39 : decode cX7_type 39 = .ok (.bipush 40, 2) := by decide +kernel
theorem dX7_type_41 : decode cX7_type 41 = .ok (.iload_n 1, 1) := by decide +kernel
theorem dX7_type_42 : decode cX7_type 42 = .ok (.imul, 1) := by decide +kernel
theorem dX7_type_43 : decode cX7_type 43 = .ok (.aload_n 0, 1) := by decide +kernel
theorem dX7_type_44 : decode cX7_type 44 = .ok (.getfield 31, 3) := by decide +kernel
theorem dX7_type_47 : decode cX7_type 47 = .ok (.iload_n 1, 1) := by decide +kernel
theorem dX7_type_48 : decode cX7_type 48 = .ok (.iaload, 1) := by decide +kernel
theorem dX7_type_49 : decode cX7_type 49 = .ok (.iadd, 1) := by decide +kernel
theorem dX7_type_50 : decode cX7_type 50 = .ok (.iload_n 2, 1) := by decide +kernel
theorem dX7_type_51 : decode cX7_type 51 = .ok (.iastore, 1) := by decide +kernel
theorem dX7_type_52 : decode cX7_type 52 = .ok (.aload_n 0, 1) := by decide +kernel
theorem dX7_type_53 : decode cX7_type 53 = .ok (.getfield 31, 3) := by decide +kernel
theorem dX7_type_56 : decode cX7_type 56 = .ok (.iload_n 1, 1) := by decide +kernel
theorem dX7_type_57 : decode cX7_type 57 = .ok (.dup2, 1) := by decide +kernel
theorem dX7_type_58 : decode cX7_type 58 = .ok (.iaload, 1) := by decide +kernel
theorem dX7_type_59 : decode cX7_type 59 = .ok (.iconst 1, 1) := by decide +kernel
theorem dX7_type_60 : decode cX7_type 60 = .ok (.iadd, 1) := by decide +kernel
theorem dX7_type_61 : decode cX7_type 61 = .ok (.iastore, 1) := by decide +kernel
theorem dX7_type_62 : decode cX7_type 62 = .ok (.aload_n 0, 1) := by decide +kernel
theorem dX7_type_63 : decode cX7_type 63 = .ok (.getfield 31, 3) := by decide +kernel
theorem dX7_type_66 : decode cX7_type 66 = .ok (.iload_n 1, 1) := by decide +kernel
theorem dX7_type_67 : decode cX7_type 67 = .ok (.iaload, 1) := by decide +kernel
theorem dX7_type_68 : decode cX7_type 68 = .ok (.ireturn, 1) := by decide +kernel
theorem dX7_wipe_0 : decode cX7_wipe 0 = .ok (.iload_n 1, 1) := by decide +kernel
theorem dX7_wipe_1 : decode cX7_wipe 1 = .ok (.invokestatic 120, 3) := by decide +kernel
theorem dX7_wipe_4 : decode cX7_wipe 4 = .ok (.ifCond .ne 6, 3) := by decide +kernel
theorem dX7_wipe_7 : decode cX7_wipe 7 = .ok (.bipush (-2), 2) := by decide +kernel
theorem dX7_wipe_9 : decode cX7_wipe 9 = .ok (.ireturn, 1) := by decide +kernel
theorem dX7_wipe_10 : decode cX7_wipe 10 = .ok (.aload_n 0, 1) := by decide +kernel
theorem dX7_wipe_11 : decode cX7_wipe 11 = .ok (.getfield 31, 3) := by decide +kernel
theorem dX7_wipe_14 : decode cX7_wipe 14 = .ok (.iload_n 1, 1) := by decide +kernel
theorem dX7_wipe_15 : decode cX7_wipe 15 = .ok (.iaload, 1) := by decide +kernel
theorem dX7_wipe_16 : decode cX7_wipe 16 = .ok (.istore_n 2, 1) := by decide +kernel
theorem dX7_wipe_17 : decode cX7_wipe 17 = .ok (.aload_n 0, 1) := by decide +kernel
theorem dX7_wipe_18 : decode cX7_wipe 18 = .ok (.getfield 31, 3) := by decide +kernel
theorem dX7_wipe_21 : decode cX7_wipe 21 = .ok (.iload_n 1, 1) := by decide +kernel
theorem dX7_wipe_22 : decode cX7_wipe 22 = .ok (.iconst 0, 1) := by decide +kernel
theorem dX7_wipe_23 : decode cX7_wipe 23 = .ok (.iastore, 1) := by decide +kernel
theorem dX7_wipe_24 : decode cX7_wipe 24 = .ok (.iload_n 2, 1) := by decide +kernel
theorem dX7_wipe_25 : decode cX7_wipe 25 = .ok (.ireturn, 1) := by decide +kernel
theorem dX7_byteAt_0 : decode cX7_byteAt 0 = .ok (.iload_n 2, 1) := by decide +kernel
theorem dX7_byteAt_1 : decode cX7_byteAt 1 = .ok (.aload_n 0, 1) := by decide +kernel
theorem dX7_byteAt_2 : decode cX7_byteAt 2 = .ok (.getfield 31, 3) := by decide +kernel
theorem dX7_byteAt_5 : decode cX7_byteAt 5 = .ok (.iload_n 1, 1) := by decide +kernel
theorem dX7_byteAt_6 : decode cX7_byteAt 6 = .ok (.iaload, 1) := by decide +kernel
theorem dX7_byteAt_7 : decode cX7_byteAt 7 = .ok (.if_icmp .ge 17, 3) := by decide +kernel
theorem dX7_byteAt_10 : decode cX7_byteAt 10 = .ok (.aload_n 0, 1) := by decide +kernel
theorem dX7_byteAt_11 : decode cX7_byteAt 11 = .ok (.getfield 34, 3) := by decide +kernel
theorem dX7_byteAt_14 : decode cX7_byteAt 14 = .ok (.bipush 40, 2) := by decide +kernel
theorem dX7_byteAt_16 : decode cX7_byteAt 16 = .ok (.iload_n 1, 1) := by decide +kernel
theorem dX7_byteAt_17 : decode cX7_byteAt 17 = .ok (.imul, 1) := by decide +kernel
theorem dX7_byteAt_18 : decode cX7_byteAt 18 = .ok (.iload_n 2, 1) := by decide +kernel
theorem dX7_byteAt_19 : decode cX7_byteAt 19 = .ok (.iadd, 1) := by decide +kernel
theorem dX7_byteAt_20 : decode cX7_byteAt 20 = .ok (.iaload, 1) := by decide +kernel
theorem dX7_byteAt_21 : decode cX7_byteAt 21 = .ok (.goto 4, 3) := by decide +kernel
theorem dX7_byteAt_24 : decode cX7_byteAt 24 = .ok (.iconst (-1), 1) := by decide +kernel
theorem dX7_byteAt_25 : decode cX7_byteAt 25 = .ok (.ireturn, 1) := by decide +kernel
theorem dX7_plain_0 : decode cX7_plain 0 = .ok (.aload_n 0, 1) := by decide +kernel
theorem dX7_plain_1 : decode cX7_plain 1 = .ok (.getfield 40, 3) := by decide +kernel
theorem dX7_plain_4 : decode cX7_plain 4 = .ok (.iconst 4, 1) := by decide +kernel
theorem dX7_plain_5 : decode cX7_plain 5 = .ok (.iload_n 1, 1) := by decide +kernel
theorem dX7_plain_6 : decode cX7_plain 6 = .ok (.imul, 1) := by decide +kernel
theorem dX7_plain_7 : decode cX7_plain 7 = .ok (.iconst 2, 1) := by decide +kernel
theorem dX7_plain_8 : decode cX7_plain 8 = .ok (.iastore, 1) := by decide +kernel
theorem dX7_plain_9 : decode cX7_plain 9 = .ok (.aload_n 0, 1) := by decide +kernel
theorem dX7_plain_10 : decode cX7_plain 10 = .ok (.getfield 40, 3) := by decide +kernel
theorem dX7_plain_13 : decode cX7_plain 13 = .ok (.iconst 4, 1) := by decide +kernel
theorem dX7_plain_14 : decode cX7_plain 14 = .ok (.iload_n 1, 1) := by decide +kernel
theorem dX7_plain_15 : decode cX7_plain 15 = .ok (.imul, 1) := by decide +kernel
theorem dX7_plain_16 : decode cX7_plain 16 = .ok (.iconst 1, 1) := by decide +kernel
theorem dX7_plain_17 : decode cX7_plain 17 = .ok (.iadd, 1) := by decide +kernel
theorem dX7_plain_18 : decode cX7_plain 18 = .ok (.iconst 0, 1) := by decide +kernel
theorem dX7_plain_19 : decode cX7_plain 19 = .ok (.iastore, 1) := by decide +kernel
theorem dX7_plain_20 : decode cX7_plain 20 = .ok (.aload_n 0, 1) := by decide +kernel
theorem dX7_plain_21 : decode cX7_plain 21 = .ok (.getfield 40, 3) := by decide +kernel
theorem dX7_plain_24 : decode cX7_plain 24 = .ok (.iconst 4, 1) := by decide +kernel
theorem dX7_plain_25 : decode cX7_plain 25 = .ok (.iload_n 1, 1) := by decide +kernel
theorem dX7_plain_26 : decode cX7_plain 26 = .ok (.imul, 1) := by decide +kernel
theorem dX7_plain_27 : decode cX7_plain 27 = .ok (.iconst 2, 1) := by decide +kernel
theorem dX7_plain_28 : decode cX7_plain 28 = .ok (.iadd, 1) := by decide +kernel
theorem dX7_plain_29 : decode cX7_plain 29 = .ok (.iconst 0, 1) := by decide +kernel
theorem dX7_plain_30 : decode cX7_plain 30 = .ok (.iastore, 1) := by decide +kernel
theorem dX7_plain_31 : decode cX7_plain 31 = .ok (.aload_n 0, 1) := by decide +kernel
theorem dX7_plain_32 : decode cX7_plain 32 = .ok (.getfield 40, 3) := by decide +kernel
theorem dX7_plain_35 : decode cX7_plain 35 = .ok (.iconst 4, 1) := by decide +kernel
theorem dX7_plain_36 : decode cX7_plain 36 = .ok (.iload_n 1, 1) := by decide +kernel
theorem dX7_plain_37 : decode cX7_plain 37 = .ok (.imul, 1) := by decide +kernel
theorem dX7_plain_38 : decode cX7_plain 38 = .ok (.iconst 3, 1) := by decide +kernel
theorem dX7_plain_39 : decode cX7_plain 39 = .ok (.iadd, 1) := by decide +kernel
theorem dX7_plain_40 : decode cX7_plain 40 = .ok (.iconst 0, 1) := by decide +kernel
theorem dX7_plain_41 : decode cX7_plain 41 = .ok (.iastore, 1) := by decide +kernel
theorem dX7_plain_42 : decode cX7_plain 42 = .ok (.return_, 1) := by decide +kernel
theorem dX7_faultOf_0 : decode cX7_faultOf 0 = .ok (.aload_n 0, 1) := by decide +kernel
theorem dX7_faultOf_1 : decode cX7_faultOf 1 = .ok (.iload_n 1, 1) := by decide +kernel
theorem dX7_faultOf_2 : decode cX7_faultOf 2 = .ok (.invokevirtual 123, 3) := by decide +kernel
theorem dX7_faultOf_5 : decode cX7_faultOf 5 = .ok (.iconst 0, 1) := by decide +kernel
theorem dX7_faultOf_6 : decode cX7_faultOf 6 = .ok (.istore_n 2, 1) := by decide +kernel
theorem dX7_faultOf_7 : decode cX7_faultOf 7 = .ok (.aload_n 0, 1) := by decide +kernel
theorem dX7_faultOf_8 : decode cX7_faultOf 8 = .ok (.getfield 31, 3) := by decide +kernel
theorem dX7_faultOf_11 : decode cX7_faultOf 11 = .ok (.iload_n 1, 1) := by decide +kernel
theorem dX7_faultOf_12 : decode cX7_faultOf 12 = .ok (.iaload, 1) := by decide +kernel
theorem dX7_faultOf_13 : decode cX7_faultOf 13 = .ok (.ifCond .le 180, 3) := by decide +kernel
theorem dX7_faultOf_16 : decode cX7_faultOf 16 = .ok (.aload_n 0, 1) := by decide +kernel
theorem dX7_faultOf_17 : decode cX7_faultOf 17 = .ok (.iload_n 1, 1) := by decide +kernel
theorem dX7_faultOf_18 : decode cX7_faultOf 18 = .ok (.iload_n 2, 1) := by decide +kernel
theorem dX7_faultOf_19 : decode cX7_faultOf 19 = .ok (.invokevirtual 127, 3) := by decide +kernel
theorem dX7_faultOf_22 : decode cX7_faultOf 22 = .ok (.istore_n 3, 1) := by decide +kernel
theorem dX7_faultOf_23 : decode cX7_faultOf 23 = .ok (.iload_n 3, 1) := by decide +kernel
theorem dX7_faultOf_24 : decode cX7_faultOf 24 = .ok (.bipush 103, 2) := by decide +kernel
theorem dX7_faultOf_26 : decode cX7_faultOf 26 = .ok (.if_icmp .ne 7, 3) := by decide +kernel
theorem dX7_faultOf_29 : decode cX7_faultOf 29 = .ok (.iconst 0, 1) := by decide +kernel
theorem dX7_faultOf_30 : decode cX7_faultOf 30 = .ok (.goto 34, 3) := by decide +kernel
theorem dX7_faultOf_33 : decode cX7_faultOf 33 = .ok (.iload_n 3, 1) := by decide +kernel
theorem dX7_faultOf_34 : decode cX7_faultOf 34 = .ok (.bipush 99, 2) := by decide +kernel
theorem dX7_faultOf_36 : decode cX7_faultOf 36 = .ok (.if_icmp .ne 7, 3) := by decide +kernel
theorem dX7_faultOf_39 : decode cX7_faultOf 39 = .ok (.iconst 1, 1) := by decide +kernel
theorem dX7_faultOf_40 : decode cX7_faultOf 40 = .ok (.goto 24, 3) := by decide +kernel
theorem dX7_faultOf_43 : decode cX7_faultOf 43 = .ok (.iload_n 3, 1) := by decide +kernel
theorem dX7_faultOf_44 : decode cX7_faultOf 44 = .ok (.bipush 101, 2) := by decide +kernel
theorem dX7_faultOf_46 : decode cX7_faultOf 46 = .ok (.if_icmp .ne 7, 3) := by decide +kernel
theorem dX7_faultOf_49 : decode cX7_faultOf 49 = .ok (.iconst 2, 1) := by decide +kernel
theorem dX7_faultOf_50 : decode cX7_faultOf 50 = .ok (.goto 14, 3) := by decide +kernel
theorem dX7_faultOf_53 : decode cX7_faultOf 53 = .ok (.iload_n 3, 1) := by decide +kernel
theorem dX7_faultOf_54 : decode cX7_faultOf 54 = .ok (.bipush 112, 2) := by decide +kernel
theorem dX7_faultOf_56 : decode cX7_faultOf 56 = .ok (.if_icmp .ne 7, 3) := by decide +kernel
theorem dX7_faultOf_59 : decode cX7_faultOf 59 = .ok (.iconst 3, 1) := by decide +kernel
theorem dX7_faultOf_60 : decode cX7_faultOf 60 = .ok (.goto 4, 3) := by decide +kernel
theorem dX7_faultOf_63 : decode cX7_faultOf 63 = .ok (.iconst (-1), 1) := by decide +kernel
theorem dX7_faultOf_64 : decode cX7_faultOf 64 = .ok (.istore 4, 2) := by decide +kernel
theorem dX7_faultOf_66 : decode cX7_faultOf 66 = .ok (.iload 4, 2) := by decide +kernel
theorem dX7_faultOf_68 : decode cX7_faultOf 68 = .ok (.iconst (-1), 1) := by decide +kernel
theorem dX7_faultOf_69 : decode cX7_faultOf 69 = .ok (.if_icmp .ne 5, 3) := by decide +kernel
theorem dX7_faultOf_72 : decode cX7_faultOf 72 = .ok (.iload_n 2, 1) := by decide +kernel
theorem dX7_faultOf_73 : decode cX7_faultOf 73 = .ok (.ireturn, 1) := by decide +kernel
theorem dX7_faultOf_74 : decode cX7_faultOf 74 = .ok (.aload_n 0, 1) := by decide +kernel
theorem dX7_faultOf_75 : decode cX7_faultOf 75 = .ok (.iload_n 1, 1) := by decide +kernel
theorem dX7_faultOf_76 : decode cX7_faultOf 76 = .ok (.iload_n 2, 1) := by decide +kernel
theorem dX7_faultOf_77 : decode cX7_faultOf 77 = .ok (.iconst 1, 1) := by decide +kernel
theorem dX7_faultOf_78 : decode cX7_faultOf 78 = .ok (.iadd, 1) := by decide +kernel
theorem dX7_faultOf_79 : decode cX7_faultOf 79 = .ok (.invokevirtual 127, 3) := by decide +kernel
theorem dX7_faultOf_82 : decode cX7_faultOf 82 = .ok (.bipush 61, 2) := by decide +kernel
theorem dX7_faultOf_84 : decode cX7_faultOf 84 = .ok (.if_icmp .eq 7, 3) := by decide +kernel
theorem dX7_faultOf_87 : decode cX7_faultOf 87 = .ok (.iload_n 2, 1) := by decide +kernel
theorem dX7_faultOf_88 : decode cX7_faultOf 88 = .ok (.iconst 1, 1) := by decide +kernel
theorem dX7_faultOf_89 : decode cX7_faultOf 89 = .ok (.iadd, 1) := by decide +kernel
theorem dX7_faultOf_90 : decode cX7_faultOf 90 = .ok (.ireturn, 1) := by decide +kernel
theorem dX7_faultOf_91 : decode cX7_faultOf 91 = .ok (.aload_n 0, 1) := by decide +kernel
theorem dX7_faultOf_92 : decode cX7_faultOf 92 = .ok (.iload_n 1, 1) := by decide +kernel
theorem dX7_faultOf_93 : decode cX7_faultOf 93 = .ok (.iload_n 2, 1) := by decide +kernel
theorem dX7_faultOf_94 : decode cX7_faultOf 94 = .ok (.iconst 2, 1) := by decide +kernel
theorem dX7_faultOf_95 : decode cX7_faultOf 95 = .ok (.iadd, 1) := by decide +kernel
theorem dX7_faultOf_96 : decode cX7_faultOf 96 = .ok (.invokevirtual 127, 3) := by decide +kernel
theorem dX7_faultOf_99 : decode cX7_faultOf 99 = .ok (.bipush 48, 2) := by decide +kernel
theorem dX7_faultOf_101 : decode cX7_faultOf 101 = .ok (.isub, 1) := by decide +kernel
theorem dX7_faultOf_102 : decode cX7_faultOf 102 = .ok (.istore 5, 2) := by decide +kernel
theorem dX7_faultOf_104 : decode cX7_faultOf 104 = .ok (.iload 5, 2) := by decide +kernel
theorem dX7_faultOf_106 : decode cX7_faultOf 106 = .ok (.iload 4, 2) := by decide +kernel
theorem dX7_faultOf_108 : decode cX7_faultOf 108 = .ok (.ifCond .ne 7, 3) := by decide +kernel
theorem dX7_faultOf_111 : decode cX7_faultOf 111 = .ok (.iconst 1, 1) := by decide +kernel
theorem dX7_faultOf_112 : decode cX7_faultOf 112 = .ok (.goto 4, 3) := by decide +kernel
theorem dX7_faultOf_115 : decode cX7_faultOf 115 = .ok (.iconst 0, 1) := by decide +kernel
theorem dX7_faultOf_116 : decode cX7_faultOf 116 = .ok (.iload 4, 2) := by decide +kernel
theorem dX7_faultOf_118 : decode cX7_faultOf 118 = .ok (.ifCond .ne 7, 3) := by decide +kernel
theorem dX7_faultOf_121 : decode cX7_faultOf 121 = .ok (.iconst 4, 1) := by decide +kernel
theorem dX7_faultOf_122 : decode cX7_faultOf 122 = .ok (.goto 14, 3) := by decide +kernel
theorem dX7_faultOf_125 : decode cX7_faultOf 125 = .ok (.iload 4, 2) := by decide +kernel
theorem dX7_faultOf_127 : decode cX7_faultOf 127 = .ok (.iconst 1, 1) := by decide +kernel
theorem dX7_faultOf_128 : decode cX7_faultOf 128 = .ok (.if_icmp .ne 7, 3) := by decide +kernel
theorem dX7_faultOf_131 : decode cX7_faultOf 131 = .ok (.iconst 2, 1) := by decide +kernel
theorem dX7_faultOf_132 : decode cX7_faultOf 132 = .ok (.goto 4, 3) := by decide +kernel
theorem dX7_faultOf_135 : decode cX7_faultOf 135 = .ok (.iconst 1, 1) := by decide +kernel
theorem dX7_faultOf_136 : decode cX7_faultOf 136 = .ok (.invokestatic 71, 3) := by decide +kernel
theorem dX7_faultOf_139 : decode cX7_faultOf 139 = .ok (.ifCond .ne 7, 3) := by decide +kernel
theorem dX7_faultOf_142 : decode cX7_faultOf 142 = .ok (.iload_n 2, 1) := by decide +kernel
theorem dX7_faultOf_143 : decode cX7_faultOf 143 = .ok (.iconst 2, 1) := by decide +kernel
theorem dX7_faultOf_144 : decode cX7_faultOf 144 = .ok (.iadd, 1) := by decide +kernel
theorem dX7_faultOf_145 : decode cX7_faultOf 145 = .ok (.ireturn, 1) := by decide +kernel
theorem dX7_faultOf_146 : decode cX7_faultOf 146 = .ok (.aload_n 0, 1) := by decide +kernel
theorem dX7_faultOf_147 : decode cX7_faultOf 147 = .ok (.getfield 40, 3) := by decide +kernel
theorem dX7_faultOf_150 : decode cX7_faultOf 150 = .ok (.iconst 4, 1) := by decide +kernel
theorem dX7_faultOf_151 : decode cX7_faultOf 151 = .ok (.iload_n 1, 1) := by decide +kernel
theorem dX7_faultOf_152 : decode cX7_faultOf 152 = .ok (.imul, 1) := by decide +kernel
theorem dX7_faultOf_153 : decode cX7_faultOf 153 = .ok (.iload 4, 2) := by decide +kernel
theorem dX7_faultOf_155 : decode cX7_faultOf 155 = .ok (.iadd, 1) := by decide +kernel
theorem dX7_faultOf_156 : decode cX7_faultOf 156 = .ok (.iload 5, 2) := by decide +kernel
theorem dX7_faultOf_158 : decode cX7_faultOf 158 = .ok (.iastore, 1) := by decide +kernel
theorem dX7_faultOf_159 : decode cX7_faultOf 159 = .ok (.iinc 2 3, 3) := by decide +kernel
theorem dX7_faultOf_162 : decode cX7_faultOf 162 = .ok (.iload_n 2, 1) := by decide +kernel
theorem dX7_faultOf_163 : decode cX7_faultOf 163 = .ok (.aload_n 0, 1) := by decide +kernel
theorem dX7_faultOf_164 : decode cX7_faultOf 164 = .ok (.getfield 31, 3) := by decide +kernel
theorem dX7_faultOf_167 : decode cX7_faultOf 167 = .ok (.iload_n 1, 1) := by decide +kernel
theorem dX7_faultOf_168 : decode cX7_faultOf 168 = .ok (.iaload, 1) := by decide +kernel
theorem dX7_faultOf_169 : decode cX7_faultOf 169 = .ok (.if_icmp .ne 5, 3) := by decide +kernel
theorem dX7_faultOf_172 : decode cX7_faultOf 172 = .ok (.iconst (-1), 1) := by decide +kernel
theorem dX7_faultOf_173 : decode cX7_faultOf 173 = .ok (.ireturn, 1) := by decide +kernel
theorem dX7_faultOf_174 : decode cX7_faultOf 174 = .ok (.aload_n 0, 1) := by decide +kernel
theorem dX7_faultOf_175 : decode cX7_faultOf 175 = .ok (.iload_n 1, 1) := by decide +kernel
theorem dX7_faultOf_176 : decode cX7_faultOf 176 = .ok (.iload_n 2, 1) := by decide +kernel
theorem dX7_faultOf_177 : decode cX7_faultOf 177 = .ok (.invokevirtual 127, 3) := by decide +kernel
theorem dX7_faultOf_180 : decode cX7_faultOf 180 = .ok (.bipush 59, 2) := by decide +kernel
theorem dX7_faultOf_182 : decode cX7_faultOf 182 = .ok (.if_icmp .eq 5, 3) := by decide +kernel
theorem dX7_faultOf_185 : decode cX7_faultOf 185 = .ok (.iload_n 2, 1) := by decide +kernel
theorem dX7_faultOf_186 : decode cX7_faultOf 186 = .ok (.ireturn, 1) := by decide +kernel
theorem dX7_faultOf_187 : decode cX7_faultOf 187 = .ok (.iinc 2 1, 3) := by decide +kernel
theorem dX7_faultOf_190 : decode cX7_faultOf 190 = .ok (.goto (-183), 3) := by decide +kernel
theorem dX7_faultOf_193 : decode cX7_faultOf 193 = .ok (.iconst (-1), 1) := by decide +kernel
theorem dX7_faultOf_194 : decode cX7_faultOf 194 = .ok (.ireturn, 1) := by decide +kernel
theorem dX7_reads_0 : decode cX7_reads 0 = .ok (.aload_n 0, 1) := by decide +kernel
theorem dX7_reads_1 : decode cX7_reads 1 = .ok (.getfield 37, 3) := by decide +kernel
theorem dX7_reads_4 : decode cX7_reads 4 = .ok (.iload_n 1, 1) := by decide +kernel
theorem dX7_reads_5 : decode cX7_reads 5 = .ok (.aload_n 0, 1) := by decide +kernel
theorem dX7_reads_6 : decode cX7_reads 6 = .ok (.iload_n 1, 1) := by decide +kernel
theorem dX7_reads_7 : decode cX7_reads 7 = .ok (.invokevirtual 130, 3) := by decide +kernel
theorem dX7_reads_10 : decode cX7_reads 10 = .ok (.iastore, 1) := by decide +kernel
theorem dX7_reads_11 : decode cX7_reads 11 = .ok (.aload_n 0, 1) := by decide +kernel
theorem dX7_reads_12 : decode cX7_reads 12 = .ok (.getfield 37, 3) := by decide +kernel
theorem dX7_reads_15 : decode cX7_reads 15 = .ok (.iload_n 1, 1) := by decide +kernel
theorem dX7_reads_16 : decode cX7_reads 16 = .ok (.iaload, 1) := by decide +kernel
theorem dX7_reads_17 : decode cX7_reads 17 = .ok (.iconst (-1), 1) := by decide +kernel
theorem dX7_reads_18 : decode cX7_reads 18 = .ok (.if_icmp .eq 8, 3) := by decide +kernel
theorem dX7_reads_21 : decode cX7_reads 21 = .ok (.aload_n 0, 1) := by decide +kernel
theorem dX7_reads_22 : decode cX7_reads 22 = .ok (.iload_n 1, 1) := by decide +kernel
theorem dX7_reads_23 : decode cX7_reads 23 = .ok (.invokevirtual 123, 3) := by decide +kernel
theorem dX7_reads_26 : decode cX7_reads 26 = .ok (.return_, 1) := by decide +kernel
theorem dX7_fault_0 : decode cX7_fault 0 = .ok (.iload_n 1, 1) := by decide +kernel
theorem dX7_fault_1 : decode cX7_fault 1 = .ok (.invokestatic 120, 3) := by decide +kernel
theorem dX7_fault_4 : decode cX7_fault 4 = .ok (.ifCond .ne 6, 3) := by decide +kernel
theorem dX7_fault_7 : decode cX7_fault 7 = .ok (.bipush (-2), 2) := by decide +kernel
theorem dX7_fault_9 : decode cX7_fault 9 = .ok (.ireturn, 1) := by decide +kernel
theorem dX7_fault_10 : decode cX7_fault 10 = .ok (.aload_n 0, 1) := by decide +kernel
theorem dX7_fault_11 : decode cX7_fault 11 = .ok (.iload_n 1, 1) := by decide +kernel
theorem dX7_fault_12 : decode cX7_fault 12 = .ok (.invokevirtual 133, 3) := by decide +kernel
theorem dX7_fault_15 : decode cX7_fault 15 = .ok (.aload_n 0, 1) := by decide +kernel
theorem dX7_fault_16 : decode cX7_fault 16 = .ok (.getfield 37, 3) := by decide +kernel
theorem dX7_fault_19 : decode cX7_fault 19 = .ok (.iload_n 1, 1) := by decide +kernel
theorem dX7_fault_20 : decode cX7_fault 20 = .ok (.iaload, 1) := by decide +kernel
theorem dX7_fault_21 : decode cX7_fault 21 = .ok (.ireturn, 1) := by decide +kernel
theorem dX7_law_0 : decode cX7_law 0 = .ok (.iload_n 1, 1) := by decide +kernel
theorem dX7_law_1 : decode cX7_law 1 = .ok (.invokestatic 120, 3) := by decide +kernel
theorem dX7_law_4 : decode cX7_law 4 = .ok (.ifCond .eq 12, 3) := by decide +kernel
theorem dX7_law_7 : decode cX7_law 7 = .ok (.iload_n 2, 1) := by decide +kernel
theorem dX7_law_8 : decode cX7_law 8 = .ok (.iconst 0, 1) := by decide +kernel
theorem dX7_law_9 : decode cX7_law 9 = .ok (.iconst 3, 1) := by decide +kernel
theorem dX7_law_10 : decode cX7_law 10 = .ok (.invokestatic 71, 3) := by decide +kernel
theorem dX7_law_13 : decode cX7_law 13 = .ok (.ifCond .ne 6, 3) := by decide +kernel
theorem dX7_law_16 : decode cX7_law 16 = .ok (.bipush (-2), 2) := by decide +kernel
theorem dX7_law_18 : decode cX7_law 18 = .ok (.ireturn, 1) := by decide +kernel
theorem dX7_law_19 : decode cX7_law 19 = .ok (.aload_n 0, 1) := by decide +kernel
theorem dX7_law_20 : decode cX7_law 20 = .ok (.iload_n 1, 1) := by decide +kernel
theorem dX7_law_21 : decode cX7_law 21 = .ok (.invokevirtual 133, 3) := by decide +kernel
theorem dX7_law_24 : decode cX7_law 24 = .ok (.aload_n 0, 1) := by decide +kernel
theorem dX7_law_25 : decode cX7_law 25 = .ok (.getfield 40, 3) := by decide +kernel
theorem dX7_law_28 : decode cX7_law 28 = .ok (.iconst 4, 1) := by decide +kernel
theorem dX7_law_29 : decode cX7_law 29 = .ok (.iload_n 1, 1) := by decide +kernel
theorem dX7_law_30 : decode cX7_law 30 = .ok (.imul, 1) := by decide +kernel
theorem dX7_law_31 : decode cX7_law 31 = .ok (.iload_n 2, 1) := by decide +kernel
theorem dX7_law_32 : decode cX7_law 32 = .ok (.iadd, 1) := by decide +kernel
theorem dX7_law_33 : decode cX7_law 33 = .ok (.iaload, 1) := by decide +kernel
theorem dX7_law_34 : decode cX7_law 34 = .ok (.ireturn, 1) := by decide +kernel
theorem dX7_undoes_0 : decode cX7_undoes 0 = .ok (.aload_n 0, 1) := by decide +kernel
theorem dX7_undoes_1 : decode cX7_undoes 1 = .ok (.dup, 1) := by decide +kernel
theorem dX7_undoes_2 : decode cX7_undoes 2 = .ok (.getfield 136, 3) := by decide +kernel
theorem dX7_undoes_5 : decode cX7_undoes 5 = .ok (.iconst 1, 1) := by decide +kernel
theorem dX7_undoes_6 : decode cX7_undoes 6 = .ok (.iload_n 1, 1) := by decide +kernel
theorem dX7_undoes_7 : decode cX7_undoes 7 = .ok (.ishl, 1) := by decide +kernel
theorem dX7_undoes_8 : decode cX7_undoes 8 = .ok (.iconst (-1), 1) := by decide +kernel
theorem dX7_undoes_9 : decode cX7_undoes 9 = .ok (.ixor, 1) := by decide +kernel
theorem dX7_undoes_10 : decode cX7_undoes 10 = .ok (.iand, 1) := by decide +kernel
theorem dX7_undoes_11 : decode cX7_undoes 11 = .ok (.putfield 136, 3) := by decide +kernel
theorem dX7_undoes_14 : decode cX7_undoes 14 = .ok (.aload_n 0, 1) := by decide +kernel
theorem dX7_undoes_15 : decode cX7_undoes 15 = .ok (.dup, 1) := by decide +kernel
theorem dX7_undoes_16 : decode cX7_undoes 16 = .ok (.getfield 139, 3) := by decide +kernel
theorem dX7_undoes_19 : decode cX7_undoes 19 = .ok (.iconst 1, 1) := by decide +kernel
theorem dX7_undoes_20 : decode cX7_undoes 20 = .ok (.iload_n 1, 1) := by decide +kernel
theorem dX7_undoes_21 : decode cX7_undoes 21 = .ok (.ishl, 1) := by decide +kernel
theorem dX7_undoes_22 : decode cX7_undoes 22 = .ok (.ior, 1) := by decide +kernel
theorem dX7_undoes_23 : decode cX7_undoes 23 = .ok (.putfield 139, 3) := by decide +kernel
theorem dX7_undoes_26 : decode cX7_undoes 26 = .ok (.aload_n 0, 1) := by decide +kernel
theorem dX7_undoes_27 : decode cX7_undoes 27 = .ok (.dup, 1) := by decide +kernel
theorem dX7_undoes_28 : decode cX7_undoes 28 = .ok (.getfield 142, 3) := by decide +kernel
theorem dX7_undoes_31 : decode cX7_undoes 31 = .ok (.iload_n 2, 1) := by decide +kernel
theorem dX7_undoes_32 : decode cX7_undoes 32 = .ok (.ifCond .eq 12, 3) := by decide +kernel
theorem dX7_undoes_35 : decode cX7_undoes 35 = .ok (.aload_n 0, 1) := by decide +kernel
theorem dX7_undoes_36 : decode cX7_undoes 36 = .ok (.getfield 19, 3) := by decide +kernel
theorem dX7_undoes_39 : decode cX7_undoes 39 = .ok (.iload_n 1, 1) := by decide +kernel
theorem dX7_undoes_40 : decode cX7_undoes 40 = .ok (.iaload, 1) := by decide +kernel
theorem dX7_undoes_41 : decode cX7_undoes 41 = .ok (.goto 4, 3) := by decide +kernel
theorem dX7_undoes_44 : decode cX7_undoes 44 = .ok (.iconst 0, 1) := by decide +kernel
theorem dX7_undoes_45 : decode cX7_undoes 45 = .ok (.ior, 1) := by decide +kernel
theorem dX7_undoes_46 : decode cX7_undoes 46 = .ok (.putfield 142, 3) := by decide +kernel
theorem dX7_undoes_49 : decode cX7_undoes 49 = .ok (.return_, 1) := by decide +kernel
theorem dX7_quarrel_0 : decode cX7_quarrel 0 = .ok (.aload_n 0, 1) := by decide +kernel
theorem dX7_quarrel_1 : decode cX7_quarrel 1 = .ok (.getfield 16, 3) := by decide +kernel
theorem dX7_quarrel_4 : decode cX7_quarrel 4 = .ok (.iload_n 1, 1) := by decide +kernel
theorem dX7_quarrel_5 : decode cX7_quarrel 5 = .ok (.iaload, 1) := by decide +kernel
theorem dX7_quarrel_6 : decode cX7_quarrel 6 = .ok (.iconst 1, 1) := by decide +kernel
theorem dX7_quarrel_7 : decode cX7_quarrel 7 = .ok (.if_icmp .ne 13, 3) := by decide +kernel
theorem dX7_quarrel_10 : decode cX7_quarrel 10 = .ok (.aload_n 0, 1) := by decide +kernel
theorem dX7_quarrel_11 : decode cX7_quarrel 11 = .ok (.getfield 28, 3) := by decide +kernel
theorem dX7_quarrel_14 : decode cX7_quarrel 14 = .ok (.iload_n 1, 1) := by decide +kernel
theorem dX7_quarrel_15 : decode cX7_quarrel 15 = .ok (.iaload, 1) := by decide +kernel
theorem dX7_quarrel_16 : decode cX7_quarrel 16 = .ok (.iload_n 2, 1) := by decide +kernel
theorem dX7_quarrel_17 : decode cX7_quarrel 17 = .ok (.if_icmp .eq 23, 3) := by decide +kernel
theorem dX7_quarrel_20 : decode cX7_quarrel 20 = .ok (.aload_n 0, 1) := by decide +kernel
theorem dX7_quarrel_21 : decode cX7_quarrel 21 = .ok (.getfield 16, 3) := by decide +kernel
theorem dX7_quarrel_24 : decode cX7_quarrel 24 = .ok (.iload_n 2, 1) := by decide +kernel
theorem dX7_quarrel_25 : decode cX7_quarrel 25 = .ok (.iaload, 1) := by decide +kernel
theorem dX7_quarrel_26 : decode cX7_quarrel 26 = .ok (.iconst 1, 1) := by decide +kernel
theorem dX7_quarrel_27 : decode cX7_quarrel 27 = .ok (.if_icmp .ne 17, 3) := by decide +kernel
theorem dX7_quarrel_30 : decode cX7_quarrel 30 = .ok (.aload_n 0, 1) := by decide +kernel
theorem dX7_quarrel_31 : decode cX7_quarrel 31 = .ok (.getfield 28, 3) := by decide +kernel
theorem dX7_quarrel_34 : decode cX7_quarrel 34 = .ok (.iload_n 2, 1) := by decide +kernel
theorem dX7_quarrel_35 : decode cX7_quarrel 35 = .ok (.iaload, 1) := by decide +kernel
theorem dX7_quarrel_36 : decode cX7_quarrel 36 = .ok (.iload_n 1, 1) := by decide +kernel
theorem dX7_quarrel_37 : decode cX7_quarrel 37 = .ok (.if_icmp .ne 7, 3) := by decide +kernel
theorem dX7_quarrel_40 : decode cX7_quarrel 40 = .ok (.iconst 1, 1) := by decide +kernel
theorem dX7_quarrel_41 : decode cX7_quarrel 41 = .ok (.goto 4, 3) := by decide +kernel
theorem dX7_quarrel_44 : decode cX7_quarrel 44 = .ok (.iconst 0, 1) := by decide +kernel
theorem dX7_quarrel_45 : decode cX7_quarrel 45 = .ok (.ireturn, 1) := by decide +kernel
theorem dX7_hears_0 : decode cX7_hears 0 = .ok (.aload_n 0, 1) := by decide +kernel
theorem dX7_hears_1 : decode cX7_hears 1 = .ok (.getfield 40, 3) := by decide +kernel
theorem dX7_hears_4 : decode cX7_hears 4 = .ok (.iconst 4, 1) := by decide +kernel
theorem dX7_hears_5 : decode cX7_hears 5 = .ok (.iload_n 1, 1) := by decide +kernel
theorem dX7_hears_6 : decode cX7_hears 6 = .ok (.imul, 1) := by decide +kernel
theorem dX7_hears_7 : decode cX7_hears 7 = .ok (.iaload, 1) := by decide +kernel
theorem dX7_hears_8 : decode cX7_hears 8 = .ok (.istore_n 2, 1) := by decide +kernel
theorem dX7_hears_9 : decode cX7_hears 9 = .ok (.aload_n 0, 1) := by decide +kernel
theorem dX7_hears_10 : decode cX7_hears 10 = .ok (.getfield 40, 3) := by decide +kernel
theorem dX7_hears_13 : decode cX7_hears 13 = .ok (.iconst 4, 1) := by decide +kernel
theorem dX7_hears_14 : decode cX7_hears 14 = .ok (.iload_n 1, 1) := by decide +kernel
theorem dX7_hears_15 : decode cX7_hears 15 = .ok (.imul, 1) := by decide +kernel
theorem dX7_hears_16 : decode cX7_hears 16 = .ok (.iconst 1, 1) := by decide +kernel
theorem dX7_hears_17 : decode cX7_hears 17 = .ok (.iadd, 1) := by decide +kernel
theorem dX7_hears_18 : decode cX7_hears 18 = .ok (.iaload, 1) := by decide +kernel
theorem dX7_hears_19 : decode cX7_hears 19 = .ok (.istore_n 3, 1) := by decide +kernel
theorem dX7_hears_20 : decode cX7_hears 20 = .ok (.aload_n 0, 1) := by decide +kernel
theorem dX7_hears_21 : decode cX7_hears 21 = .ok (.getfield 40, 3) := by decide +kernel
theorem dX7_hears_24 : decode cX7_hears 24 = .ok (.iconst 4, 1) := by decide +kernel
theorem dX7_hears_25 : decode cX7_hears 25 = .ok (.iload_n 1, 1) := by decide +kernel
theorem dX7_hears_26 : decode cX7_hears 26 = .ok (.imul, 1) := by decide +kernel
theorem dX7_hears_27 : decode cX7_hears 27 = .ok (.iconst 2, 1) := by decide +kernel
theorem dX7_hears_28 : decode cX7_hears 28 = .ok (.iadd, 1) := by decide +kernel
theorem dX7_hears_29 : decode cX7_hears 29 = .ok (.iaload, 1) := by decide +kernel
theorem dX7_hears_30 : decode cX7_hears 30 = .ok (.iconst 1, 1) := by decide +kernel
theorem dX7_hears_31 : decode cX7_hears 31 = .ok (.if_icmp .ne 7, 3) := by decide +kernel
theorem dX7_hears_34 : decode cX7_hears 34 = .ok (.iconst 1, 1) := by decide +kernel
theorem dX7_hears_35 : decode cX7_hears 35 = .ok (.goto 4, 3) := by decide +kernel
theorem dX7_hears_38 : decode cX7_hears 38 = .ok (.iconst 0, 1) := by decide +kernel
theorem dX7_hears_39 : decode cX7_hears 39 = .ok (.istore 4, 2) := by decide +kernel
theorem dX7_hears_41 : decode cX7_hears 41 = .ok (.aload_n 0, 1) := by decide +kernel
theorem dX7_hears_42 : decode cX7_hears 42 = .ok (.getfield 40, 3) := by decide +kernel
theorem dX7_hears_45 : decode cX7_hears 45 = .ok (.iconst 4, 1) := by decide +kernel
theorem dX7_hears_46 : decode cX7_hears 46 = .ok (.iload_n 1, 1) := by decide +kernel
theorem dX7_hears_47 : decode cX7_hears 47 = .ok (.imul, 1) := by decide +kernel
theorem dX7_hears_48 : decode cX7_hears 48 = .ok (.iconst 3, 1) := by decide +kernel
theorem dX7_hears_49 : decode cX7_hears 49 = .ok (.iadd, 1) := by decide +kernel
theorem dX7_hears_50 : decode cX7_hears 50 = .ok (.iaload, 1) := by decide +kernel
theorem dX7_hears_51 : decode cX7_hears 51 = .ok (.iconst 1, 1) := by decide +kernel
theorem dX7_hears_52 : decode cX7_hears 52 = .ok (.if_icmp .ne 7, 3) := by decide +kernel
theorem dX7_hears_55 : decode cX7_hears 55 = .ok (.iconst 1, 1) := by decide +kernel
theorem dX7_hears_56 : decode cX7_hears 56 = .ok (.goto 4, 3) := by decide +kernel
theorem dX7_hears_59 : decode cX7_hears 59 = .ok (.iconst 0, 1) := by decide +kernel
theorem dX7_hears_60 : decode cX7_hears 60 = .ok (.istore 5, 2) := by decide +kernel
theorem dX7_hears_62 : decode cX7_hears 62 = .ok (.aload_n 0, 1) := by decide +kernel
theorem dX7_hears_63 : decode cX7_hears 63 = .ok (.iconst 0, 1) := by decide +kernel
theorem dX7_hears_64 : decode cX7_hears 64 = .ok (.putfield 136, 3) := by decide +kernel
theorem dX7_hears_67 : decode cX7_hears 67 = .ok (.aload_n 0, 1) := by decide +kernel
theorem dX7_hears_68 : decode cX7_hears 68 = .ok (.iconst 0, 1) := by decide +kernel
theorem dX7_hears_69 : decode cX7_hears 69 = .ok (.putfield 139, 3) := by decide +kernel
theorem dX7_hears_72 : decode cX7_hears 72 = .ok (.aload_n 0, 1) := by decide +kernel
theorem dX7_hears_73 : decode cX7_hears 73 = .ok (.iconst 0, 1) := by decide +kernel
theorem dX7_hears_74 : decode cX7_hears 74 = .ok (.putfield 142, 3) := by decide +kernel
theorem dX7_hears_77 : decode cX7_hears 77 = .ok (.iconst 0, 1) := by decide +kernel
theorem dX7_hears_78 : decode cX7_hears 78 = .ok (.istore 6, 2) := by decide +kernel
theorem dX7_hears_80 : decode cX7_hears 80 = .ok (.iload 6, 2) := by decide +kernel
theorem dX7_hears_82 : decode cX7_hears 82 = .ok (.aload_n 0, 1) := by decide +kernel
theorem dX7_hears_83 : decode cX7_hears 83 = .ok (.getfield 145, 3) := by decide +kernel
theorem dX7_hears_86 : decode cX7_hears 86 = .ok (.if_icmp .ge 382, 3) := by decide +kernel
theorem dX7_hears_89 : decode cX7_hears 89 = .ok (.aload_n 0, 1) := by decide +kernel
theorem dX7_hears_90 : decode cX7_hears 90 = .ok (.getfield 43, 3) := by decide +kernel
theorem dX7_hears_93 : decode cX7_hears 93 = .ok (.iload 6, 2) := by decide +kernel
theorem dX7_hears_95 : decode cX7_hears 95 = .ok (.iaload, 1) := by decide +kernel
theorem dX7_hears_96 : decode cX7_hears 96 = .ok (.istore 7, 2) := by decide +kernel
theorem dX7_hears_98 : decode cX7_hears 98 = .ok (.aload_n 0, 1) := by decide +kernel
theorem dX7_hears_99 : decode cX7_hears 99 = .ok (.getfield 19, 3) := by decide +kernel
theorem dX7_hears_102 : decode cX7_hears 102 = .ok (.iload 7, 2) := by decide +kernel
theorem dX7_hears_104 : decode cX7_hears 104 = .ok (.iaload, 1) := by decide +kernel
theorem dX7_hears_105 : decode cX7_hears 105 = .ok (.aload_n 0, 1) := by decide +kernel
theorem dX7_hears_106 : decode cX7_hears 106 = .ok (.getfield 142, 3) := by decide +kernel
theorem dX7_hears_109 : decode cX7_hears 109 = .ok (.iconst (-1), 1) := by decide +kernel
theorem dX7_hears_110 : decode cX7_hears 110 = .ok (.ixor, 1) := by decide +kernel
theorem dX7_hears_111 : decode cX7_hears 111 = .ok (.iand, 1) := by decide +kernel
theorem dX7_hears_112 : decode cX7_hears 112 = .ok (.invokestatic 148, 3) := by decide +kernel
theorem dX7_hears_115 : decode cX7_hears 115 = .ok (.iload_n 2, 1) := by decide +kernel
theorem dX7_hears_116 : decode cX7_hears 116 = .ok (.if_icmp .lt 346, 3) := by decide +kernel
theorem dX7_hears_119 : decode cX7_hears 119 = .ok (.iload 5, 2) := by decide +kernel
theorem dX7_hears_121 : decode cX7_hears 121 = .ok (.ifCond .ne 21, 3) := by decide +kernel
theorem dX7_hears_124 : decode cX7_hears 124 = .ok (.aload_n 0, 1) := by decide +kernel
theorem dX7_hears_125 : decode cX7_hears 125 = .ok (.getfield 19, 3) := by decide +kernel
theorem dX7_hears_128 : decode cX7_hears 128 = .ok (.iload 7, 2) := by decide +kernel
theorem dX7_hears_130 : decode cX7_hears 130 = .ok (.iaload, 1) := by decide +kernel
theorem dX7_hears_131 : decode cX7_hears 131 = .ok (.aload_n 0, 1) := by decide +kernel
theorem dX7_hears_132 : decode cX7_hears 132 = .ok (.getfield 142, 3) := by decide +kernel
theorem dX7_hears_135 : decode cX7_hears 135 = .ok (.iand, 1) := by decide +kernel
theorem dX7_hears_136 : decode cX7_hears 136 = .ok (.ifCond .eq 6, 3) := by decide +kernel
theorem dX7_hears_139 : decode cX7_hears 139 = .ok (.goto 323, 3) := by decide +kernel
theorem dX7_hears_142 : decode cX7_hears 142 = .ok (.aload_n 0, 1) := by decide +kernel
theorem dX7_hears_143 : decode cX7_hears 143 = .ok (.getfield 136, 3) := by decide +kernel
theorem dX7_hears_146 : decode cX7_hears 146 = .ok (.istore 8, 2) := by decide +kernel
theorem dX7_hears_148 : decode cX7_hears 148 = .ok (.aload_n 0, 1) := by decide +kernel
theorem dX7_hears_149 : decode cX7_hears 149 = .ok (.dup, 1) := by decide +kernel
theorem dX7_hears_150 : decode cX7_hears 150 = .ok (.getfield 136, 3) := by decide +kernel
theorem dX7_hears_153 : decode cX7_hears 153 = .ok (.iconst 1, 1) := by decide +kernel
theorem dX7_hears_154 : decode cX7_hears 154 = .ok (.iload 7, 2) := by decide +kernel
theorem dX7_hears_156 : decode cX7_hears 156 = .ok (.ishl, 1) := by decide +kernel
theorem dX7_hears_157 : decode cX7_hears 157 = .ok (.ior, 1) := by decide +kernel
theorem dX7_hears_158 : decode cX7_hears 158 = .ok (.putfield 136, 3) := by decide +kernel
theorem dX7_hears_161 : decode cX7_hears 161 = .ok (.iconst 0, 1) := by decide +kernel
theorem dX7_hears_162 : decode cX7_hears 162 = .ok (.istore 9, 2) := by decide +kernel
theorem dX7_hears_164 : decode cX7_hears 164 = .ok (.iload 9, 2) := by decide +kernel
theorem dX7_hears_166 : decode cX7_hears 166 = .ok (.aload_n 0, 1) := by decide +kernel
theorem dX7_hears_167 : decode cX7_hears 167 = .ok (.getfield 82, 3) := by decide +kernel
theorem dX7_hears_170 : decode cX7_hears 170 = .ok (.if_icmp .ge 153, 3) := by decide +kernel
theorem dX7_hears_173 : decode cX7_hears 173 = .ok (.iload 8, 2) := by decide +kernel
theorem dX7_hears_175 : decode cX7_hears 175 = .ok (.iload 9, 2) := by decide +kernel
theorem dX7_hears_177 : decode cX7_hears 177 = .ok (.invokestatic 151, 3) := by decide +kernel
theorem dX7_hears_180 : decode cX7_hears 180 = .ok (.ifCond .eq 137, 3) := by decide +kernel
theorem dX7_hears_183 : decode cX7_hears 183 = .ok (.aload_n 0, 1) := by decide +kernel
theorem dX7_hears_184 : decode cX7_hears 184 = .ok (.getfield 136, 3) := by decide +kernel
theorem dX7_hears_187 : decode cX7_hears 187 = .ok (.iload 7, 2) := by decide +kernel
theorem dX7_hears_189 : decode cX7_hears 189 = .ok (.invokestatic 151, 3) := by decide +kernel
theorem dX7_hears_192 : decode cX7_hears 192 = .ok (.ifCond .eq 125, 3) := by decide +kernel
theorem dX7_hears_195 : decode cX7_hears 195 = .ok (.aload_n 0, 1) := by decide +kernel
theorem dX7_hears_196 : decode cX7_hears 196 = .ok (.iload 7, 2) := by decide +kernel
theorem dX7_hears_198 : decode cX7_hears 198 = .ok (.iload 9, 2) := by decide +kernel
theorem dX7_hears_200 : decode cX7_hears 200 = .ok (.invokevirtual 155, 3) := by decide +kernel
theorem dX7_hears_203 : decode cX7_hears 203 = .ok (.ifCond .eq 114, 3) := by decide +kernel
theorem dX7_hears_206 : decode cX7_hears 206 = .ok (.aload_n 0, 1) := by decide +kernel
theorem dX7_hears_207 : decode cX7_hears 207 = .ok (.getfield 19, 3) := by decide +kernel
theorem dX7_hears_210 : decode cX7_hears 210 = .ok (.iload 7, 2) := by decide +kernel
theorem dX7_hears_212 : decode cX7_hears 212 = .ok (.iaload, 1) := by decide +kernel
theorem dX7_hears_213 : decode cX7_hears 213 = .ok (.invokestatic 148, 3) := by decide +kernel
theorem dX7_hears_216 : decode cX7_hears 216 = .ok (.istore 10, 2) := by decide +kernel
theorem dX7_hears_218 : decode cX7_hears 218 = .ok (.aload_n 0, 1) := by decide +kernel
theorem dX7_hears_219 : decode cX7_hears 219 = .ok (.getfield 19, 3) := by decide +kernel
theorem dX7_hears_222 : decode cX7_hears 222 = .ok (.iload 9, 2) := by decide +kernel
theorem dX7_hears_224 : decode cX7_hears 224 = .ok (.iaload, 1) := by decide +kernel
theorem dX7_hears_225 : decode cX7_hears 225 = .ok (.invokestatic 148, 3) := by decide +kernel
theorem dX7_hears_228 : decode cX7_hears 228 = .ok (.istore 11, 2) := by decide +kernel
theorem dX7_hears_230 : decode cX7_hears 230 = .ok (.iload_n 3, 1) := by decide +kernel
theorem dX7_hears_231 : decode cX7_hears 231 = .ok (.ifCond .eq 15, 3) := by decide +kernel
theorem dX7_hears_234 : decode cX7_hears 234 = .ok (.iload_n 3, 1) := by decide +kernel
theorem dX7_hears_235 : decode cX7_hears 235 = .ok (.iconst 2, 1) := by decide +kernel
theorem dX7_hears_236 : decode cX7_hears 236 = .ok (.if_icmp .ne 14, 3) := by decide +kernel
theorem dX7_hears_239 : decode cX7_hears 239 = .ok (.iload 10, 2) := by decide +kernel
theorem dX7_hears_241 : decode cX7_hears 241 = .ok (.iload 11, 2) := by decide +kernel
theorem dX7_hears_243 : decode cX7_hears 243 = .ok (.if_icmp .ne 7, 3) := by decide +kernel
theorem dX7_hears_246 : decode cX7_hears 246 = .ok (.iconst 1, 1) := by decide +kernel
theorem dX7_hears_247 : decode cX7_hears 247 = .ok (.goto 4, 3) := by decide +kernel
theorem dX7_hears_250 : decode cX7_hears 250 = .ok (.iconst 0, 1) := by decide +kernel
theorem dX7_hears_251 : decode cX7_hears 251 = .ok (.istore 12, 2) := by decide +kernel
theorem dX7_hears_253 : decode cX7_hears 253 = .ok (.iload 12, 2) := by decide +kernel
theorem dX7_hears_255 : decode cX7_hears 255 = .ok (.ifCond .ne 15, 3) := by decide +kernel
theorem dX7_hears_258 : decode cX7_hears 258 = .ok (.iload_n 3, 1) := by decide +kernel
theorem dX7_hears_259 : decode cX7_hears 259 = .ok (.iconst 1, 1) := by decide +kernel
theorem dX7_hears_260 : decode cX7_hears 260 = .ok (.if_icmp .eq 10, 3) := by decide +kernel
theorem dX7_hears_263 : decode cX7_hears 263 = .ok (.iload 10, 2) := by decide +kernel
theorem dX7_hears_265 : decode cX7_hears 265 = .ok (.iload 11, 2) := by decide +kernel
theorem dX7_hears_267 : decode cX7_hears 267 = .ok (.if_icmp .ge 18, 3) := by decide +kernel
theorem dX7_hears_270 : decode cX7_hears 270 = .ok (.aload_n 0, 1) := by decide +kernel
theorem dX7_hears_271 : decode cX7_hears 271 = .ok (.dup, 1) := by decide +kernel
theorem dX7_hears_272 : decode cX7_hears 272 = .ok (.getfield 136, 3) := by decide +kernel
theorem dX7_hears_275 : decode cX7_hears 275 = .ok (.iconst 1, 1) := by decide +kernel
theorem dX7_hears_276 : decode cX7_hears 276 = .ok (.iload 7, 2) := by decide +kernel
theorem dX7_hears_278 : decode cX7_hears 278 = .ok (.ishl, 1) := by decide +kernel
theorem dX7_hears_279 : decode cX7_hears 279 = .ok (.iconst (-1), 1) := by decide +kernel
theorem dX7_hears_280 : decode cX7_hears 280 = .ok (.ixor, 1) := by decide +kernel
theorem dX7_hears_281 : decode cX7_hears 281 = .ok (.iand, 1) := by decide +kernel
theorem dX7_hears_282 : decode cX7_hears 282 = .ok (.putfield 136, 3) := by decide +kernel
theorem dX7_hears_285 : decode cX7_hears 285 = .ok (.iload 12, 2) := by decide +kernel
theorem dX7_hears_287 : decode cX7_hears 287 = .ok (.ifCond .ne 15, 3) := by decide +kernel
theorem dX7_hears_290 : decode cX7_hears 290 = .ok (.iload_n 3, 1) := by decide +kernel
theorem dX7_hears_291 : decode cX7_hears 291 = .ok (.iconst 2, 1) := by decide +kernel
theorem dX7_hears_292 : decode cX7_hears 292 = .ok (.if_icmp .ne 25, 3) := by decide +kernel
theorem dX7_hears_295 : decode cX7_hears 295 = .ok (.iload 11, 2) := by decide +kernel
theorem dX7_hears_297 : decode cX7_hears 297 = .ok (.iload 10, 2) := by decide +kernel
theorem dX7_hears_299 : decode cX7_hears 299 = .ok (.if_icmp .ge 18, 3) := by decide +kernel
theorem dX7_hears_302 : decode cX7_hears 302 = .ok (.aload_n 0, 1) := by decide +kernel
theorem dX7_hears_303 : decode cX7_hears 303 = .ok (.dup, 1) := by decide +kernel
theorem dX7_hears_304 : decode cX7_hears 304 = .ok (.getfield 136, 3) := by decide +kernel
theorem dX7_hears_307 : decode cX7_hears 307 = .ok (.iconst 1, 1) := by decide +kernel
theorem dX7_hears_308 : decode cX7_hears 308 = .ok (.iload 9, 2) := by decide +kernel
theorem dX7_hears_310 : decode cX7_hears 310 = .ok (.ishl, 1) := by decide +kernel
theorem dX7_hears_311 : decode cX7_hears 311 = .ok (.iconst (-1), 1) := by decide +kernel
theorem dX7_hears_312 : decode cX7_hears 312 = .ok (.ixor, 1) := by decide +kernel
theorem dX7_hears_313 : decode cX7_hears 313 = .ok (.iand, 1) := by decide +kernel
theorem dX7_hears_314 : decode cX7_hears 314 = .ok (.putfield 136, 3) := by decide +kernel
theorem dX7_hears_317 : decode cX7_hears 317 = .ok (.iinc 9 1, 3) := by decide +kernel
theorem dX7_hears_320 : decode cX7_hears 320 = .ok (.goto (-156), 3) := by decide +kernel
theorem dX7_hears_323 : decode cX7_hears 323 = .ok (.aload_n 0, 1) := by decide +kernel
theorem dX7_hears_324 : decode cX7_hears 324 = .ok (.getfield 136, 3) := by decide +kernel
theorem dX7_hears_327 : decode cX7_hears 327 = .ok (.iload 7, 2) := by decide +kernel
theorem dX7_hears_329 : decode cX7_hears 329 = .ok (.invokestatic 151, 3) := by decide +kernel
theorem dX7_hears_332 : decode cX7_hears 332 = .ok (.ifCond .eq 130, 3) := by decide +kernel
theorem dX7_hears_335 : decode cX7_hears 335 = .ok (.aload_n 0, 1) := by decide +kernel
theorem dX7_hears_336 : decode cX7_hears 336 = .ok (.getfield 104, 3) := by decide +kernel
theorem dX7_hears_339 : decode cX7_hears 339 = .ok (.iload 7, 2) := by decide +kernel
theorem dX7_hears_341 : decode cX7_hears 341 = .ok (.invokestatic 151, 3) := by decide +kernel
theorem dX7_hears_344 : decode cX7_hears 344 = .ok (.ifCond .eq 36, 3) := by decide +kernel
theorem dX7_hears_347 : decode cX7_hears 347 = .ok (.aload_n 0, 1) := by decide +kernel
theorem dX7_hears_348 : decode cX7_hears 348 = .ok (.getfield 136, 3) := by decide +kernel
theorem dX7_hears_351 : decode cX7_hears 351 = .ok (.aload_n 0, 1) := by decide +kernel
theorem dX7_hears_352 : decode cX7_hears 352 = .ok (.getfield 28, 3) := by decide +kernel
theorem dX7_hears_355 : decode cX7_hears 355 = .ok (.iload 7, 2) := by decide +kernel
theorem dX7_hears_357 : decode cX7_hears 357 = .ok (.iaload, 1) := by decide +kernel
theorem dX7_hears_358 : decode cX7_hears 358 = .ok (.invokestatic 151, 3) := by decide +kernel
theorem dX7_hears_361 : decode cX7_hears 361 = .ok (.ifCond .eq 19, 3) := by decide +kernel
theorem dX7_hears_364 : decode cX7_hears 364 = .ok (.aload_n 0, 1) := by decide +kernel
theorem dX7_hears_365 : decode cX7_hears 365 = .ok (.aload_n 0, 1) := by decide +kernel
theorem dX7_hears_366 : decode cX7_hears 366 = .ok (.getfield 28, 3) := by decide +kernel
theorem dX7_hears_369 : decode cX7_hears 369 = .ok (.iload 7, 2) := by decide +kernel
theorem dX7_hears_371 : decode cX7_hears 371 = .ok (.iaload, 1) := by decide +kernel
theorem dX7_hears_372 : decode cX7_hears 372 = .ok (.iload 4, 2) := by decide +kernel
theorem dX7_hears_374 : decode cX7_hears 374 = .ok (.invokevirtual 158, 3) := by decide +kernel
theorem dX7_hears_377 : decode cX7_hears 377 = .ok (.goto 85, 3) := by decide +kernel
theorem dX7_hears_380 : decode cX7_hears 380 = .ok (.iconst 0, 1) := by decide +kernel
theorem dX7_hears_381 : decode cX7_hears 381 = .ok (.istore 9, 2) := by decide +kernel
theorem dX7_hears_383 : decode cX7_hears 383 = .ok (.iconst 0, 1) := by decide +kernel
theorem dX7_hears_384 : decode cX7_hears 384 = .ok (.istore 10, 2) := by decide +kernel
theorem dX7_hears_386 : decode cX7_hears 386 = .ok (.iload 10, 2) := by decide +kernel
theorem dX7_hears_388 : decode cX7_hears 388 = .ok (.aload_n 0, 1) := by decide +kernel
theorem dX7_hears_389 : decode cX7_hears 389 = .ok (.getfield 82, 3) := by decide +kernel
theorem dX7_hears_392 : decode cX7_hears 392 = .ok (.if_icmp .ge 57, 3) := by decide +kernel
theorem dX7_hears_395 : decode cX7_hears 395 = .ok (.iload 9, 2) := by decide +kernel
theorem dX7_hears_397 : decode cX7_hears 397 = .ok (.ifCond .ne 39, 3) := by decide +kernel
theorem dX7_hears_400 : decode cX7_hears 400 = .ok (.aload_n 0, 1) := by decide +kernel
theorem dX7_hears_401 : decode cX7_hears 401 = .ok (.getfield 136, 3) := by decide +kernel
theorem dX7_hears_404 : decode cX7_hears 404 = .ok (.iload 10, 2) := by decide +kernel
theorem dX7_hears_406 : decode cX7_hears 406 = .ok (.invokestatic 151, 3) := by decide +kernel
theorem dX7_hears_409 : decode cX7_hears 409 = .ok (.ifCond .eq 31, 3) := by decide +kernel
theorem dX7_hears_412 : decode cX7_hears 412 = .ok (.aload_n 0, 1) := by decide +kernel
theorem dX7_hears_413 : decode cX7_hears 413 = .ok (.getfield 104, 3) := by decide +kernel
theorem dX7_hears_416 : decode cX7_hears 416 = .ok (.iload 10, 2) := by decide +kernel
theorem dX7_hears_418 : decode cX7_hears 418 = .ok (.invokestatic 151, 3) := by decide +kernel
theorem dX7_hears_421 : decode cX7_hears 421 = .ok (.ifCond .eq 19, 3) := by decide +kernel
theorem dX7_hears_424 : decode cX7_hears 424 = .ok (.aload_n 0, 1) := by decide +kernel
theorem dX7_hears_425 : decode cX7_hears 425 = .ok (.getfield 28, 3) := by decide +kernel
theorem dX7_hears_428 : decode cX7_hears 428 = .ok (.iload 10, 2) := by decide +kernel
theorem dX7_hears_430 : decode cX7_hears 430 = .ok (.iaload, 1) := by decide +kernel
theorem dX7_hears_431 : decode cX7_hears 431 = .ok (.iload 7, 2) := by decide +kernel
theorem dX7_hears_433 : decode cX7_hears 433 = .ok (.if_icmp .ne 7, 3) := by decide +kernel
theorem dX7_hears_436 : decode cX7_hears 436 = .ok (.iconst 1, 1) := by decide +kernel
theorem dX7_hears_437 : decode cX7_hears 437 = .ok (.goto 4, 3) := by decide +kernel
theorem dX7_hears_440 : decode cX7_hears 440 = .ok (.iconst 0, 1) := by decide +kernel
theorem dX7_hears_441 : decode cX7_hears 441 = .ok (.istore 9, 2) := by decide +kernel
theorem dX7_hears_443 : decode cX7_hears 443 = .ok (.iinc 10 1, 3) := by decide +kernel
theorem dX7_hears_446 : decode cX7_hears 446 = .ok (.goto (-60), 3) := by decide +kernel
theorem dX7_hears_449 : decode cX7_hears 449 = .ok (.iload 9, 2) := by decide +kernel
theorem dX7_hears_451 : decode cX7_hears 451 = .ok (.ifCond .eq 11, 3) := by decide +kernel
theorem dX7_hears_454 : decode cX7_hears 454 = .ok (.aload_n 0, 1) := by decide +kernel
theorem dX7_hears_455 : decode cX7_hears 455 = .ok (.iload 7, 2) := by decide +kernel
theorem dX7_hears_457 : decode cX7_hears 457 = .ok (.iload 4, 2) := by decide +kernel
theorem dX7_hears_459 : decode cX7_hears 459 = .ok (.invokevirtual 158, 3) := by decide +kernel
theorem dX7_hears_462 : decode cX7_hears 462 = .ok (.iinc 6 1, 3) := by decide +kernel
theorem dX7_hears_465 : decode cX7_hears 465 = .ok (.goto (-385), 3) := by decide +kernel
theorem dX7_hears_468 : decode cX7_hears 468 = .ok (.return_, 1) := by decide +kernel
theorem dX7_lines_0 : decode cX7_lines 0 = .ok (.aload_n 0, 1) := by decide +kernel
theorem dX7_lines_1 : decode cX7_lines 1 = .ok (.iconst 0, 1) := by decide +kernel
theorem dX7_lines_2 : decode cX7_lines 2 = .ok (.putfield 145, 3) := by decide +kernel
theorem dX7_lines_5 : decode cX7_lines 5 = .ok (.iconst 0, 1) := by decide +kernel
theorem dX7_lines_6 : decode cX7_lines 6 = .ok (.istore_n 2, 1) := by decide +kernel
theorem dX7_lines_7 : decode cX7_lines 7 = .ok (.iload_n 2, 1) := by decide +kernel
theorem dX7_lines_8 : decode cX7_lines 8 = .ok (.aload_n 0, 1) := by decide +kernel
theorem dX7_lines_9 : decode cX7_lines 9 = .ok (.getfield 82, 3) := by decide +kernel
theorem dX7_lines_12 : decode cX7_lines 12 = .ok (.if_icmp .ge 37, 3) := by decide +kernel
theorem dX7_lines_15 : decode cX7_lines 15 = .ok (.iload_n 1, 1) := by decide +kernel
theorem dX7_lines_16 : decode cX7_lines 16 = .ok (.iload_n 2, 1) := by decide +kernel
theorem dX7_lines_17 : decode cX7_lines 17 = .ok (.invokestatic 151, 3) := by decide +kernel
theorem dX7_lines_20 : decode cX7_lines 20 = .ok (.ifCond .eq 23, 3) := by decide +kernel
theorem dX7_lines_23 : decode cX7_lines 23 = .ok (.aload_n 0, 1) := by decide +kernel
theorem dX7_lines_24 : decode cX7_lines 24 = .ok (.getfield 43, 3) := by decide +kernel
theorem dX7_lines_27 : decode cX7_lines 27 = .ok (.aload_n 0, 1) := by decide +kernel
theorem dX7_lines_28 : decode cX7_lines 28 = .ok (.getfield 145, 3) := by decide +kernel
theorem dX7_lines_31 : decode cX7_lines 31 = .ok (.iload_n 2, 1) := by decide +kernel
theorem dX7_lines_32 : decode cX7_lines 32 = .ok (.iastore, 1) := by decide +kernel
theorem dX7_lines_33 : decode cX7_lines 33 = .ok (.aload_n 0, 1) := by decide +kernel
theorem dX7_lines_34 : decode cX7_lines 34 = .ok (.dup, 1) := by decide +kernel
theorem dX7_lines_35 : decode cX7_lines 35 = .ok (.getfield 145, 3) := by decide +kernel
theorem dX7_lines_38 : decode cX7_lines 38 = .ok (.iconst 1, 1) := by decide +kernel
theorem dX7_lines_39 : decode cX7_lines 39 = .ok (.iadd, 1) := by decide +kernel
theorem dX7_lines_40 : decode cX7_lines 40 = .ok (.putfield 145, 3) := by decide +kernel
theorem dX7_lines_43 : decode cX7_lines 43 = .ok (.iinc 2 1, 3) := by decide +kernel
theorem dX7_lines_46 : decode cX7_lines 46 = .ok (.goto (-39), 3) := by decide +kernel
theorem dX7_lines_49 : decode cX7_lines 49 = .ok (.return_, 1) := by decide +kernel
theorem dX7_tells_0 : decode cX7_tells 0 = .ok (.iload_n 1, 1) := by decide +kernel
theorem dX7_tells_1 : decode cX7_tells 1 = .ok (.ifCond .ne 10, 3) := by decide +kernel
theorem dX7_tells_4 : decode cX7_tells 4 = .ok (.aload_n 0, 1) := by decide +kernel
theorem dX7_tells_5 : decode cX7_tells 5 = .ok (.getfield 136, 3) := by decide +kernel
theorem dX7_tells_8 : decode cX7_tells 8 = .ok (.goto 19, 3) := by decide +kernel
theorem dX7_tells_11 : decode cX7_tells 11 = .ok (.iload_n 1, 1) := by decide +kernel
theorem dX7_tells_12 : decode cX7_tells 12 = .ok (.iconst 1, 1) := by decide +kernel
theorem dX7_tells_13 : decode cX7_tells 13 = .ok (.if_icmp .ne 10, 3) := by decide +kernel
theorem dX7_tells_16 : decode cX7_tells 16 = .ok (.aload_n 0, 1) := by decide +kernel
theorem dX7_tells_17 : decode cX7_tells 17 = .ok (.getfield 139, 3) := by decide +kernel
theorem dX7_tells_20 : decode cX7_tells 20 = .ok (.goto 7, 3) := by decide +kernel
theorem dX7_tells_23 : decode cX7_tells 23 = .ok (.aload_n 0, 1) := by decide +kernel
theorem dX7_tells_24 : decode cX7_tells 24 = .ok (.getfield 142, 3) := by decide +kernel
theorem dX7_tells_27 : decode cX7_tells 27 = .ok (.ireturn, 1) := by decide +kernel
theorem dX7_hearsAll_0 : decode cX7_hearsAll 0 = .ok (.aload_n 0, 1) := by decide +kernel
theorem dX7_hearsAll_1 : decode cX7_hearsAll 1 = .ok (.iload_n 1, 1) := by decide +kernel
theorem dX7_hearsAll_2 : decode cX7_hearsAll 2 = .ok (.invokevirtual 133, 3) := by decide +kernel
theorem dX7_hearsAll_5 : decode cX7_hearsAll 5 = .ok (.aload_n 0, 1) := by decide +kernel
theorem dX7_hearsAll_6 : decode cX7_hearsAll 6 = .ok (.invokevirtual 114, 3) := by decide +kernel
theorem dX7_hearsAll_9 : decode cX7_hearsAll 9 = .ok (.aload_n 0, 1) := by decide +kernel
theorem dX7_hearsAll_10 : decode cX7_hearsAll 10 = .ok (.aload_n 0, 1) := by decide +kernel
theorem dX7_hearsAll_11 : decode cX7_hearsAll 11 = .ok (.invokevirtual 162, 3) := by decide +kernel
theorem dX7_hearsAll_14 : decode cX7_hearsAll 14 = .ok (.invokevirtual 165, 3) := by decide +kernel
theorem dX7_hearsAll_17 : decode cX7_hearsAll 17 = .ok (.aload_n 0, 1) := by decide +kernel
theorem dX7_hearsAll_18 : decode cX7_hearsAll 18 = .ok (.iload_n 1, 1) := by decide +kernel
theorem dX7_hearsAll_19 : decode cX7_hearsAll 19 = .ok (.invokevirtual 168, 3) := by decide +kernel
theorem dX7_hearsAll_22 : decode cX7_hearsAll 22 = .ok (.return_, 1) := by decide +kernel
theorem dX7_heardNow_0 : decode cX7_heardNow 0 = .ok (.aload_n 0, 1) := by decide +kernel
theorem dX7_heardNow_1 : decode cX7_heardNow 1 = .ok (.iload_n 1, 1) := by decide +kernel
theorem dX7_heardNow_2 : decode cX7_heardNow 2 = .ok (.invokevirtual 171, 3) := by decide +kernel
theorem dX7_heardNow_5 : decode cX7_heardNow 5 = .ok (.aload_n 0, 1) := by decide +kernel
theorem dX7_heardNow_6 : decode cX7_heardNow 6 = .ok (.iload_n 2, 1) := by decide +kernel
theorem dX7_heardNow_7 : decode cX7_heardNow 7 = .ok (.invokevirtual 174, 3) := by decide +kernel
theorem dX7_heardNow_10 : decode cX7_heardNow 10 = .ok (.ireturn, 1) := by decide +kernel
theorem dX7_heard_0 : decode cX7_heard 0 = .ok (.iload_n 1, 1) := by decide +kernel
theorem dX7_heard_1 : decode cX7_heard 1 = .ok (.invokestatic 120, 3) := by decide +kernel
theorem dX7_heard_4 : decode cX7_heard 4 = .ok (.ifCond .eq 21, 3) := by decide +kernel
theorem dX7_heard_7 : decode cX7_heard 7 = .ok (.iload_n 2, 1) := by decide +kernel
theorem dX7_heard_8 : decode cX7_heard 8 = .ok (.iconst 0, 1) := by decide +kernel
theorem dX7_heard_9 : decode cX7_heard 9 = .ok (.iconst 2, 1) := by decide +kernel
theorem dX7_heard_10 : decode cX7_heard 10 = .ok (.invokestatic 71, 3) := by decide +kernel
theorem dX7_heard_13 : decode cX7_heard 13 = .ok (.ifCond .eq 12, 3) := by decide +kernel
theorem dX7_heard_16 : decode cX7_heard 16 = .ok (.aload_n 0, 1) := by decide +kernel
theorem dX7_heard_17 : decode cX7_heard 17 = .ok (.iload_n 1, 1) := by decide +kernel
theorem dX7_heard_18 : decode cX7_heard 18 = .ok (.iload_n 2, 1) := by decide +kernel
theorem dX7_heard_19 : decode cX7_heard 19 = .ok (.invokevirtual 177, 3) := by decide +kernel
theorem dX7_heard_22 : decode cX7_heard 22 = .ok (.goto 5, 3) := by decide +kernel
theorem dX7_heard_25 : decode cX7_heard 25 = .ok (.bipush (-2), 2) := by decide +kernel
theorem dX7_heard_27 : decode cX7_heard 27 = .ok (.ireturn, 1) := by decide +kernel
end
section
theorem dX7_ordered_0 : decode cX7_ordered 0 = .ok (.iload_n 1, 1) := by decide +kernel
theorem dX7_ordered_1 : decode cX7_ordered 1 = .ok (.invokestatic 120, 3) := by decide +kernel
theorem dX7_ordered_4 : decode cX7_ordered 4 = .ok (.ifCond .eq 19, 3) := by decide +kernel
theorem dX7_ordered_7 : decode cX7_ordered 7 = .ok (.iload_n 2, 1) := by decide +kernel
theorem dX7_ordered_8 : decode cX7_ordered 8 = .ok (.invokestatic 90, 3) := by decide +kernel
theorem dX7_ordered_11 : decode cX7_ordered 11 = .ok (.ifCond .eq 12, 3) := by decide +kernel
theorem dX7_ordered_14 : decode cX7_ordered 14 = .ok (.iload_n 3, 1) := by decide +kernel
theorem dX7_ordered_15 : decode cX7_ordered 15 = .ok (.iconst 0, 1) := by decide +kernel
theorem dX7_ordered_16 : decode cX7_ordered 16 = .ok (.iconst 2, 1) := by decide +kernel
theorem dX7_ordered_17 : decode cX7_ordered 17 = .ok (.invokestatic 71, 3) := by decide +kernel
theorem dX7_ordered_20 : decode cX7_ordered 20 = .ok (.ifCond .ne 6, 3) := by decide +kernel
theorem dX7_ordered_23 : decode cX7_ordered 23 = .ok (.bipush (-2), 2) := by decide +kernel
theorem dX7_ordered_25 : decode cX7_ordered 25 = .ok (.ireturn, 1) := by decide +kernel
theorem dX7_ordered_26 : decode cX7_ordered 26 = .ok (.aload_n 0, 1) := by decide +kernel
theorem dX7_ordered_27 : decode cX7_ordered 27 = .ok (.getfield 56, 3) := by decide +kernel
theorem dX7_ordered_30 : decode cX7_ordered 30 = .ok (.iload_n 2, 1) := by decide +kernel
theorem dX7_ordered_31 : decode cX7_ordered 31 = .ok (.baload, 1) := by decide +kernel
theorem dX7_ordered_32 : decode cX7_ordered 32 = .ok (.ifCond .ne 9, 3) := by decide +kernel
theorem dX7_ordered_35 : decode cX7_ordered 35 = .ok (.aload_n 0, 1) := by decide +kernel
theorem dX7_ordered_36 : decode cX7_ordered 36 = .ok (.iconst 1, 1) := by decide +kernel
theorem dX7_ordered_37 : decode cX7_ordered 37 = .ok (.invokevirtual 93, 3) := by decide +kernel
theorem dX7_ordered_40 : decode cX7_ordered 40 = .ok (.ireturn, 1) := by decide +kernel
theorem dX7_ordered_41 : decode cX7_ordered 41 = .ok (.iconst 0, 1) := by decide +kernel
theorem dX7_ordered_42 : decode cX7_ordered 42 = .ok (.istore 4, 2) := by decide +kernel
theorem dX7_ordered_44 : decode cX7_ordered 44 = .ok (.iconst 0, 1) := by decide +kernel
theorem dX7_ordered_45 : decode cX7_ordered 45 = .ok (.istore 5, 2) := by decide +kernel
theorem dX7_ordered_47 : decode cX7_ordered 47 = .ok (.iload 5, 2) := by decide +kernel
theorem dX7_ordered_49 : decode cX7_ordered 49 = .ok (.aload_n 0, 1) := by decide +kernel
theorem dX7_ordered_50 : decode cX7_ordered 50 = .ok (.getfield 62, 3) := by decide +kernel
theorem dX7_ordered_53 : decode cX7_ordered 53 = .ok (.iload_n 2, 1) := by decide +kernel
theorem dX7_ordered_54 : decode cX7_ordered 54 = .ok (.iaload, 1) := by decide +kernel
theorem dX7_ordered_55 : decode cX7_ordered 55 = .ok (.if_icmp .ge 75, 3) := by decide +kernel
theorem dX7_ordered_58 : decode cX7_ordered 58 = .ok (.aload_n 0, 1) := by decide +kernel
theorem dX7_ordered_59 : decode cX7_ordered 59 = .ok (.getfield 65, 3) := by decide +kernel
theorem dX7_ordered_62 : decode cX7_ordered 62 = .ok (.bipush 40, 2) := by decide +kernel
theorem dX7_ordered_64 : decode cX7_ordered 64 = .ok (.iload_n 2, 1) := by decide +kernel
theorem dX7_ordered_65 : decode cX7_ordered 65 = .ok (.imul, 1) := by decide +kernel
theorem dX7_ordered_66 : decode cX7_ordered 66 = .ok (.iload 5, 2) := by decide +kernel
theorem dX7_ordered_68 : decode cX7_ordered 68 = .ok (.iadd, 1) := by decide +kernel
theorem dX7_ordered_69 : decode cX7_ordered 69 = .ok (.iaload, 1) := by decide +kernel
theorem dX7_ordered_70 : decode cX7_ordered 70 = .ok (.istore 6, 2) := by decide +kernel
theorem dX7_ordered_72 : decode cX7_ordered 72 = .ok (.aload_n 0, 1) := by decide +kernel
theorem dX7_ordered_73 : decode cX7_ordered 73 = .ok (.iload 6, 2) := by decide +kernel
theorem dX7_ordered_75 : decode cX7_ordered 75 = .ok (.invokevirtual 111, 3) := by decide +kernel
theorem dX7_ordered_78 : decode cX7_ordered 78 = .ok (.ifCond .eq 25, 3) := by decide +kernel
theorem dX7_ordered_81 : decode cX7_ordered 81 = .ok (.aload_n 0, 1) := by decide +kernel
theorem dX7_ordered_82 : decode cX7_ordered 82 = .ok (.getfield 101, 3) := by decide +kernel
theorem dX7_ordered_85 : decode cX7_ordered 85 = .ok (.iload 6, 2) := by decide +kernel
theorem dX7_ordered_87 : decode cX7_ordered 87 = .ok (.invokestatic 151, 3) := by decide +kernel
theorem dX7_ordered_90 : decode cX7_ordered 90 = .ok (.ifCond .ne 13, 3) := by decide +kernel
theorem dX7_ordered_93 : decode cX7_ordered 93 = .ok (.iload 4, 2) := by decide +kernel
theorem dX7_ordered_95 : decode cX7_ordered 95 = .ok (.iload 6, 2) := by decide +kernel
theorem dX7_ordered_97 : decode cX7_ordered 97 = .ok (.invokestatic 151, 3) := by decide +kernel
theorem dX7_ordered_100 : decode cX7_ordered 100 = .ok (.ifCond .eq 6, 3) := by decide +kernel
theorem dX7_ordered_103 : decode cX7_ordered 103 = .ok (.bipush (-3), 2) := by decide +kernel
theorem dX7_ordered_105 : decode cX7_ordered 105 = .ok (.ireturn, 1) := by decide +kernel
theorem dX7_ordered_106 : decode cX7_ordered 106 = .ok (.iload 4, 2) := by decide +kernel
theorem dX7_ordered_108 : decode cX7_ordered 108 = .ok (.iconst 1, 1) := by decide +kernel
theorem dX7_ordered_109 : decode cX7_ordered 109 = .ok (.iload 6, 2) := by decide +kernel
theorem dX7_ordered_111 : decode cX7_ordered 111 = .ok (.ishl, 1) := by decide +kernel
theorem dX7_ordered_112 : decode cX7_ordered 112 = .ok (.ior, 1) := by decide +kernel
theorem dX7_ordered_113 : decode cX7_ordered 113 = .ok (.istore 4, 2) := by decide +kernel
theorem dX7_ordered_115 : decode cX7_ordered 115 = .ok (.aload_n 0, 1) := by decide +kernel
theorem dX7_ordered_116 : decode cX7_ordered 116 = .ok (.getfield 43, 3) := by decide +kernel
theorem dX7_ordered_119 : decode cX7_ordered 119 = .ok (.iload 5, 2) := by decide +kernel
theorem dX7_ordered_121 : decode cX7_ordered 121 = .ok (.iload 6, 2) := by decide +kernel
theorem dX7_ordered_123 : decode cX7_ordered 123 = .ok (.iastore, 1) := by decide +kernel
theorem dX7_ordered_124 : decode cX7_ordered 124 = .ok (.iinc 5 1, 3) := by decide +kernel
theorem dX7_ordered_127 : decode cX7_ordered 127 = .ok (.goto (-80), 3) := by decide +kernel
theorem dX7_ordered_130 : decode cX7_ordered 130 = .ok (.aload_n 0, 1) := by decide +kernel
theorem dX7_ordered_131 : decode cX7_ordered 131 = .ok (.aload_n 0, 1) := by decide +kernel
theorem dX7_ordered_132 : decode cX7_ordered 132 = .ok (.getfield 62, 3) := by decide +kernel
theorem dX7_ordered_135 : decode cX7_ordered 135 = .ok (.iload_n 2, 1) := by decide +kernel
theorem dX7_ordered_136 : decode cX7_ordered 136 = .ok (.iaload, 1) := by decide +kernel
theorem dX7_ordered_137 : decode cX7_ordered 137 = .ok (.putfield 145, 3) := by decide +kernel
theorem dX7_ordered_140 : decode cX7_ordered 140 = .ok (.aload_n 0, 1) := by decide +kernel
theorem dX7_ordered_141 : decode cX7_ordered 141 = .ok (.iload_n 1, 1) := by decide +kernel
theorem dX7_ordered_142 : decode cX7_ordered 142 = .ok (.invokevirtual 133, 3) := by decide +kernel
theorem dX7_ordered_145 : decode cX7_ordered 145 = .ok (.aload_n 0, 1) := by decide +kernel
theorem dX7_ordered_146 : decode cX7_ordered 146 = .ok (.invokevirtual 114, 3) := by decide +kernel
theorem dX7_ordered_149 : decode cX7_ordered 149 = .ok (.aload_n 0, 1) := by decide +kernel
theorem dX7_ordered_150 : decode cX7_ordered 150 = .ok (.iload_n 1, 1) := by decide +kernel
theorem dX7_ordered_151 : decode cX7_ordered 151 = .ok (.invokevirtual 168, 3) := by decide +kernel
theorem dX7_ordered_154 : decode cX7_ordered 154 = .ok (.aload_n 0, 1) := by decide +kernel
theorem dX7_ordered_155 : decode cX7_ordered 155 = .ok (.iload_n 3, 1) := by decide +kernel
theorem dX7_ordered_156 : decode cX7_ordered 156 = .ok (.invokevirtual 174, 3) := by decide +kernel
theorem dX7_ordered_159 : decode cX7_ordered 159 = .ok (.ireturn, 1) := by decide +kernel
theorem dX7_headNow_0 : decode cX7_headNow 0 = .ok (.iconst 0, 1) := by decide +kernel
theorem dX7_headNow_1 : decode cX7_headNow 1 = .ok (.istore_n 2, 1) := by decide +kernel
theorem dX7_headNow_2 : decode cX7_headNow 2 = .ok (.iconst 0, 1) := by decide +kernel
theorem dX7_headNow_3 : decode cX7_headNow 3 = .ok (.istore_n 3, 1) := by decide +kernel
theorem dX7_headNow_4 : decode cX7_headNow 4 = .ok (.iload_n 3, 1) := by decide +kernel
theorem dX7_headNow_5 : decode cX7_headNow 5 = .ok (.aload_n 0, 1) := by decide +kernel
theorem dX7_headNow_6 : decode cX7_headNow 6 = .ok (.getfield 82, 3) := by decide +kernel
theorem dX7_headNow_9 : decode cX7_headNow 9 = .ok (.if_icmp .ge 55, 3) := by decide +kernel
theorem dX7_headNow_12 : decode cX7_headNow 12 = .ok (.iload_n 2, 1) := by decide +kernel
theorem dX7_headNow_13 : decode cX7_headNow 13 = .ok (.aload_n 0, 1) := by decide +kernel
theorem dX7_headNow_14 : decode cX7_headNow 14 = .ok (.getfield 16, 3) := by decide +kernel
theorem dX7_headNow_17 : decode cX7_headNow 17 = .ok (.iload_n 3, 1) := by decide +kernel
theorem dX7_headNow_18 : decode cX7_headNow 18 = .ok (.iaload, 1) := by decide +kernel
theorem dX7_headNow_19 : decode cX7_headNow 19 = .ok (.ifCond .ne 36, 3) := by decide +kernel
theorem dX7_headNow_22 : decode cX7_headNow 22 = .ok (.aload_n 0, 1) := by decide +kernel
theorem dX7_headNow_23 : decode cX7_headNow 23 = .ok (.getfield 139, 3) := by decide +kernel
theorem dX7_headNow_26 : decode cX7_headNow 26 = .ok (.iload_n 3, 1) := by decide +kernel
theorem dX7_headNow_27 : decode cX7_headNow 27 = .ok (.invokestatic 151, 3) := by decide +kernel
theorem dX7_headNow_30 : decode cX7_headNow 30 = .ok (.ifCond .eq 25, 3) := by decide +kernel
theorem dX7_headNow_33 : decode cX7_headNow 33 = .ok (.aload_n 0, 1) := by decide +kernel
theorem dX7_headNow_34 : decode cX7_headNow 34 = .ok (.getfield 19, 3) := by decide +kernel
theorem dX7_headNow_37 : decode cX7_headNow 37 = .ok (.iload_n 3, 1) := by decide +kernel
theorem dX7_headNow_38 : decode cX7_headNow 38 = .ok (.iaload, 1) := by decide +kernel
theorem dX7_headNow_39 : decode cX7_headNow 39 = .ok (.iload_n 1, 1) := by decide +kernel
theorem dX7_headNow_40 : decode cX7_headNow 40 = .ok (.invokestatic 151, 3) := by decide +kernel
theorem dX7_headNow_43 : decode cX7_headNow 43 = .ok (.ifCond .eq 12, 3) := by decide +kernel
theorem dX7_headNow_46 : decode cX7_headNow 46 = .ok (.aload_n 0, 1) := by decide +kernel
theorem dX7_headNow_47 : decode cX7_headNow 47 = .ok (.getfield 28, 3) := by decide +kernel
theorem dX7_headNow_50 : decode cX7_headNow 50 = .ok (.iload_n 3, 1) := by decide +kernel
theorem dX7_headNow_51 : decode cX7_headNow 51 = .ok (.iaload, 1) := by decide +kernel
theorem dX7_headNow_52 : decode cX7_headNow 52 = .ok (.goto 4, 3) := by decide +kernel
theorem dX7_headNow_55 : decode cX7_headNow 55 = .ok (.iconst 0, 1) := by decide +kernel
theorem dX7_headNow_56 : decode cX7_headNow 56 = .ok (.iadd, 1) := by decide +kernel
theorem dX7_headNow_57 : decode cX7_headNow 57 = .ok (.istore_n 2, 1) := by decide +kernel
theorem dX7_headNow_58 : decode cX7_headNow 58 = .ok (.iinc 3 1, 3) := by decide +kernel
theorem dX7_headNow_61 : decode cX7_headNow 61 = .ok (.goto (-57), 3) := by decide +kernel
theorem dX7_headNow_64 : decode cX7_headNow 64 = .ok (.iload_n 2, 1) := by decide +kernel
theorem dX7_headNow_65 : decode cX7_headNow 65 = .ok (.ireturn, 1) := by decide +kernel
theorem dX7_head_0 : decode cX7_head 0 = .ok (.iload_n 1, 1) := by decide +kernel
theorem dX7_head_1 : decode cX7_head 1 = .ok (.invokestatic 120, 3) := by decide +kernel
theorem dX7_head_4 : decode cX7_head 4 = .ok (.ifCond .eq 13, 3) := by decide +kernel
theorem dX7_head_7 : decode cX7_head 7 = .ok (.iload_n 2, 1) := by decide +kernel
theorem dX7_head_8 : decode cX7_head 8 = .ok (.iconst 0, 1) := by decide +kernel
theorem dX7_head_9 : decode cX7_head 9 = .ok (.bipush 9, 2) := by decide +kernel
theorem dX7_head_11 : decode cX7_head 11 = .ok (.invokestatic 71, 3) := by decide +kernel
theorem dX7_head_14 : decode cX7_head 14 = .ok (.ifCond .ne 6, 3) := by decide +kernel
theorem dX7_head_17 : decode cX7_head 17 = .ok (.bipush (-2), 2) := by decide +kernel
theorem dX7_head_19 : decode cX7_head 19 = .ok (.ireturn, 1) := by decide +kernel
theorem dX7_head_20 : decode cX7_head 20 = .ok (.aload_n 0, 1) := by decide +kernel
theorem dX7_head_21 : decode cX7_head 21 = .ok (.iload_n 1, 1) := by decide +kernel
theorem dX7_head_22 : decode cX7_head 22 = .ok (.invokevirtual 171, 3) := by decide +kernel
theorem dX7_head_25 : decode cX7_head 25 = .ok (.aload_n 0, 1) := by decide +kernel
theorem dX7_head_26 : decode cX7_head 26 = .ok (.iload_n 2, 1) := by decide +kernel
theorem dX7_head_27 : decode cX7_head 27 = .ok (.invokevirtual 180, 3) := by decide +kernel
theorem dX7_head_30 : decode cX7_head 30 = .ok (.ireturn, 1) := by decide +kernel
theorem dX7_turns_0 : decode cX7_turns 0 = .ok (.aload_n 0, 1) := by decide +kernel
theorem dX7_turns_1 : decode cX7_turns 1 = .ok (.getfield 145, 3) := by decide +kernel
theorem dX7_turns_4 : decode cX7_turns 4 = .ok (.iconst 2, 1) := by decide +kernel
theorem dX7_turns_5 : decode cX7_turns 5 = .ok (.isub, 1) := by decide +kernel
theorem dX7_turns_6 : decode cX7_turns 6 = .ok (.istore_n 1, 1) := by decide +kernel
theorem dX7_turns_7 : decode cX7_turns 7 = .ok (.iload_n 1, 1) := by decide +kernel
theorem dX7_turns_8 : decode cX7_turns 8 = .ok (.ifCond .lt 26, 3) := by decide +kernel
theorem dX7_turns_11 : decode cX7_turns 11 = .ok (.aload_n 0, 1) := by decide +kernel
theorem dX7_turns_12 : decode cX7_turns 12 = .ok (.getfield 43, 3) := by decide +kernel
theorem dX7_turns_15 : decode cX7_turns 15 = .ok (.iload_n 1, 1) := by decide +kernel
theorem dX7_turns_16 : decode cX7_turns 16 = .ok (.iaload, 1) := by decide +kernel
theorem dX7_turns_17 : decode cX7_turns 17 = .ok (.aload_n 0, 1) := by decide +kernel
theorem dX7_turns_18 : decode cX7_turns 18 = .ok (.getfield 43, 3) := by decide +kernel
theorem dX7_turns_21 : decode cX7_turns 21 = .ok (.iload_n 1, 1) := by decide +kernel
theorem dX7_turns_22 : decode cX7_turns 22 = .ok (.iconst 1, 1) := by decide +kernel
theorem dX7_turns_23 : decode cX7_turns 23 = .ok (.iadd, 1) := by decide +kernel
theorem dX7_turns_24 : decode cX7_turns 24 = .ok (.iaload, 1) := by decide +kernel
theorem dX7_turns_25 : decode cX7_turns 25 = .ok (.if_icmp .le 9, 3) := by decide +kernel
theorem dX7_turns_28 : decode cX7_turns 28 = .ok (.iinc 1 (-1), 3) := by decide +kernel
theorem dX7_turns_31 : decode cX7_turns 31 = .ok (.goto (-24), 3) := by decide +kernel
theorem dX7_turns_34 : decode cX7_turns 34 = .ok (.iload_n 1, 1) := by decide +kernel
theorem dX7_turns_35 : decode cX7_turns 35 = .ok (.ifCond .ge 5, 3) := by decide +kernel
theorem dX7_turns_38 : decode cX7_turns 38 = .ok (.iconst 0, 1) := by decide +kernel
theorem dX7_turns_39 : decode cX7_turns 39 = .ok (.ireturn, 1) := by decide +kernel
theorem dX7_turns_40 : decode cX7_turns 40 = .ok (.aload_n 0, 1) := by decide +kernel
theorem dX7_turns_41 : decode cX7_turns 41 = .ok (.getfield 145, 3) := by decide +kernel
theorem dX7_turns_44 : decode cX7_turns 44 = .ok (.iconst 1, 1) := by decide +kernel
theorem dX7_turns_45 : decode cX7_turns 45 = .ok (.isub, 1) := by decide +kernel
theorem dX7_turns_46 : decode cX7_turns 46 = .ok (.istore_n 2, 1) := by decide +kernel
theorem dX7_turns_47 : decode cX7_turns 47 = .ok (.aload_n 0, 1) := by decide +kernel
theorem dX7_turns_48 : decode cX7_turns 48 = .ok (.getfield 43, 3) := by decide +kernel
theorem dX7_turns_51 : decode cX7_turns 51 = .ok (.iload_n 2, 1) := by decide +kernel
theorem dX7_turns_52 : decode cX7_turns 52 = .ok (.iaload, 1) := by decide +kernel
theorem dX7_turns_53 : decode cX7_turns 53 = .ok (.aload_n 0, 1) := by decide +kernel
theorem dX7_turns_54 : decode cX7_turns 54 = .ok (.getfield 43, 3) := by decide +kernel
theorem dX7_turns_57 : decode cX7_turns 57 = .ok (.iload_n 1, 1) := by decide +kernel
theorem dX7_turns_58 : decode cX7_turns 58 = .ok (.iaload, 1) := by decide +kernel
theorem dX7_turns_59 : decode cX7_turns 59 = .ok (.if_icmp .ge 9, 3) := by decide +kernel
theorem dX7_turns_62 : decode cX7_turns 62 = .ok (.iinc 2 (-1), 3) := by decide +kernel
theorem dX7_turns_65 : decode cX7_turns 65 = .ok (.goto (-18), 3) := by decide +kernel
theorem dX7_turns_68 : decode cX7_turns 68 = .ok (.aload_n 0, 1) := by decide +kernel
theorem dX7_turns_69 : decode cX7_turns 69 = .ok (.getfield 43, 3) := by decide +kernel
theorem dX7_turns_72 : decode cX7_turns 72 = .ok (.iload_n 1, 1) := by decide +kernel
theorem dX7_turns_73 : decode cX7_turns 73 = .ok (.iaload, 1) := by decide +kernel
theorem dX7_turns_74 : decode cX7_turns 74 = .ok (.istore_n 3, 1) := by decide +kernel
theorem dX7_turns_75 : decode cX7_turns 75 = .ok (.aload_n 0, 1) := by decide +kernel
theorem dX7_turns_76 : decode cX7_turns 76 = .ok (.getfield 43, 3) := by decide +kernel
theorem dX7_turns_79 : decode cX7_turns 79 = .ok (.iload_n 1, 1) := by decide +kernel
theorem dX7_turns_80 : decode cX7_turns 80 = .ok (.aload_n 0, 1) := by decide +kernel
theorem dX7_turns_81 : decode cX7_turns 81 = .ok (.getfield 43, 3) := by decide +kernel
theorem dX7_turns_84 : decode cX7_turns 84 = .ok (.iload_n 2, 1) := by decide +kernel
theorem dX7_turns_85 : decode cX7_turns 85 = .ok (.iaload, 1) := by decide +kernel
theorem dX7_turns_86 : decode cX7_turns 86 = .ok (.iastore, 1) := by decide +kernel
theorem dX7_turns_87 : decode cX7_turns 87 = .ok (.aload_n 0, 1) := by decide +kernel
theorem dX7_turns_88 : decode cX7_turns 88 = .ok (.getfield 43, 3) := by decide +kernel
theorem dX7_turns_91 : decode cX7_turns 91 = .ok (.iload_n 2, 1) := by decide +kernel
theorem dX7_turns_92 : decode cX7_turns 92 = .ok (.iload_n 3, 1) := by decide +kernel
theorem dX7_turns_93 : decode cX7_turns 93 = .ok (.iastore, 1) := by decide +kernel
theorem dX7_turns_94 : decode cX7_turns 94 = .ok (.iload_n 1, 1) := by decide +kernel
theorem dX7_turns_95 : decode cX7_turns 95 = .ok (.iconst 1, 1) := by decide +kernel
theorem dX7_turns_96 : decode cX7_turns 96 = .ok (.iadd, 1) := by decide +kernel
theorem dX7_turns_97 : decode cX7_turns 97 = .ok (.istore 4, 2) := by decide +kernel
theorem dX7_turns_99 : decode cX7_turns 99 = .ok (.aload_n 0, 1) := by decide +kernel
theorem dX7_turns_100 : decode cX7_turns 100 = .ok (.getfield 145, 3) := by decide +kernel
theorem dX7_turns_103 : decode cX7_turns 103 = .ok (.iconst 1, 1) := by decide +kernel
theorem dX7_turns_104 : decode cX7_turns 104 = .ok (.isub, 1) := by decide +kernel
theorem dX7_turns_105 : decode cX7_turns 105 = .ok (.istore 5, 2) := by decide +kernel
theorem dX7_turns_107 : decode cX7_turns 107 = .ok (.iload 4, 2) := by decide +kernel
theorem dX7_turns_109 : decode cX7_turns 109 = .ok (.iload 5, 2) := by decide +kernel
theorem dX7_turns_111 : decode cX7_turns 111 = .ok (.if_icmp .ge 42, 3) := by decide +kernel
theorem dX7_turns_114 : decode cX7_turns 114 = .ok (.aload_n 0, 1) := by decide +kernel
theorem dX7_turns_115 : decode cX7_turns 115 = .ok (.getfield 43, 3) := by decide +kernel
theorem dX7_turns_118 : decode cX7_turns 118 = .ok (.iload 4, 2) := by decide +kernel
theorem dX7_turns_120 : decode cX7_turns 120 = .ok (.iaload, 1) := by decide +kernel
theorem dX7_turns_121 : decode cX7_turns 121 = .ok (.istore_n 3, 1) := by decide +kernel
theorem dX7_turns_122 : decode cX7_turns 122 = .ok (.aload_n 0, 1) := by decide +kernel
theorem dX7_turns_123 : decode cX7_turns 123 = .ok (.getfield 43, 3) := by decide +kernel
theorem dX7_turns_126 : decode cX7_turns 126 = .ok (.iload 4, 2) := by decide +kernel
theorem dX7_turns_128 : decode cX7_turns 128 = .ok (.aload_n 0, 1) := by decide +kernel
theorem dX7_turns_129 : decode cX7_turns 129 = .ok (.getfield 43, 3) := by decide +kernel
theorem dX7_turns_132 : decode cX7_turns 132 = .ok (.iload 5, 2) := by decide +kernel
theorem dX7_turns_134 : decode cX7_turns 134 = .ok (.iaload, 1) := by decide +kernel
theorem dX7_turns_135 : decode cX7_turns 135 = .ok (.iastore, 1) := by decide +kernel
theorem dX7_turns_136 : decode cX7_turns 136 = .ok (.aload_n 0, 1) := by decide +kernel
theorem dX7_turns_137 : decode cX7_turns 137 = .ok (.getfield 43, 3) := by decide +kernel
theorem dX7_turns_140 : decode cX7_turns 140 = .ok (.iload 5, 2) := by decide +kernel
theorem dX7_turns_142 : decode cX7_turns 142 = .ok (.iload_n 3, 1) := by decide +kernel
theorem dX7_turns_143 : decode cX7_turns 143 = .ok (.iastore, 1) := by decide +kernel
theorem dX7_turns_144 : decode cX7_turns 144 = .ok (.iinc 4 1, 3) := by decide +kernel
theorem dX7_turns_147 : decode cX7_turns 147 = .ok (.iinc 5 (-1), 3) := by decide +kernel
theorem dX7_turns_150 : decode cX7_turns 150 = .ok (.goto (-43), 3) := by decide +kernel
theorem dX7_turns_153 : decode cX7_turns 153 = .ok (.iconst 1, 1) := by decide +kernel
theorem dX7_turns_154 : decode cX7_turns 154 = .ok (.ireturn, 1) := by decide +kernel
theorem dX7_orders_0 : decode cX7_orders 0 = .ok (.iload_n 1, 1) := by decide +kernel
theorem dX7_orders_1 : decode cX7_orders 1 = .ok (.invokestatic 120, 3) := by decide +kernel
theorem dX7_orders_4 : decode cX7_orders 4 = .ok (.ifCond .eq 16, 3) := by decide +kernel
theorem dX7_orders_7 : decode cX7_orders 7 = .ok (.iload_n 2, 1) := by decide +kernel
theorem dX7_orders_8 : decode cX7_orders 8 = .ok (.iconst (-1), 1) := by decide +kernel
theorem dX7_orders_9 : decode cX7_orders 9 = .ok (.if_icmp .eq 14, 3) := by decide +kernel
theorem dX7_orders_12 : decode cX7_orders 12 = .ok (.aload_n 0, 1) := by decide +kernel
theorem dX7_orders_13 : decode cX7_orders 13 = .ok (.iload_n 2, 1) := by decide +kernel
theorem dX7_orders_14 : decode cX7_orders 14 = .ok (.invokevirtual 111, 3) := by decide +kernel
theorem dX7_orders_17 : decode cX7_orders 17 = .ok (.ifCond .ne 6, 3) := by decide +kernel
theorem dX7_orders_20 : decode cX7_orders 20 = .ok (.bipush (-2), 2) := by decide +kernel
theorem dX7_orders_22 : decode cX7_orders 22 = .ok (.ireturn, 1) := by decide +kernel
theorem dX7_orders_23 : decode cX7_orders 23 = .ok (.aload_n 0, 1) := by decide +kernel
theorem dX7_orders_24 : decode cX7_orders 24 = .ok (.iload_n 1, 1) := by decide +kernel
theorem dX7_orders_25 : decode cX7_orders 25 = .ok (.invokevirtual 133, 3) := by decide +kernel
theorem dX7_orders_28 : decode cX7_orders 28 = .ok (.aload_n 0, 1) := by decide +kernel
theorem dX7_orders_29 : decode cX7_orders 29 = .ok (.invokevirtual 114, 3) := by decide +kernel
theorem dX7_orders_32 : decode cX7_orders 32 = .ok (.aload_n 0, 1) := by decide +kernel
theorem dX7_orders_33 : decode cX7_orders 33 = .ok (.aload_n 0, 1) := by decide +kernel
theorem dX7_orders_34 : decode cX7_orders 34 = .ok (.invokevirtual 162, 3) := by decide +kernel
theorem dX7_orders_37 : decode cX7_orders 37 = .ok (.invokevirtual 165, 3) := by decide +kernel
theorem dX7_orders_40 : decode cX7_orders 40 = .ok (.aload_n 0, 1) := by decide +kernel
theorem dX7_orders_41 : decode cX7_orders 41 = .ok (.getfield 145, 3) := by decide +kernel
theorem dX7_orders_44 : decode cX7_orders 44 = .ok (.bipush 7, 2) := by decide +kernel
theorem dX7_orders_46 : decode cX7_orders 46 = .ok (.if_icmp .le 6, 3) := by decide +kernel
theorem dX7_orders_49 : decode cX7_orders 49 = .ok (.bipush (-4), 2) := by decide +kernel
theorem dX7_orders_51 : decode cX7_orders 51 = .ok (.ireturn, 1) := by decide +kernel
theorem dX7_orders_52 : decode cX7_orders 52 = .ok (.iconst 0, 1) := by decide +kernel
theorem dX7_orders_53 : decode cX7_orders 53 = .ok (.istore_n 3, 1) := by decide +kernel
theorem dX7_orders_54 : decode cX7_orders 54 = .ok (.iconst 1, 1) := by decide +kernel
theorem dX7_orders_55 : decode cX7_orders 55 = .ok (.istore 4, 2) := by decide +kernel
theorem dX7_orders_57 : decode cX7_orders 57 = .ok (.iload 4, 2) := by decide +kernel
theorem dX7_orders_59 : decode cX7_orders 59 = .ok (.ifCond .eq 41, 3) := by decide +kernel
theorem dX7_orders_62 : decode cX7_orders 62 = .ok (.aload_n 0, 1) := by decide +kernel
theorem dX7_orders_63 : decode cX7_orders 63 = .ok (.iload_n 1, 1) := by decide +kernel
theorem dX7_orders_64 : decode cX7_orders 64 = .ok (.invokevirtual 168, 3) := by decide +kernel
theorem dX7_orders_67 : decode cX7_orders 67 = .ok (.iload_n 3, 1) := by decide +kernel
theorem dX7_orders_68 : decode cX7_orders 68 = .ok (.iload_n 2, 1) := by decide +kernel
theorem dX7_orders_69 : decode cX7_orders 69 = .ok (.iconst (-1), 1) := by decide +kernel
theorem dX7_orders_70 : decode cX7_orders 70 = .ok (.if_icmp .eq 14, 3) := by decide +kernel
theorem dX7_orders_73 : decode cX7_orders 73 = .ok (.aload_n 0, 1) := by decide +kernel
theorem dX7_orders_74 : decode cX7_orders 74 = .ok (.getfield 136, 3) := by decide +kernel
theorem dX7_orders_77 : decode cX7_orders 77 = .ok (.iload_n 2, 1) := by decide +kernel
theorem dX7_orders_78 : decode cX7_orders 78 = .ok (.invokestatic 151, 3) := by decide +kernel
theorem dX7_orders_81 : decode cX7_orders 81 = .ok (.ifCond .eq 7, 3) := by decide +kernel
theorem dX7_orders_84 : decode cX7_orders 84 = .ok (.iconst 1, 1) := by decide +kernel
theorem dX7_orders_85 : decode cX7_orders 85 = .ok (.goto 4, 3) := by decide +kernel
theorem dX7_orders_88 : decode cX7_orders 88 = .ok (.iconst 0, 1) := by decide +kernel
theorem dX7_orders_89 : decode cX7_orders 89 = .ok (.iadd, 1) := by decide +kernel
theorem dX7_orders_90 : decode cX7_orders 90 = .ok (.istore_n 3, 1) := by decide +kernel
theorem dX7_orders_91 : decode cX7_orders 91 = .ok (.aload_n 0, 1) := by decide +kernel
theorem dX7_orders_92 : decode cX7_orders 92 = .ok (.invokevirtual 183, 3) := by decide +kernel
theorem dX7_orders_95 : decode cX7_orders 95 = .ok (.istore 4, 2) := by decide +kernel
theorem dX7_orders_97 : decode cX7_orders 97 = .ok (.goto (-40), 3) := by decide +kernel
theorem dX7_orders_100 : decode cX7_orders 100 = .ok (.iload_n 3, 1) := by decide +kernel
theorem dX7_orders_101 : decode cX7_orders 101 = .ok (.ireturn, 1) := by decide +kernel
theorem dX7_hits_0 : decode cX7_hits 0 = .ok (.aload_n 0, 1) := by decide +kernel
theorem dX7_hits_1 : decode cX7_hits 1 = .ok (.getfield 104, 3) := by decide +kernel
theorem dX7_hits_4 : decode cX7_hits 4 = .ok (.iload_n 1, 1) := by decide +kernel
theorem dX7_hits_5 : decode cX7_hits 5 = .ok (.invokestatic 151, 3) := by decide +kernel
theorem dX7_hits_8 : decode cX7_hits 8 = .ok (.ifCond .eq 15, 3) := by decide +kernel
theorem dX7_hits_11 : decode cX7_hits 11 = .ok (.aload_n 0, 1) := by decide +kernel
theorem dX7_hits_12 : decode cX7_hits 12 = .ok (.getfield 28, 3) := by decide +kernel
theorem dX7_hits_15 : decode cX7_hits 15 = .ok (.iload_n 1, 1) := by decide +kernel
theorem dX7_hits_16 : decode cX7_hits 16 = .ok (.iaload, 1) := by decide +kernel
theorem dX7_hits_17 : decode cX7_hits 17 = .ok (.iload_n 2, 1) := by decide +kernel
theorem dX7_hits_18 : decode cX7_hits 18 = .ok (.if_icmp .ne 5, 3) := by decide +kernel
theorem dX7_hits_21 : decode cX7_hits 21 = .ok (.iconst 1, 1) := by decide +kernel
theorem dX7_hits_22 : decode cX7_hits 22 = .ok (.ireturn, 1) := by decide +kernel
theorem dX7_hits_23 : decode cX7_hits 23 = .ok (.aload_n 0, 1) := by decide +kernel
theorem dX7_hits_24 : decode cX7_hits 24 = .ok (.iload_n 1, 1) := by decide +kernel
theorem dX7_hits_25 : decode cX7_hits 25 = .ok (.iload_n 2, 1) := by decide +kernel
theorem dX7_hits_26 : decode cX7_hits 26 = .ok (.invokevirtual 155, 3) := by decide +kernel
theorem dX7_hits_29 : decode cX7_hits 29 = .ok (.ifCond .ne 5, 3) := by decide +kernel
theorem dX7_hits_32 : decode cX7_hits 32 = .ok (.iconst 0, 1) := by decide +kernel
theorem dX7_hits_33 : decode cX7_hits 33 = .ok (.ireturn, 1) := by decide +kernel
theorem dX7_hits_34 : decode cX7_hits 34 = .ok (.aload_n 0, 1) := by decide +kernel
theorem dX7_hits_35 : decode cX7_hits 35 = .ok (.getfield 19, 3) := by decide +kernel
theorem dX7_hits_38 : decode cX7_hits 38 = .ok (.iload_n 1, 1) := by decide +kernel
theorem dX7_hits_39 : decode cX7_hits 39 = .ok (.iaload, 1) := by decide +kernel
theorem dX7_hits_40 : decode cX7_hits 40 = .ok (.invokestatic 148, 3) := by decide +kernel
theorem dX7_hits_43 : decode cX7_hits 43 = .ok (.istore 4, 2) := by decide +kernel
theorem dX7_hits_45 : decode cX7_hits 45 = .ok (.aload_n 0, 1) := by decide +kernel
theorem dX7_hits_46 : decode cX7_hits 46 = .ok (.getfield 19, 3) := by decide +kernel
theorem dX7_hits_49 : decode cX7_hits 49 = .ok (.iload_n 2, 1) := by decide +kernel
theorem dX7_hits_50 : decode cX7_hits 50 = .ok (.iaload, 1) := by decide +kernel
theorem dX7_hits_51 : decode cX7_hits 51 = .ok (.invokestatic 148, 3) := by decide +kernel
theorem dX7_hits_54 : decode cX7_hits 54 = .ok (.istore 5, 2) := by decide +kernel
theorem dX7_hits_56 : decode cX7_hits 56 = .ok (.iload_n 3, 1) := by decide +kernel
theorem dX7_hits_57 : decode cX7_hits 57 = .ok (.ifCond .eq 25, 3) := by decide +kernel
theorem dX7_hits_60 : decode cX7_hits 60 = .ok (.iload_n 3, 1) := by decide +kernel
theorem dX7_hits_61 : decode cX7_hits 61 = .ok (.iconst 1, 1) := by decide +kernel
theorem dX7_hits_62 : decode cX7_hits 62 = .ok (.if_icmp .ne 8, 3) := by decide +kernel
theorem dX7_hits_65 : decode cX7_hits 65 = .ok (.iload_n 1, 1) := by decide +kernel
theorem dX7_hits_66 : decode cX7_hits 66 = .ok (.iload_n 2, 1) := by decide +kernel
theorem dX7_hits_67 : decode cX7_hits 67 = .ok (.if_icmp .lt 15, 3) := by decide +kernel
theorem dX7_hits_70 : decode cX7_hits 70 = .ok (.iload_n 3, 1) := by decide +kernel
theorem dX7_hits_71 : decode cX7_hits 71 = .ok (.iconst 2, 1) := by decide +kernel
theorem dX7_hits_72 : decode cX7_hits 72 = .ok (.if_icmp .ne 14, 3) := by decide +kernel
theorem dX7_hits_75 : decode cX7_hits 75 = .ok (.iload 4, 2) := by decide +kernel
theorem dX7_hits_77 : decode cX7_hits 77 = .ok (.iload 5, 2) := by decide +kernel
theorem dX7_hits_79 : decode cX7_hits 79 = .ok (.if_icmp .lt 7, 3) := by decide +kernel
theorem dX7_hits_82 : decode cX7_hits 82 = .ok (.iconst 1, 1) := by decide +kernel
theorem dX7_hits_83 : decode cX7_hits 83 = .ok (.goto 4, 3) := by decide +kernel
theorem dX7_hits_86 : decode cX7_hits 86 = .ok (.iconst 0, 1) := by decide +kernel
theorem dX7_hits_87 : decode cX7_hits 87 = .ok (.ireturn, 1) := by decide +kernel
theorem dX7_meetsAll_0 : decode cX7_meetsAll 0 = .ok (.aload_n 0, 1) := by decide +kernel
theorem dX7_meetsAll_1 : decode cX7_meetsAll 1 = .ok (.iload_n 1, 1) := by decide +kernel
theorem dX7_meetsAll_2 : decode cX7_meetsAll 2 = .ok (.invokevirtual 133, 3) := by decide +kernel
theorem dX7_meetsAll_5 : decode cX7_meetsAll 5 = .ok (.aload_n 0, 1) := by decide +kernel
theorem dX7_meetsAll_6 : decode cX7_meetsAll 6 = .ok (.invokevirtual 114, 3) := by decide +kernel
theorem dX7_meetsAll_9 : decode cX7_meetsAll 9 = .ok (.aload_n 0, 1) := by decide +kernel
theorem dX7_meetsAll_10 : decode cX7_meetsAll 10 = .ok (.iconst 0, 1) := by decide +kernel
theorem dX7_meetsAll_11 : decode cX7_meetsAll 11 = .ok (.putfield 187, 3) := by decide +kernel
theorem dX7_meetsAll_14 : decode cX7_meetsAll 14 = .ok (.iconst 0, 1) := by decide +kernel
theorem dX7_meetsAll_15 : decode cX7_meetsAll 15 = .ok (.istore_n 3, 1) := by decide +kernel
theorem dX7_meetsAll_16 : decode cX7_meetsAll 16 = .ok (.iload_n 3, 1) := by decide +kernel
theorem dX7_meetsAll_17 : decode cX7_meetsAll 17 = .ok (.aload_n 0, 1) := by decide +kernel
theorem dX7_meetsAll_18 : decode cX7_meetsAll 18 = .ok (.getfield 82, 3) := by decide +kernel
theorem dX7_meetsAll_21 : decode cX7_meetsAll 21 = .ok (.if_icmp .ge 53, 3) := by decide +kernel
theorem dX7_meetsAll_24 : decode cX7_meetsAll 24 = .ok (.aload_n 0, 1) := by decide +kernel
theorem dX7_meetsAll_25 : decode cX7_meetsAll 25 = .ok (.dup, 1) := by decide +kernel
theorem dX7_meetsAll_26 : decode cX7_meetsAll 26 = .ok (.getfield 187, 3) := by decide +kernel
theorem dX7_meetsAll_29 : decode cX7_meetsAll 29 = .ok (.iload_n 2, 1) := by decide +kernel
theorem dX7_meetsAll_30 : decode cX7_meetsAll 30 = .ok (.iload_n 3, 1) := by decide +kernel
theorem dX7_meetsAll_31 : decode cX7_meetsAll 31 = .ok (.invokestatic 151, 3) := by decide +kernel
theorem dX7_meetsAll_34 : decode cX7_meetsAll 34 = .ok (.ifCond .eq 29, 3) := by decide +kernel
theorem dX7_meetsAll_37 : decode cX7_meetsAll 37 = .ok (.aload_n 0, 1) := by decide +kernel
theorem dX7_meetsAll_38 : decode cX7_meetsAll 38 = .ok (.getfield 19, 3) := by decide +kernel
theorem dX7_meetsAll_41 : decode cX7_meetsAll 41 = .ok (.iload_n 3, 1) := by decide +kernel
theorem dX7_meetsAll_42 : decode cX7_meetsAll 42 = .ok (.iaload, 1) := by decide +kernel
theorem dX7_meetsAll_43 : decode cX7_meetsAll 43 = .ok (.invokestatic 148, 3) := by decide +kernel
theorem dX7_meetsAll_46 : decode cX7_meetsAll 46 = .ok (.aload_n 0, 1) := by decide +kernel
theorem dX7_meetsAll_47 : decode cX7_meetsAll 47 = .ok (.getfield 40, 3) := by decide +kernel
theorem dX7_meetsAll_50 : decode cX7_meetsAll 50 = .ok (.iconst 4, 1) := by decide +kernel
theorem dX7_meetsAll_51 : decode cX7_meetsAll 51 = .ok (.iload_n 1, 1) := by decide +kernel
theorem dX7_meetsAll_52 : decode cX7_meetsAll 52 = .ok (.imul, 1) := by decide +kernel
theorem dX7_meetsAll_53 : decode cX7_meetsAll 53 = .ok (.iaload, 1) := by decide +kernel
theorem dX7_meetsAll_54 : decode cX7_meetsAll 54 = .ok (.if_icmp .lt 9, 3) := by decide +kernel
theorem dX7_meetsAll_57 : decode cX7_meetsAll 57 = .ok (.iconst 1, 1) := by decide +kernel
theorem dX7_meetsAll_58 : decode cX7_meetsAll 58 = .ok (.iload_n 3, 1) := by decide +kernel
theorem dX7_meetsAll_59 : decode cX7_meetsAll 59 = .ok (.ishl, 1) := by decide +kernel
theorem dX7_meetsAll_60 : decode cX7_meetsAll 60 = .ok (.goto 4, 3) := by decide +kernel
theorem dX7_meetsAll_63 : decode cX7_meetsAll 63 = .ok (.iconst 0, 1) := by decide +kernel
theorem dX7_meetsAll_64 : decode cX7_meetsAll 64 = .ok (.ior, 1) := by decide +kernel
theorem dX7_meetsAll_65 : decode cX7_meetsAll 65 = .ok (.putfield 187, 3) := by decide +kernel
theorem dX7_meetsAll_68 : decode cX7_meetsAll 68 = .ok (.iinc 3 1, 3) := by decide +kernel
theorem dX7_meetsAll_71 : decode cX7_meetsAll 71 = .ok (.goto (-55), 3) := by decide +kernel
theorem dX7_meetsAll_74 : decode cX7_meetsAll 74 = .ok (.iconst 0, 1) := by decide +kernel
theorem dX7_meetsAll_75 : decode cX7_meetsAll 75 = .ok (.istore_n 3, 1) := by decide +kernel
theorem dX7_meetsAll_76 : decode cX7_meetsAll 76 = .ok (.iload_n 3, 1) := by decide +kernel
theorem dX7_meetsAll_77 : decode cX7_meetsAll 77 = .ok (.aload_n 0, 1) := by decide +kernel
theorem dX7_meetsAll_78 : decode cX7_meetsAll 78 = .ok (.getfield 82, 3) := by decide +kernel
theorem dX7_meetsAll_81 : decode cX7_meetsAll 81 = .ok (.if_icmp .ge 112, 3) := by decide +kernel
theorem dX7_meetsAll_84 : decode cX7_meetsAll 84 = .ok (.aload_n 0, 1) := by decide +kernel
theorem dX7_meetsAll_85 : decode cX7_meetsAll 85 = .ok (.getfield 46, 3) := by decide +kernel
theorem dX7_meetsAll_88 : decode cX7_meetsAll 88 = .ok (.iload_n 3, 1) := by decide +kernel
theorem dX7_meetsAll_89 : decode cX7_meetsAll 89 = .ok (.iconst 0, 1) := by decide +kernel
theorem dX7_meetsAll_90 : decode cX7_meetsAll 90 = .ok (.iastore, 1) := by decide +kernel
theorem dX7_meetsAll_91 : decode cX7_meetsAll 91 = .ok (.iconst 0, 1) := by decide +kernel
theorem dX7_meetsAll_92 : decode cX7_meetsAll 92 = .ok (.istore 4, 2) := by decide +kernel
theorem dX7_meetsAll_94 : decode cX7_meetsAll 94 = .ok (.iload 4, 2) := by decide +kernel
theorem dX7_meetsAll_96 : decode cX7_meetsAll 96 = .ok (.aload_n 0, 1) := by decide +kernel
theorem dX7_meetsAll_97 : decode cX7_meetsAll 97 = .ok (.getfield 82, 3) := by decide +kernel
theorem dX7_meetsAll_100 : decode cX7_meetsAll 100 = .ok (.if_icmp .ge 87, 3) := by decide +kernel
theorem dX7_meetsAll_103 : decode cX7_meetsAll 103 = .ok (.iload 4, 2) := by decide +kernel
theorem dX7_meetsAll_105 : decode cX7_meetsAll 105 = .ok (.iload_n 3, 1) := by decide +kernel
theorem dX7_meetsAll_106 : decode cX7_meetsAll 106 = .ok (.if_icmp .eq 30, 3) := by decide +kernel
theorem dX7_meetsAll_109 : decode cX7_meetsAll 109 = .ok (.aload_n 0, 1) := by decide +kernel
theorem dX7_meetsAll_110 : decode cX7_meetsAll 110 = .ok (.getfield 187, 3) := by decide +kernel
theorem dX7_meetsAll_113 : decode cX7_meetsAll 113 = .ok (.iload_n 3, 1) := by decide +kernel
theorem dX7_meetsAll_114 : decode cX7_meetsAll 114 = .ok (.invokestatic 151, 3) := by decide +kernel
theorem dX7_meetsAll_117 : decode cX7_meetsAll 117 = .ok (.ifCond .eq 19, 3) := by decide +kernel
theorem dX7_meetsAll_120 : decode cX7_meetsAll 120 = .ok (.aload_n 0, 1) := by decide +kernel
theorem dX7_meetsAll_121 : decode cX7_meetsAll 121 = .ok (.getfield 187, 3) := by decide +kernel
theorem dX7_meetsAll_124 : decode cX7_meetsAll 124 = .ok (.iload 4, 2) := by decide +kernel
theorem dX7_meetsAll_126 : decode cX7_meetsAll 126 = .ok (.invokestatic 151, 3) := by decide +kernel
theorem dX7_meetsAll_129 : decode cX7_meetsAll 129 = .ok (.ifCond .eq 7, 3) := by decide +kernel
theorem dX7_meetsAll_132 : decode cX7_meetsAll 132 = .ok (.iconst 1, 1) := by decide +kernel
theorem dX7_meetsAll_133 : decode cX7_meetsAll 133 = .ok (.goto 4, 3) := by decide +kernel
theorem dX7_meetsAll_136 : decode cX7_meetsAll 136 = .ok (.iconst 0, 1) := by decide +kernel
theorem dX7_meetsAll_137 : decode cX7_meetsAll 137 = .ok (.istore 5, 2) := by decide +kernel
theorem dX7_meetsAll_139 : decode cX7_meetsAll 139 = .ok (.aload_n 0, 1) := by decide +kernel
theorem dX7_meetsAll_140 : decode cX7_meetsAll 140 = .ok (.getfield 46, 3) := by decide +kernel
theorem dX7_meetsAll_143 : decode cX7_meetsAll 143 = .ok (.iload_n 3, 1) := by decide +kernel
theorem dX7_meetsAll_144 : decode cX7_meetsAll 144 = .ok (.dup2, 1) := by decide +kernel
theorem dX7_meetsAll_145 : decode cX7_meetsAll 145 = .ok (.iaload, 1) := by decide +kernel
theorem dX7_meetsAll_146 : decode cX7_meetsAll 146 = .ok (.iload 5, 2) := by decide +kernel
theorem dX7_meetsAll_148 : decode cX7_meetsAll 148 = .ok (.ifCond .eq 30, 3) := by decide +kernel
theorem dX7_meetsAll_151 : decode cX7_meetsAll 151 = .ok (.aload_n 0, 1) := by decide +kernel
theorem dX7_meetsAll_152 : decode cX7_meetsAll 152 = .ok (.iload 4, 2) := by decide +kernel
theorem dX7_meetsAll_154 : decode cX7_meetsAll 154 = .ok (.iload_n 3, 1) := by decide +kernel
theorem dX7_meetsAll_155 : decode cX7_meetsAll 155 = .ok (.aload_n 0, 1) := by decide +kernel
theorem dX7_meetsAll_156 : decode cX7_meetsAll 156 = .ok (.getfield 40, 3) := by decide +kernel
theorem dX7_meetsAll_159 : decode cX7_meetsAll 159 = .ok (.iconst 4, 1) := by decide +kernel
theorem dX7_meetsAll_160 : decode cX7_meetsAll 160 = .ok (.iload_n 1, 1) := by decide +kernel
theorem dX7_meetsAll_161 : decode cX7_meetsAll 161 = .ok (.imul, 1) := by decide +kernel
theorem dX7_meetsAll_162 : decode cX7_meetsAll 162 = .ok (.iconst 1, 1) := by decide +kernel
theorem dX7_meetsAll_163 : decode cX7_meetsAll 163 = .ok (.iadd, 1) := by decide +kernel
theorem dX7_meetsAll_164 : decode cX7_meetsAll 164 = .ok (.iaload, 1) := by decide +kernel
theorem dX7_meetsAll_165 : decode cX7_meetsAll 165 = .ok (.invokevirtual 190, 3) := by decide +kernel
theorem dX7_meetsAll_168 : decode cX7_meetsAll 168 = .ok (.ifCond .eq 10, 3) := by decide +kernel
theorem dX7_meetsAll_171 : decode cX7_meetsAll 171 = .ok (.iconst 1, 1) := by decide +kernel
theorem dX7_meetsAll_172 : decode cX7_meetsAll 172 = .ok (.iload 4, 2) := by decide +kernel
theorem dX7_meetsAll_174 : decode cX7_meetsAll 174 = .ok (.ishl, 1) := by decide +kernel
theorem dX7_meetsAll_175 : decode cX7_meetsAll 175 = .ok (.goto 4, 3) := by decide +kernel
theorem dX7_meetsAll_178 : decode cX7_meetsAll 178 = .ok (.iconst 0, 1) := by decide +kernel
theorem dX7_meetsAll_179 : decode cX7_meetsAll 179 = .ok (.ior, 1) := by decide +kernel
theorem dX7_meetsAll_180 : decode cX7_meetsAll 180 = .ok (.iastore, 1) := by decide +kernel
theorem dX7_meetsAll_181 : decode cX7_meetsAll 181 = .ok (.iinc 4 1, 3) := by decide +kernel
theorem dX7_meetsAll_184 : decode cX7_meetsAll 184 = .ok (.goto (-90), 3) := by decide +kernel
theorem dX7_meetsAll_187 : decode cX7_meetsAll 187 = .ok (.iinc 3 1, 3) := by decide +kernel
theorem dX7_meetsAll_190 : decode cX7_meetsAll 190 = .ok (.goto (-114), 3) := by decide +kernel
theorem dX7_meetsAll_193 : decode cX7_meetsAll 193 = .ok (.return_, 1) := by decide +kernel
theorem dX7_strikes_0 : decode cX7_strikes 0 = .ok (.iload_n 1, 1) := by decide +kernel
theorem dX7_strikes_1 : decode cX7_strikes 1 = .ok (.invokestatic 120, 3) := by decide +kernel
theorem dX7_strikes_4 : decode cX7_strikes 4 = .ok (.ifCond .eq 19, 3) := by decide +kernel
theorem dX7_strikes_7 : decode cX7_strikes 7 = .ok (.aload_n 0, 1) := by decide +kernel
theorem dX7_strikes_8 : decode cX7_strikes 8 = .ok (.iload_n 2, 1) := by decide +kernel
theorem dX7_strikes_9 : decode cX7_strikes 9 = .ok (.invokevirtual 111, 3) := by decide +kernel
theorem dX7_strikes_12 : decode cX7_strikes 12 = .ok (.ifCond .eq 11, 3) := by decide +kernel
theorem dX7_strikes_15 : decode cX7_strikes 15 = .ok (.aload_n 0, 1) := by decide +kernel
theorem dX7_strikes_16 : decode cX7_strikes 16 = .ok (.iload_n 3, 1) := by decide +kernel
theorem dX7_strikes_17 : decode cX7_strikes 17 = .ok (.invokevirtual 111, 3) := by decide +kernel
theorem dX7_strikes_20 : decode cX7_strikes 20 = .ok (.ifCond .ne 6, 3) := by decide +kernel
theorem dX7_strikes_23 : decode cX7_strikes 23 = .ok (.bipush (-2), 2) := by decide +kernel
theorem dX7_strikes_25 : decode cX7_strikes 25 = .ok (.ireturn, 1) := by decide +kernel
theorem dX7_strikes_26 : decode cX7_strikes 26 = .ok (.aload_n 0, 1) := by decide +kernel
theorem dX7_strikes_27 : decode cX7_strikes 27 = .ok (.iload_n 1, 1) := by decide +kernel
theorem dX7_strikes_28 : decode cX7_strikes 28 = .ok (.aload_n 0, 1) := by decide +kernel
theorem dX7_strikes_29 : decode cX7_strikes 29 = .ok (.invokevirtual 162, 3) := by decide +kernel
theorem dX7_strikes_32 : decode cX7_strikes 32 = .ok (.invokevirtual 193, 3) := by decide +kernel
theorem dX7_strikes_35 : decode cX7_strikes 35 = .ok (.aload_n 0, 1) := by decide +kernel
theorem dX7_strikes_36 : decode cX7_strikes 36 = .ok (.getfield 46, 3) := by decide +kernel
theorem dX7_strikes_39 : decode cX7_strikes 39 = .ok (.iload_n 3, 1) := by decide +kernel
theorem dX7_strikes_40 : decode cX7_strikes 40 = .ok (.iaload, 1) := by decide +kernel
theorem dX7_strikes_41 : decode cX7_strikes 41 = .ok (.iload_n 2, 1) := by decide +kernel
theorem dX7_strikes_42 : decode cX7_strikes 42 = .ok (.ishr, 1) := by decide +kernel
theorem dX7_strikes_43 : decode cX7_strikes 43 = .ok (.iconst 1, 1) := by decide +kernel
theorem dX7_strikes_44 : decode cX7_strikes 44 = .ok (.iand, 1) := by decide +kernel
theorem dX7_strikes_45 : decode cX7_strikes 45 = .ok (.ireturn, 1) := by decide +kernel
theorem dX7_answers_0 : decode cX7_answers 0 = .ok (.iconst 0, 1) := by decide +kernel
theorem dX7_answers_1 : decode cX7_answers 1 = .ok (.istore_n 3, 1) := by decide +kernel
theorem dX7_answers_2 : decode cX7_answers 2 = .ok (.iload_n 3, 1) := by decide +kernel
theorem dX7_answers_3 : decode cX7_answers 3 = .ok (.aload_n 0, 1) := by decide +kernel
theorem dX7_answers_4 : decode cX7_answers 4 = .ok (.getfield 82, 3) := by decide +kernel
theorem dX7_answers_7 : decode cX7_answers 7 = .ok (.if_icmp .ge 35, 3) := by decide +kernel
theorem dX7_answers_10 : decode cX7_answers 10 = .ok (.aload_n 0, 1) := by decide +kernel
theorem dX7_answers_11 : decode cX7_answers 11 = .ok (.getfield 46, 3) := by decide +kernel
theorem dX7_answers_14 : decode cX7_answers 14 = .ok (.iload_n 2, 1) := by decide +kernel
theorem dX7_answers_15 : decode cX7_answers 15 = .ok (.iaload, 1) := by decide +kernel
theorem dX7_answers_16 : decode cX7_answers 16 = .ok (.iload_n 3, 1) := by decide +kernel
theorem dX7_answers_17 : decode cX7_answers 17 = .ok (.invokestatic 151, 3) := by decide +kernel
theorem dX7_answers_20 : decode cX7_answers 20 = .ok (.ifCond .eq 16, 3) := by decide +kernel
theorem dX7_answers_23 : decode cX7_answers 23 = .ok (.aload_n 0, 1) := by decide +kernel
theorem dX7_answers_24 : decode cX7_answers 24 = .ok (.getfield 46, 3) := by decide +kernel
theorem dX7_answers_27 : decode cX7_answers 27 = .ok (.iload_n 3, 1) := by decide +kernel
theorem dX7_answers_28 : decode cX7_answers 28 = .ok (.iaload, 1) := by decide +kernel
theorem dX7_answers_29 : decode cX7_answers 29 = .ok (.iload_n 1, 1) := by decide +kernel
theorem dX7_answers_30 : decode cX7_answers 30 = .ok (.iand, 1) := by decide +kernel
theorem dX7_answers_31 : decode cX7_answers 31 = .ok (.ifCond .ne 5, 3) := by decide +kernel
theorem dX7_answers_34 : decode cX7_answers 34 = .ok (.iconst 0, 1) := by decide +kernel
theorem dX7_answers_35 : decode cX7_answers 35 = .ok (.ireturn, 1) := by decide +kernel
theorem dX7_answers_36 : decode cX7_answers 36 = .ok (.iinc 3 1, 3) := by decide +kernel
theorem dX7_answers_39 : decode cX7_answers 39 = .ok (.goto (-37), 3) := by decide +kernel
theorem dX7_answers_42 : decode cX7_answers 42 = .ok (.iconst 1, 1) := by decide +kernel
theorem dX7_answers_43 : decode cX7_answers 43 = .ok (.ireturn, 1) := by decide +kernel
theorem dX7_isSound_0 : decode cX7_isSound 0 = .ok (.iload_n 1, 1) := by decide +kernel
theorem dX7_isSound_1 : decode cX7_isSound 1 = .ok (.aload_n 0, 1) := by decide +kernel
theorem dX7_isSound_2 : decode cX7_isSound 2 = .ok (.getfield 187, 3) := by decide +kernel
theorem dX7_isSound_5 : decode cX7_isSound 5 = .ok (.iconst (-1), 1) := by decide +kernel
theorem dX7_isSound_6 : decode cX7_isSound 6 = .ok (.ixor, 1) := by decide +kernel
theorem dX7_isSound_7 : decode cX7_isSound 7 = .ok (.iand, 1) := by decide +kernel
theorem dX7_isSound_8 : decode cX7_isSound 8 = .ok (.ifCond .eq 5, 3) := by decide +kernel
theorem dX7_isSound_11 : decode cX7_isSound 11 = .ok (.iconst 0, 1) := by decide +kernel
theorem dX7_isSound_12 : decode cX7_isSound 12 = .ok (.ireturn, 1) := by decide +kernel
theorem dX7_isSound_13 : decode cX7_isSound 13 = .ok (.iconst 0, 1) := by decide +kernel
theorem dX7_isSound_14 : decode cX7_isSound 14 = .ok (.istore_n 2, 1) := by decide +kernel
theorem dX7_isSound_15 : decode cX7_isSound 15 = .ok (.iload_n 2, 1) := by decide +kernel
theorem dX7_isSound_16 : decode cX7_isSound 16 = .ok (.aload_n 0, 1) := by decide +kernel
theorem dX7_isSound_17 : decode cX7_isSound 17 = .ok (.getfield 82, 3) := by decide +kernel
theorem dX7_isSound_20 : decode cX7_isSound 20 = .ok (.if_icmp .ge 39, 3) := by decide +kernel
theorem dX7_isSound_23 : decode cX7_isSound 23 = .ok (.iload_n 1, 1) := by decide +kernel
theorem dX7_isSound_24 : decode cX7_isSound 24 = .ok (.iload_n 2, 1) := by decide +kernel
theorem dX7_isSound_25 : decode cX7_isSound 25 = .ok (.invokestatic 151, 3) := by decide +kernel
theorem dX7_isSound_28 : decode cX7_isSound 28 = .ok (.ifCond .eq 25, 3) := by decide +kernel
theorem dX7_isSound_31 : decode cX7_isSound 31 = .ok (.aload_n 0, 1) := by decide +kernel
theorem dX7_isSound_32 : decode cX7_isSound 32 = .ok (.getfield 46, 3) := by decide +kernel
theorem dX7_isSound_35 : decode cX7_isSound 35 = .ok (.iload_n 2, 1) := by decide +kernel
theorem dX7_isSound_36 : decode cX7_isSound 36 = .ok (.iaload, 1) := by decide +kernel
theorem dX7_isSound_37 : decode cX7_isSound 37 = .ok (.iload_n 1, 1) := by decide +kernel
theorem dX7_isSound_38 : decode cX7_isSound 38 = .ok (.iand, 1) := by decide +kernel
theorem dX7_isSound_39 : decode cX7_isSound 39 = .ok (.ifCond .ne 12, 3) := by decide +kernel
theorem dX7_isSound_42 : decode cX7_isSound 42 = .ok (.aload_n 0, 1) := by decide +kernel
theorem dX7_isSound_43 : decode cX7_isSound 43 = .ok (.iload_n 1, 1) := by decide +kernel
theorem dX7_isSound_44 : decode cX7_isSound 44 = .ok (.iload_n 2, 1) := by decide +kernel
theorem dX7_isSound_45 : decode cX7_isSound 45 = .ok (.invokevirtual 197, 3) := by decide +kernel
theorem dX7_isSound_48 : decode cX7_isSound 48 = .ok (.ifCond .ne 5, 3) := by decide +kernel
theorem dX7_isSound_51 : decode cX7_isSound 51 = .ok (.iconst 0, 1) := by decide +kernel
theorem dX7_isSound_52 : decode cX7_isSound 52 = .ok (.ireturn, 1) := by decide +kernel
theorem dX7_isSound_53 : decode cX7_isSound 53 = .ok (.iinc 2 1, 3) := by decide +kernel
theorem dX7_isSound_56 : decode cX7_isSound 56 = .ok (.goto (-41), 3) := by decide +kernel
theorem dX7_isSound_59 : decode cX7_isSound 59 = .ok (.iconst 1, 1) := by decide +kernel
theorem dX7_isSound_60 : decode cX7_isSound 60 = .ok (.ireturn, 1) := by decide +kernel
theorem dX7_sound_0 : decode cX7_sound 0 = .ok (.iload_n 1, 1) := by decide +kernel
theorem dX7_sound_1 : decode cX7_sound 1 = .ok (.invokestatic 120, 3) := by decide +kernel
theorem dX7_sound_4 : decode cX7_sound 4 = .ok (.ifCond .eq 15, 3) := by decide +kernel
theorem dX7_sound_7 : decode cX7_sound 7 = .ok (.iload_n 2, 1) := by decide +kernel
theorem dX7_sound_8 : decode cX7_sound 8 = .ok (.iconst 0, 1) := by decide +kernel
theorem dX7_sound_9 : decode cX7_sound 9 = .ok (.aload_n 0, 1) := by decide +kernel
theorem dX7_sound_10 : decode cX7_sound 10 = .ok (.invokevirtual 97, 3) := by decide +kernel
theorem dX7_sound_13 : decode cX7_sound 13 = .ok (.invokestatic 71, 3) := by decide +kernel
theorem dX7_sound_16 : decode cX7_sound 16 = .ok (.ifCond .ne 6, 3) := by decide +kernel
theorem dX7_sound_19 : decode cX7_sound 19 = .ok (.bipush (-2), 2) := by decide +kernel
theorem dX7_sound_21 : decode cX7_sound 21 = .ok (.ireturn, 1) := by decide +kernel
theorem dX7_sound_22 : decode cX7_sound 22 = .ok (.aload_n 0, 1) := by decide +kernel
theorem dX7_sound_23 : decode cX7_sound 23 = .ok (.iload_n 1, 1) := by decide +kernel
theorem dX7_sound_24 : decode cX7_sound 24 = .ok (.aload_n 0, 1) := by decide +kernel
theorem dX7_sound_25 : decode cX7_sound 25 = .ok (.invokevirtual 162, 3) := by decide +kernel
theorem dX7_sound_28 : decode cX7_sound 28 = .ok (.invokevirtual 193, 3) := by decide +kernel
theorem dX7_sound_31 : decode cX7_sound 31 = .ok (.aload_n 0, 1) := by decide +kernel
theorem dX7_sound_32 : decode cX7_sound 32 = .ok (.iload_n 2, 1) := by decide +kernel
theorem dX7_sound_33 : decode cX7_sound 33 = .ok (.invokevirtual 200, 3) := by decide +kernel
theorem dX7_sound_36 : decode cX7_sound 36 = .ok (.ifCond .eq 7, 3) := by decide +kernel
theorem dX7_sound_39 : decode cX7_sound 39 = .ok (.iconst 1, 1) := by decide +kernel
theorem dX7_sound_40 : decode cX7_sound 40 = .ok (.goto 4, 3) := by decide +kernel
theorem dX7_sound_43 : decode cX7_sound 43 = .ok (.iconst 0, 1) := by decide +kernel
theorem dX7_sound_44 : decode cX7_sound 44 = .ok (.ireturn, 1) := by decide +kernel
theorem dX7_leastNow_0 : decode cX7_leastNow 0 = .ok (.iconst 0, 1) := by decide +kernel
theorem dX7_leastNow_1 : decode cX7_leastNow 1 = .ok (.istore_n 1, 1) := by decide +kernel
theorem dX7_leastNow_2 : decode cX7_leastNow 2 = .ok (.iconst 1, 1) := by decide +kernel
theorem dX7_leastNow_3 : decode cX7_leastNow 3 = .ok (.istore_n 2, 1) := by decide +kernel
theorem dX7_leastNow_4 : decode cX7_leastNow 4 = .ok (.iload_n 2, 1) := by decide +kernel
theorem dX7_leastNow_5 : decode cX7_leastNow 5 = .ok (.ifCond .eq 72, 3) := by decide +kernel
theorem dX7_leastNow_8 : decode cX7_leastNow 8 = .ok (.iload_n 1, 1) := by decide +kernel
theorem dX7_leastNow_9 : decode cX7_leastNow 9 = .ok (.istore_n 3, 1) := by decide +kernel
theorem dX7_leastNow_10 : decode cX7_leastNow 10 = .ok (.iconst 0, 1) := by decide +kernel
theorem dX7_leastNow_11 : decode cX7_leastNow 11 = .ok (.istore 4, 2) := by decide +kernel
theorem dX7_leastNow_13 : decode cX7_leastNow 13 = .ok (.iload 4, 2) := by decide +kernel
theorem dX7_leastNow_15 : decode cX7_leastNow 15 = .ok (.aload_n 0, 1) := by decide +kernel
theorem dX7_leastNow_16 : decode cX7_leastNow 16 = .ok (.getfield 82, 3) := by decide +kernel
theorem dX7_leastNow_19 : decode cX7_leastNow 19 = .ok (.if_icmp .ge 42, 3) := by decide +kernel
theorem dX7_leastNow_22 : decode cX7_leastNow 22 = .ok (.iload_n 3, 1) := by decide +kernel
theorem dX7_leastNow_23 : decode cX7_leastNow 23 = .ok (.aload_n 0, 1) := by decide +kernel
theorem dX7_leastNow_24 : decode cX7_leastNow 24 = .ok (.getfield 187, 3) := by decide +kernel
theorem dX7_leastNow_27 : decode cX7_leastNow 27 = .ok (.iload 4, 2) := by decide +kernel
theorem dX7_leastNow_29 : decode cX7_leastNow 29 = .ok (.invokestatic 151, 3) := by decide +kernel
theorem dX7_leastNow_32 : decode cX7_leastNow 32 = .ok (.ifCond .eq 20, 3) := by decide +kernel
theorem dX7_leastNow_35 : decode cX7_leastNow 35 = .ok (.aload_n 0, 1) := by decide +kernel
theorem dX7_leastNow_36 : decode cX7_leastNow 36 = .ok (.iload_n 1, 1) := by decide +kernel
theorem dX7_leastNow_37 : decode cX7_leastNow 37 = .ok (.iload 4, 2) := by decide +kernel
theorem dX7_leastNow_39 : decode cX7_leastNow 39 = .ok (.invokevirtual 197, 3) := by decide +kernel
theorem dX7_leastNow_42 : decode cX7_leastNow 42 = .ok (.ifCond .eq 10, 3) := by decide +kernel
theorem dX7_leastNow_45 : decode cX7_leastNow 45 = .ok (.iconst 1, 1) := by decide +kernel
theorem dX7_leastNow_46 : decode cX7_leastNow 46 = .ok (.iload 4, 2) := by decide +kernel
theorem dX7_leastNow_48 : decode cX7_leastNow 48 = .ok (.ishl, 1) := by decide +kernel
theorem dX7_leastNow_49 : decode cX7_leastNow 49 = .ok (.goto 4, 3) := by decide +kernel
theorem dX7_leastNow_52 : decode cX7_leastNow 52 = .ok (.iconst 0, 1) := by decide +kernel
theorem dX7_leastNow_53 : decode cX7_leastNow 53 = .ok (.ior, 1) := by decide +kernel
theorem dX7_leastNow_54 : decode cX7_leastNow 54 = .ok (.istore_n 3, 1) := by decide +kernel
theorem dX7_leastNow_55 : decode cX7_leastNow 55 = .ok (.iinc 4 1, 3) := by decide +kernel
theorem dX7_leastNow_58 : decode cX7_leastNow 58 = .ok (.goto (-45), 3) := by decide +kernel
theorem dX7_leastNow_61 : decode cX7_leastNow 61 = .ok (.iload_n 3, 1) := by decide +kernel
theorem dX7_leastNow_62 : decode cX7_leastNow 62 = .ok (.iload_n 1, 1) := by decide +kernel
theorem dX7_leastNow_63 : decode cX7_leastNow 63 = .ok (.if_icmp .eq 7, 3) := by decide +kernel
theorem dX7_leastNow_66 : decode cX7_leastNow 66 = .ok (.iconst 1, 1) := by decide +kernel
theorem dX7_leastNow_67 : decode cX7_leastNow 67 = .ok (.goto 4, 3) := by decide +kernel
theorem dX7_leastNow_70 : decode cX7_leastNow 70 = .ok (.iconst 0, 1) := by decide +kernel
theorem dX7_leastNow_71 : decode cX7_leastNow 71 = .ok (.istore_n 2, 1) := by decide +kernel
theorem dX7_leastNow_72 : decode cX7_leastNow 72 = .ok (.iload_n 3, 1) := by decide +kernel
theorem dX7_leastNow_73 : decode cX7_leastNow 73 = .ok (.istore_n 1, 1) := by decide +kernel
theorem dX7_leastNow_74 : decode cX7_leastNow 74 = .ok (.goto (-70), 3) := by decide +kernel
theorem dX7_leastNow_77 : decode cX7_leastNow 77 = .ok (.iload_n 1, 1) := by decide +kernel
theorem dX7_leastNow_78 : decode cX7_leastNow 78 = .ok (.ireturn, 1) := by decide +kernel
theorem dX7_leastOf_0 : decode cX7_leastOf 0 = .ok (.aload_n 0, 1) := by decide +kernel
theorem dX7_leastOf_1 : decode cX7_leastOf 1 = .ok (.iload_n 1, 1) := by decide +kernel
theorem dX7_leastOf_2 : decode cX7_leastOf 2 = .ok (.aload_n 0, 1) := by decide +kernel
theorem dX7_leastOf_3 : decode cX7_leastOf 3 = .ok (.invokevirtual 162, 3) := by decide +kernel
theorem dX7_leastOf_6 : decode cX7_leastOf 6 = .ok (.invokevirtual 193, 3) := by decide +kernel
theorem dX7_leastOf_9 : decode cX7_leastOf 9 = .ok (.aload_n 0, 1) := by decide +kernel
theorem dX7_leastOf_10 : decode cX7_leastOf 10 = .ok (.invokevirtual 203, 3) := by decide +kernel
theorem dX7_leastOf_13 : decode cX7_leastOf 13 = .ok (.ireturn, 1) := by decide +kernel
theorem dX7_least_0 : decode cX7_least 0 = .ok (.iload_n 1, 1) := by decide +kernel
theorem dX7_least_1 : decode cX7_least 1 = .ok (.invokestatic 120, 3) := by decide +kernel
theorem dX7_least_4 : decode cX7_least 4 = .ok (.ifCond .eq 11, 3) := by decide +kernel
theorem dX7_least_7 : decode cX7_least 7 = .ok (.aload_n 0, 1) := by decide +kernel
theorem dX7_least_8 : decode cX7_least 8 = .ok (.iload_n 1, 1) := by decide +kernel
theorem dX7_least_9 : decode cX7_least 9 = .ok (.invokevirtual 206, 3) := by decide +kernel
theorem dX7_least_12 : decode cX7_least 12 = .ok (.goto 5, 3) := by decide +kernel
theorem dX7_least_15 : decode cX7_least 15 = .ok (.bipush (-2), 2) := by decide +kernel
theorem dX7_least_17 : decode cX7_least 17 = .ok (.ireturn, 1) := by decide +kernel
theorem dX7_laysSounds_0 : decode cX7_laysSounds 0 = .ok (.iconst 0, 1) := by decide +kernel
theorem dX7_laysSounds_1 : decode cX7_laysSounds 1 = .ok (.istore_n 1, 1) := by decide +kernel
theorem dX7_laysSounds_2 : decode cX7_laysSounds 2 = .ok (.iload_n 1, 1) := by decide +kernel
theorem dX7_laysSounds_3 : decode cX7_laysSounds 3 = .ok (.aload_n 0, 1) := by decide +kernel
theorem dX7_laysSounds_4 : decode cX7_laysSounds 4 = .ok (.invokevirtual 97, 3) := by decide +kernel
theorem dX7_laysSounds_7 : decode cX7_laysSounds 7 = .ok (.if_icmp .gt 20, 3) := by decide +kernel
theorem dX7_laysSounds_10 : decode cX7_laysSounds 10 = .ok (.aload_n 0, 1) := by decide +kernel
theorem dX7_laysSounds_11 : decode cX7_laysSounds 11 = .ok (.getfield 49, 3) := by decide +kernel
theorem dX7_laysSounds_14 : decode cX7_laysSounds 14 = .ok (.iload_n 1, 1) := by decide +kernel
theorem dX7_laysSounds_15 : decode cX7_laysSounds 15 = .ok (.aload_n 0, 1) := by decide +kernel
theorem dX7_laysSounds_16 : decode cX7_laysSounds 16 = .ok (.iload_n 1, 1) := by decide +kernel
theorem dX7_laysSounds_17 : decode cX7_laysSounds 17 = .ok (.invokevirtual 200, 3) := by decide +kernel
theorem dX7_laysSounds_20 : decode cX7_laysSounds 20 = .ok (.bastore, 1) := by decide +kernel
theorem dX7_laysSounds_21 : decode cX7_laysSounds 21 = .ok (.iinc 1 1, 3) := by decide +kernel
theorem dX7_laysSounds_24 : decode cX7_laysSounds 24 = .ok (.goto (-22), 3) := by decide +kernel
theorem dX7_laysSounds_27 : decode cX7_laysSounds 27 = .ok (.return_, 1) := by decide +kernel
theorem dX7_isFull_0 : decode cX7_isFull 0 = .ok (.iload_n 1, 1) := by decide +kernel
theorem dX7_isFull_1 : decode cX7_isFull 1 = .ok (.iconst 1, 1) := by decide +kernel
theorem dX7_isFull_2 : decode cX7_isFull 2 = .ok (.iadd, 1) := by decide +kernel
theorem dX7_isFull_3 : decode cX7_isFull 3 = .ok (.istore_n 2, 1) := by decide +kernel
theorem dX7_isFull_4 : decode cX7_isFull 4 = .ok (.iload_n 2, 1) := by decide +kernel
theorem dX7_isFull_5 : decode cX7_isFull 5 = .ok (.aload_n 0, 1) := by decide +kernel
theorem dX7_isFull_6 : decode cX7_isFull 6 = .ok (.invokevirtual 97, 3) := by decide +kernel
theorem dX7_isFull_9 : decode cX7_isFull 9 = .ok (.if_icmp .gt 37, 3) := by decide +kernel
theorem dX7_isFull_12 : decode cX7_isFull 12 = .ok (.aload_n 0, 1) := by decide +kernel
theorem dX7_isFull_13 : decode cX7_isFull 13 = .ok (.getfield 49, 3) := by decide +kernel
theorem dX7_isFull_16 : decode cX7_isFull 16 = .ok (.iload_n 1, 1) := by decide +kernel
theorem dX7_isFull_17 : decode cX7_isFull 17 = .ok (.baload, 1) := by decide +kernel
theorem dX7_isFull_18 : decode cX7_isFull 18 = .ok (.ifCond .eq 28, 3) := by decide +kernel
theorem dX7_isFull_21 : decode cX7_isFull 21 = .ok (.aload_n 0, 1) := by decide +kernel
theorem dX7_isFull_22 : decode cX7_isFull 22 = .ok (.getfield 49, 3) := by decide +kernel
theorem dX7_isFull_25 : decode cX7_isFull 25 = .ok (.iload_n 2, 1) := by decide +kernel
theorem dX7_isFull_26 : decode cX7_isFull 26 = .ok (.baload, 1) := by decide +kernel
theorem dX7_isFull_27 : decode cX7_isFull 27 = .ok (.ifCond .eq 13, 3) := by decide +kernel
theorem dX7_isFull_30 : decode cX7_isFull 30 = .ok (.iload_n 1, 1) := by decide +kernel
theorem dX7_isFull_31 : decode cX7_isFull 31 = .ok (.iload_n 2, 1) := by decide +kernel
theorem dX7_isFull_32 : decode cX7_isFull 32 = .ok (.iconst (-1), 1) := by decide +kernel
theorem dX7_isFull_33 : decode cX7_isFull 33 = .ok (.ixor, 1) := by decide +kernel
theorem dX7_isFull_34 : decode cX7_isFull 34 = .ok (.iand, 1) := by decide +kernel
theorem dX7_isFull_35 : decode cX7_isFull 35 = .ok (.ifCond .ne 5, 3) := by decide +kernel
theorem dX7_isFull_38 : decode cX7_isFull 38 = .ok (.iconst 0, 1) := by decide +kernel
theorem dX7_isFull_39 : decode cX7_isFull 39 = .ok (.ireturn, 1) := by decide +kernel
theorem dX7_isFull_40 : decode cX7_isFull 40 = .ok (.iinc 2 1, 3) := by decide +kernel
theorem dX7_isFull_43 : decode cX7_isFull 43 = .ok (.goto (-39), 3) := by decide +kernel
theorem dX7_isFull_46 : decode cX7_isFull 46 = .ok (.aload_n 0, 1) := by decide +kernel
theorem dX7_isFull_47 : decode cX7_isFull 47 = .ok (.getfield 49, 3) := by decide +kernel
theorem dX7_isFull_50 : decode cX7_isFull 50 = .ok (.iload_n 1, 1) := by decide +kernel
theorem dX7_isFull_51 : decode cX7_isFull 51 = .ok (.baload, 1) := by decide +kernel
theorem dX7_isFull_52 : decode cX7_isFull 52 = .ok (.ireturn, 1) := by decide +kernel
theorem dX7_fullNow_0 : decode cX7_fullNow 0 = .ok (.aload_n 0, 1) := by decide +kernel
theorem dX7_fullNow_1 : decode cX7_fullNow 1 = .ok (.iload_n 1, 1) := by decide +kernel
theorem dX7_fullNow_2 : decode cX7_fullNow 2 = .ok (.aload_n 0, 1) := by decide +kernel
theorem dX7_fullNow_3 : decode cX7_fullNow 3 = .ok (.invokevirtual 162, 3) := by decide +kernel
theorem dX7_fullNow_6 : decode cX7_fullNow 6 = .ok (.invokevirtual 193, 3) := by decide +kernel
theorem dX7_fullNow_9 : decode cX7_fullNow 9 = .ok (.aload_n 0, 1) := by decide +kernel
theorem dX7_fullNow_10 : decode cX7_fullNow 10 = .ok (.invokevirtual 209, 3) := by decide +kernel
theorem dX7_fullNow_13 : decode cX7_fullNow 13 = .ok (.iconst 0, 1) := by decide +kernel
theorem dX7_fullNow_14 : decode cX7_fullNow 14 = .ok (.istore_n 3, 1) := by decide +kernel
theorem dX7_fullNow_15 : decode cX7_fullNow 15 = .ok (.iconst 0, 1) := by decide +kernel
theorem dX7_fullNow_16 : decode cX7_fullNow 16 = .ok (.istore 4, 2) := by decide +kernel
theorem dX7_fullNow_18 : decode cX7_fullNow 18 = .ok (.iload 4, 2) := by decide +kernel
theorem dX7_fullNow_20 : decode cX7_fullNow 20 = .ok (.aload_n 0, 1) := by decide +kernel
theorem dX7_fullNow_21 : decode cX7_fullNow 21 = .ok (.invokevirtual 97, 3) := by decide +kernel
theorem dX7_fullNow_24 : decode cX7_fullNow 24 = .ok (.if_icmp .gt 29, 3) := by decide +kernel
theorem dX7_fullNow_27 : decode cX7_fullNow 27 = .ok (.aload_n 0, 1) := by decide +kernel
theorem dX7_fullNow_28 : decode cX7_fullNow 28 = .ok (.iload 4, 2) := by decide +kernel
theorem dX7_fullNow_30 : decode cX7_fullNow 30 = .ok (.invokevirtual 212, 3) := by decide +kernel
theorem dX7_fullNow_33 : decode cX7_fullNow 33 = .ok (.ifCond .eq 14, 3) := by decide +kernel
theorem dX7_fullNow_36 : decode cX7_fullNow 36 = .ok (.iload_n 3, 1) := by decide +kernel
theorem dX7_fullNow_37 : decode cX7_fullNow 37 = .ok (.iload_n 2, 1) := by decide +kernel
theorem dX7_fullNow_38 : decode cX7_fullNow 38 = .ok (.if_icmp .ne 6, 3) := by decide +kernel
theorem dX7_fullNow_41 : decode cX7_fullNow 41 = .ok (.iload 4, 2) := by decide +kernel
theorem dX7_fullNow_43 : decode cX7_fullNow 43 = .ok (.ireturn, 1) := by decide +kernel
theorem dX7_fullNow_44 : decode cX7_fullNow 44 = .ok (.iinc 3 1, 3) := by decide +kernel
theorem dX7_fullNow_47 : decode cX7_fullNow 47 = .ok (.iinc 4 1, 3) := by decide +kernel
theorem dX7_fullNow_50 : decode cX7_fullNow 50 = .ok (.goto (-32), 3) := by decide +kernel
theorem dX7_fullNow_53 : decode cX7_fullNow 53 = .ok (.iload_n 2, 1) := by decide +kernel
theorem dX7_fullNow_54 : decode cX7_fullNow 54 = .ok (.iconst (-1), 1) := by decide +kernel
theorem dX7_fullNow_55 : decode cX7_fullNow 55 = .ok (.if_icmp .ne 7, 3) := by decide +kernel
theorem dX7_fullNow_58 : decode cX7_fullNow 58 = .ok (.iload_n 3, 1) := by decide +kernel
theorem dX7_fullNow_59 : decode cX7_fullNow 59 = .ok (.goto 4, 3) := by decide +kernel
theorem dX7_fullNow_62 : decode cX7_fullNow 62 = .ok (.iconst (-1), 1) := by decide +kernel
theorem dX7_fullNow_63 : decode cX7_fullNow 63 = .ok (.ireturn, 1) := by decide +kernel
theorem dX7_full_0 : decode cX7_full 0 = .ok (.iload_n 1, 1) := by decide +kernel
theorem dX7_full_1 : decode cX7_full 1 = .ok (.invokestatic 120, 3) := by decide +kernel
theorem dX7_full_4 : decode cX7_full 4 = .ok (.ifCond .eq 17, 3) := by decide +kernel
theorem dX7_full_7 : decode cX7_full 7 = .ok (.iload_n 2, 1) := by decide +kernel
theorem dX7_full_8 : decode cX7_full 8 = .ok (.iconst (-1), 1) := by decide +kernel
theorem dX7_full_9 : decode cX7_full 9 = .ok (.if_icmp .lt 12, 3) := by decide +kernel
theorem dX7_full_12 : decode cX7_full 12 = .ok (.aload_n 0, 1) := by decide +kernel
theorem dX7_full_13 : decode cX7_full 13 = .ok (.iload_n 1, 1) := by decide +kernel
theorem dX7_full_14 : decode cX7_full 14 = .ok (.iload_n 2, 1) := by decide +kernel
theorem dX7_full_15 : decode cX7_full 15 = .ok (.invokevirtual 215, 3) := by decide +kernel
theorem dX7_full_18 : decode cX7_full 18 = .ok (.goto 5, 3) := by decide +kernel
theorem dX7_full_21 : decode cX7_full 21 = .ok (.bipush (-2), 2) := by decide +kernel
theorem dX7_full_23 : decode cX7_full 23 = .ok (.ireturn, 1) := by decide +kernel
theorem dX7_firm_0 : decode cX7_firm 0 = .ok (.iload_n 1, 1) := by decide +kernel
theorem dX7_firm_1 : decode cX7_firm 1 = .ok (.invokestatic 120, 3) := by decide +kernel
theorem dX7_firm_4 : decode cX7_firm 4 = .ok (.ifCond .eq 11, 3) := by decide +kernel
theorem dX7_firm_7 : decode cX7_firm 7 = .ok (.aload_n 0, 1) := by decide +kernel
theorem dX7_firm_8 : decode cX7_firm 8 = .ok (.iload_n 2, 1) := by decide +kernel
theorem dX7_firm_9 : decode cX7_firm 9 = .ok (.invokevirtual 111, 3) := by decide +kernel
theorem dX7_firm_12 : decode cX7_firm 12 = .ok (.ifCond .ne 6, 3) := by decide +kernel
theorem dX7_firm_15 : decode cX7_firm 15 = .ok (.bipush (-2), 2) := by decide +kernel
theorem dX7_firm_17 : decode cX7_firm 17 = .ok (.ireturn, 1) := by decide +kernel
theorem dX7_firm_18 : decode cX7_firm 18 = .ok (.aload_n 0, 1) := by decide +kernel
theorem dX7_firm_19 : decode cX7_firm 19 = .ok (.iload_n 1, 1) := by decide +kernel
theorem dX7_firm_20 : decode cX7_firm 20 = .ok (.aload_n 0, 1) := by decide +kernel
theorem dX7_firm_21 : decode cX7_firm 21 = .ok (.invokevirtual 162, 3) := by decide +kernel
theorem dX7_firm_24 : decode cX7_firm 24 = .ok (.invokevirtual 193, 3) := by decide +kernel
theorem dX7_firm_27 : decode cX7_firm 27 = .ok (.aload_n 0, 1) := by decide +kernel
theorem dX7_firm_28 : decode cX7_firm 28 = .ok (.invokevirtual 209, 3) := by decide +kernel
theorem dX7_firm_31 : decode cX7_firm 31 = .ok (.iconst 0, 1) := by decide +kernel
theorem dX7_firm_32 : decode cX7_firm 32 = .ok (.istore_n 3, 1) := by decide +kernel
theorem dX7_firm_33 : decode cX7_firm 33 = .ok (.iconst 1, 1) := by decide +kernel
theorem dX7_firm_34 : decode cX7_firm 34 = .ok (.istore 4, 2) := by decide +kernel
theorem dX7_firm_36 : decode cX7_firm 36 = .ok (.iconst 0, 1) := by decide +kernel
theorem dX7_firm_37 : decode cX7_firm 37 = .ok (.istore 5, 2) := by decide +kernel
theorem dX7_firm_39 : decode cX7_firm 39 = .ok (.iload 5, 2) := by decide +kernel
theorem dX7_firm_41 : decode cX7_firm 41 = .ok (.aload_n 0, 1) := by decide +kernel
theorem dX7_firm_42 : decode cX7_firm 42 = .ok (.invokevirtual 97, 3) := by decide +kernel
theorem dX7_firm_45 : decode cX7_firm 45 = .ok (.if_icmp .gt 58, 3) := by decide +kernel
theorem dX7_firm_48 : decode cX7_firm 48 = .ok (.aload_n 0, 1) := by decide +kernel
theorem dX7_firm_49 : decode cX7_firm 49 = .ok (.iload 5, 2) := by decide +kernel
theorem dX7_firm_51 : decode cX7_firm 51 = .ok (.invokevirtual 212, 3) := by decide +kernel
theorem dX7_firm_54 : decode cX7_firm 54 = .ok (.ifCond .eq 43, 3) := by decide +kernel
theorem dX7_firm_57 : decode cX7_firm 57 = .ok (.iload_n 3, 1) := by decide +kernel
theorem dX7_firm_58 : decode cX7_firm 58 = .ok (.ifCond .ne 12, 3) := by decide +kernel
theorem dX7_firm_61 : decode cX7_firm 61 = .ok (.iload 5, 2) := by decide +kernel
theorem dX7_firm_63 : decode cX7_firm 63 = .ok (.iload_n 2, 1) := by decide +kernel
theorem dX7_firm_64 : decode cX7_firm 64 = .ok (.invokestatic 151, 3) := by decide +kernel
theorem dX7_firm_67 : decode cX7_firm 67 = .ok (.ifCond .eq 7, 3) := by decide +kernel
theorem dX7_firm_70 : decode cX7_firm 70 = .ok (.iconst 1, 1) := by decide +kernel
theorem dX7_firm_71 : decode cX7_firm 71 = .ok (.goto 4, 3) := by decide +kernel
theorem dX7_firm_74 : decode cX7_firm 74 = .ok (.iconst 0, 1) := by decide +kernel
theorem dX7_firm_75 : decode cX7_firm 75 = .ok (.istore_n 3, 1) := by decide +kernel
theorem dX7_firm_76 : decode cX7_firm 76 = .ok (.iload 4, 2) := by decide +kernel
theorem dX7_firm_78 : decode cX7_firm 78 = .ok (.ifCond .eq 16, 3) := by decide +kernel
theorem dX7_firm_81 : decode cX7_firm 81 = .ok (.iload 5, 2) := by decide +kernel
theorem dX7_firm_83 : decode cX7_firm 83 = .ok (.iload_n 2, 1) := by decide +kernel
theorem dX7_firm_84 : decode cX7_firm 84 = .ok (.invokestatic 151, 3) := by decide +kernel
theorem dX7_firm_87 : decode cX7_firm 87 = .ok (.ifCond .eq 7, 3) := by decide +kernel
theorem dX7_firm_90 : decode cX7_firm 90 = .ok (.iconst 1, 1) := by decide +kernel
theorem dX7_firm_91 : decode cX7_firm 91 = .ok (.goto 4, 3) := by decide +kernel
theorem dX7_firm_94 : decode cX7_firm 94 = .ok (.iconst 0, 1) := by decide +kernel
theorem dX7_firm_95 : decode cX7_firm 95 = .ok (.istore 4, 2) := by decide +kernel
theorem dX7_firm_97 : decode cX7_firm 97 = .ok (.iinc 5 1, 3) := by decide +kernel
theorem dX7_firm_100 : decode cX7_firm 100 = .ok (.goto (-61), 3) := by decide +kernel
theorem dX7_firm_103 : decode cX7_firm 103 = .ok (.iload 4, 2) := by decide +kernel
theorem dX7_firm_105 : decode cX7_firm 105 = .ok (.ifCond .eq 7, 3) := by decide +kernel
theorem dX7_firm_108 : decode cX7_firm 108 = .ok (.iconst 2, 1) := by decide +kernel
theorem dX7_firm_109 : decode cX7_firm 109 = .ok (.goto 12, 3) := by decide +kernel
theorem dX7_firm_112 : decode cX7_firm 112 = .ok (.iload_n 3, 1) := by decide +kernel
theorem dX7_firm_113 : decode cX7_firm 113 = .ok (.ifCond .eq 7, 3) := by decide +kernel
theorem dX7_firm_116 : decode cX7_firm 116 = .ok (.iconst 1, 1) := by decide +kernel
theorem dX7_firm_117 : decode cX7_firm 117 = .ok (.goto 4, 3) := by decide +kernel
theorem dX7_firm_120 : decode cX7_firm 120 = .ok (.iconst 0, 1) := by decide +kernel
theorem dX7_firm_121 : decode cX7_firm 121 = .ok (.ireturn, 1) := by decide +kernel
theorem dX7_ringNow_0 : decode cX7_ringNow 0 = .ok (.aload_n 0, 1) := by decide +kernel
theorem dX7_ringNow_1 : decode cX7_ringNow 1 = .ok (.iconst 0, 1) := by decide +kernel
theorem dX7_ringNow_2 : decode cX7_ringNow 2 = .ok (.aload_n 0, 1) := by decide +kernel
theorem dX7_ringNow_3 : decode cX7_ringNow 3 = .ok (.invokevirtual 162, 3) := by decide +kernel
theorem dX7_ringNow_6 : decode cX7_ringNow 6 = .ok (.invokevirtual 193, 3) := by decide +kernel
theorem dX7_ringNow_9 : decode cX7_ringNow 9 = .ok (.iconst 0, 1) := by decide +kernel
theorem dX7_ringNow_10 : decode cX7_ringNow 10 = .ok (.istore_n 1, 1) := by decide +kernel
theorem dX7_ringNow_11 : decode cX7_ringNow 11 = .ok (.iconst 0, 1) := by decide +kernel
theorem dX7_ringNow_12 : decode cX7_ringNow 12 = .ok (.istore_n 2, 1) := by decide +kernel
theorem dX7_ringNow_13 : decode cX7_ringNow 13 = .ok (.iload_n 2, 1) := by decide +kernel
theorem dX7_ringNow_14 : decode cX7_ringNow 14 = .ok (.aload_n 0, 1) := by decide +kernel
theorem dX7_ringNow_15 : decode cX7_ringNow 15 = .ok (.getfield 82, 3) := by decide +kernel
theorem dX7_ringNow_18 : decode cX7_ringNow 18 = .ok (.if_icmp .ge 83, 3) := by decide +kernel
theorem dX7_ringNow_21 : decode cX7_ringNow 21 = .ok (.aload_n 0, 1) := by decide +kernel
theorem dX7_ringNow_22 : decode cX7_ringNow 22 = .ok (.getfield 46, 3) := by decide +kernel
theorem dX7_ringNow_25 : decode cX7_ringNow 25 = .ok (.iload_n 2, 1) := by decide +kernel
theorem dX7_ringNow_26 : decode cX7_ringNow 26 = .ok (.iaload, 1) := by decide +kernel
theorem dX7_ringNow_27 : decode cX7_ringNow 27 = .ok (.istore_n 3, 1) := by decide +kernel
theorem dX7_ringNow_28 : decode cX7_ringNow 28 = .ok (.iconst 0, 1) := by decide +kernel
theorem dX7_ringNow_29 : decode cX7_ringNow 29 = .ok (.istore 4, 2) := by decide +kernel
theorem dX7_ringNow_31 : decode cX7_ringNow 31 = .ok (.iload 4, 2) := by decide +kernel
theorem dX7_ringNow_33 : decode cX7_ringNow 33 = .ok (.aload_n 0, 1) := by decide +kernel
theorem dX7_ringNow_34 : decode cX7_ringNow 34 = .ok (.getfield 82, 3) := by decide +kernel
theorem dX7_ringNow_37 : decode cX7_ringNow 37 = .ok (.if_icmp .ge 50, 3) := by decide +kernel
theorem dX7_ringNow_40 : decode cX7_ringNow 40 = .ok (.iconst 0, 1) := by decide +kernel
theorem dX7_ringNow_41 : decode cX7_ringNow 41 = .ok (.istore 5, 2) := by decide +kernel
theorem dX7_ringNow_43 : decode cX7_ringNow 43 = .ok (.iload 5, 2) := by decide +kernel
theorem dX7_ringNow_45 : decode cX7_ringNow 45 = .ok (.aload_n 0, 1) := by decide +kernel
theorem dX7_ringNow_46 : decode cX7_ringNow 46 = .ok (.getfield 82, 3) := by decide +kernel
theorem dX7_ringNow_49 : decode cX7_ringNow 49 = .ok (.if_icmp .ge 32, 3) := by decide +kernel
theorem dX7_ringNow_52 : decode cX7_ringNow 52 = .ok (.iload_n 3, 1) := by decide +kernel
theorem dX7_ringNow_53 : decode cX7_ringNow 53 = .ok (.iload_n 3, 1) := by decide +kernel
theorem dX7_ringNow_54 : decode cX7_ringNow 54 = .ok (.iload 5, 2) := by decide +kernel
theorem dX7_ringNow_56 : decode cX7_ringNow 56 = .ok (.invokestatic 151, 3) := by decide +kernel
theorem dX7_ringNow_59 : decode cX7_ringNow 59 = .ok (.ifCond .eq 13, 3) := by decide +kernel
theorem dX7_ringNow_62 : decode cX7_ringNow 62 = .ok (.aload_n 0, 1) := by decide +kernel
theorem dX7_ringNow_63 : decode cX7_ringNow 63 = .ok (.getfield 46, 3) := by decide +kernel
theorem dX7_ringNow_66 : decode cX7_ringNow 66 = .ok (.iload 5, 2) := by decide +kernel
theorem dX7_ringNow_68 : decode cX7_ringNow 68 = .ok (.iaload, 1) := by decide +kernel
theorem dX7_ringNow_69 : decode cX7_ringNow 69 = .ok (.goto 4, 3) := by decide +kernel
theorem dX7_ringNow_72 : decode cX7_ringNow 72 = .ok (.iconst 0, 1) := by decide +kernel
theorem dX7_ringNow_73 : decode cX7_ringNow 73 = .ok (.ior, 1) := by decide +kernel
theorem dX7_ringNow_74 : decode cX7_ringNow 74 = .ok (.istore_n 3, 1) := by decide +kernel
theorem dX7_ringNow_75 : decode cX7_ringNow 75 = .ok (.iinc 5 1, 3) := by decide +kernel
theorem dX7_ringNow_78 : decode cX7_ringNow 78 = .ok (.goto (-35), 3) := by decide +kernel
theorem dX7_ringNow_81 : decode cX7_ringNow 81 = .ok (.iinc 4 1, 3) := by decide +kernel
theorem dX7_ringNow_84 : decode cX7_ringNow 84 = .ok (.goto (-53), 3) := by decide +kernel
theorem dX7_ringNow_87 : decode cX7_ringNow 87 = .ok (.iload_n 1, 1) := by decide +kernel
theorem dX7_ringNow_88 : decode cX7_ringNow 88 = .ok (.iload_n 3, 1) := by decide +kernel
theorem dX7_ringNow_89 : decode cX7_ringNow 89 = .ok (.iconst 1, 1) := by decide +kernel
theorem dX7_ringNow_90 : decode cX7_ringNow 90 = .ok (.iload_n 2, 1) := by decide +kernel
theorem dX7_ringNow_91 : decode cX7_ringNow 91 = .ok (.ishl, 1) := by decide +kernel
theorem dX7_ringNow_92 : decode cX7_ringNow 92 = .ok (.iand, 1) := by decide +kernel
theorem dX7_ringNow_93 : decode cX7_ringNow 93 = .ok (.ior, 1) := by decide +kernel
theorem dX7_ringNow_94 : decode cX7_ringNow 94 = .ok (.istore_n 1, 1) := by decide +kernel
theorem dX7_ringNow_95 : decode cX7_ringNow 95 = .ok (.iinc 2 1, 3) := by decide +kernel
theorem dX7_ringNow_98 : decode cX7_ringNow 98 = .ok (.goto (-85), 3) := by decide +kernel
theorem dX7_ringNow_101 : decode cX7_ringNow 101 = .ok (.iload_n 1, 1) := by decide +kernel
theorem dX7_ringNow_102 : decode cX7_ringNow 102 = .ok (.ireturn, 1) := by decide +kernel
theorem dX7_ring_0 : decode cX7_ring 0 = .ok (.aload_n 0, 1) := by decide +kernel
theorem dX7_ring_1 : decode cX7_ring 1 = .ok (.invokevirtual 218, 3) := by decide +kernel
theorem dX7_ring_4 : decode cX7_ring 4 = .ok (.ireturn, 1) := by decide +kernel
theorem dX7_chain_0 : decode cX7_chain 0 = .ok (.aload_n 0, 1) := by decide +kernel
theorem dX7_chain_1 : decode cX7_chain 1 = .ok (.iload_n 1, 1) := by decide +kernel
theorem dX7_chain_2 : decode cX7_chain 2 = .ok (.invokevirtual 111, 3) := by decide +kernel
theorem dX7_chain_5 : decode cX7_chain 5 = .ok (.ifCond .ne 6, 3) := by decide +kernel
theorem dX7_chain_8 : decode cX7_chain 8 = .ok (.bipush (-2), 2) := by decide +kernel
theorem dX7_chain_10 : decode cX7_chain 10 = .ok (.ireturn, 1) := by decide +kernel
theorem dX7_chain_11 : decode cX7_chain 11 = .ok (.aload_n 0, 1) := by decide +kernel
theorem dX7_chain_12 : decode cX7_chain 12 = .ok (.invokevirtual 114, 3) := by decide +kernel
theorem dX7_chain_15 : decode cX7_chain 15 = .ok (.iconst 0, 1) := by decide +kernel
theorem dX7_chain_16 : decode cX7_chain 16 = .ok (.istore_n 2, 1) := by decide +kernel
theorem dX7_chain_17 : decode cX7_chain 17 = .ok (.iload_n 2, 1) := by decide +kernel
theorem dX7_chain_18 : decode cX7_chain 18 = .ok (.aload_n 0, 1) := by decide +kernel
theorem dX7_chain_19 : decode cX7_chain 19 = .ok (.getfield 82, 3) := by decide +kernel
theorem dX7_chain_22 : decode cX7_chain 22 = .ok (.if_icmp .ge 16, 3) := by decide +kernel
theorem dX7_chain_25 : decode cX7_chain 25 = .ok (.aload_n 0, 1) := by decide +kernel
theorem dX7_chain_26 : decode cX7_chain 26 = .ok (.getfield 53, 3) := by decide +kernel
theorem dX7_chain_29 : decode cX7_chain 29 = .ok (.iload_n 2, 1) := by decide +kernel
theorem dX7_chain_30 : decode cX7_chain 30 = .ok (.iconst 0, 1) := by decide +kernel
theorem dX7_chain_31 : decode cX7_chain 31 = .ok (.iastore, 1) := by decide +kernel
theorem dX7_chain_32 : decode cX7_chain 32 = .ok (.iinc 2 1, 3) := by decide +kernel
theorem dX7_chain_35 : decode cX7_chain 35 = .ok (.goto (-18), 3) := by decide +kernel
theorem dX7_chain_38 : decode cX7_chain 38 = .ok (.aload_n 0, 1) := by decide +kernel
theorem dX7_chain_39 : decode cX7_chain 39 = .ok (.getfield 82, 3) := by decide +kernel
theorem dX7_chain_42 : decode cX7_chain 42 = .ok (.iconst 1, 1) := by decide +kernel
theorem dX7_chain_43 : decode cX7_chain 43 = .ok (.isub, 1) := by decide +kernel
theorem dX7_chain_44 : decode cX7_chain 44 = .ok (.istore_n 2, 1) := by decide +kernel
theorem dX7_chain_45 : decode cX7_chain 45 = .ok (.iload_n 2, 1) := by decide +kernel
theorem dX7_chain_46 : decode cX7_chain 46 = .ok (.ifCond .le 72, 3) := by decide +kernel
theorem dX7_chain_49 : decode cX7_chain 49 = .ok (.aload_n 0, 1) := by decide +kernel
theorem dX7_chain_50 : decode cX7_chain 50 = .ok (.getfield 104, 3) := by decide +kernel
theorem dX7_chain_53 : decode cX7_chain 53 = .ok (.iload_n 2, 1) := by decide +kernel
theorem dX7_chain_54 : decode cX7_chain 54 = .ok (.invokestatic 151, 3) := by decide +kernel
theorem dX7_chain_57 : decode cX7_chain 57 = .ok (.ifCond .eq 55, 3) := by decide +kernel
theorem dX7_chain_60 : decode cX7_chain 60 = .ok (.aload_n 0, 1) := by decide +kernel
theorem dX7_chain_61 : decode cX7_chain 61 = .ok (.getfield 101, 3) := by decide +kernel
theorem dX7_chain_64 : decode cX7_chain 64 = .ok (.iload_n 2, 1) := by decide +kernel
theorem dX7_chain_65 : decode cX7_chain 65 = .ok (.invokestatic 151, 3) := by decide +kernel
theorem dX7_chain_68 : decode cX7_chain 68 = .ok (.ifCond .ne 44, 3) := by decide +kernel
theorem dX7_chain_71 : decode cX7_chain 71 = .ok (.aload_n 0, 1) := by decide +kernel
theorem dX7_chain_72 : decode cX7_chain 72 = .ok (.getfield 53, 3) := by decide +kernel
theorem dX7_chain_75 : decode cX7_chain 75 = .ok (.iload_n 2, 1) := by decide +kernel
theorem dX7_chain_76 : decode cX7_chain 76 = .ok (.iaload, 1) := by decide +kernel
theorem dX7_chain_77 : decode cX7_chain 77 = .ok (.iconst 1, 1) := by decide +kernel
theorem dX7_chain_78 : decode cX7_chain 78 = .ok (.iadd, 1) := by decide +kernel
theorem dX7_chain_79 : decode cX7_chain 79 = .ok (.aload_n 0, 1) := by decide +kernel
theorem dX7_chain_80 : decode cX7_chain 80 = .ok (.getfield 53, 3) := by decide +kernel
theorem dX7_chain_83 : decode cX7_chain 83 = .ok (.aload_n 0, 1) := by decide +kernel
theorem dX7_chain_84 : decode cX7_chain 84 = .ok (.getfield 28, 3) := by decide +kernel
theorem dX7_chain_87 : decode cX7_chain 87 = .ok (.iload_n 2, 1) := by decide +kernel
theorem dX7_chain_88 : decode cX7_chain 88 = .ok (.iaload, 1) := by decide +kernel
theorem dX7_chain_89 : decode cX7_chain 89 = .ok (.iaload, 1) := by decide +kernel
theorem dX7_chain_90 : decode cX7_chain 90 = .ok (.if_icmp .le 22, 3) := by decide +kernel
theorem dX7_chain_93 : decode cX7_chain 93 = .ok (.aload_n 0, 1) := by decide +kernel
theorem dX7_chain_94 : decode cX7_chain 94 = .ok (.getfield 53, 3) := by decide +kernel
theorem dX7_chain_97 : decode cX7_chain 97 = .ok (.aload_n 0, 1) := by decide +kernel
theorem dX7_chain_98 : decode cX7_chain 98 = .ok (.getfield 28, 3) := by decide +kernel
theorem dX7_chain_101 : decode cX7_chain 101 = .ok (.iload_n 2, 1) := by decide +kernel
theorem dX7_chain_102 : decode cX7_chain 102 = .ok (.iaload, 1) := by decide +kernel
theorem dX7_chain_103 : decode cX7_chain 103 = .ok (.aload_n 0, 1) := by decide +kernel
theorem dX7_chain_104 : decode cX7_chain 104 = .ok (.getfield 53, 3) := by decide +kernel
theorem dX7_chain_107 : decode cX7_chain 107 = .ok (.iload_n 2, 1) := by decide +kernel
theorem dX7_chain_108 : decode cX7_chain 108 = .ok (.iaload, 1) := by decide +kernel
theorem dX7_chain_109 : decode cX7_chain 109 = .ok (.iconst 1, 1) := by decide +kernel
theorem dX7_chain_110 : decode cX7_chain 110 = .ok (.iadd, 1) := by decide +kernel
theorem dX7_chain_111 : decode cX7_chain 111 = .ok (.iastore, 1) := by decide +kernel
theorem dX7_chain_112 : decode cX7_chain 112 = .ok (.iinc 2 (-1), 3) := by decide +kernel
theorem dX7_chain_115 : decode cX7_chain 115 = .ok (.goto (-70), 3) := by decide +kernel
theorem dX7_chain_118 : decode cX7_chain 118 = .ok (.aload_n 0, 1) := by decide +kernel
theorem dX7_chain_119 : decode cX7_chain 119 = .ok (.getfield 53, 3) := by decide +kernel
theorem dX7_chain_122 : decode cX7_chain 122 = .ok (.iload_n 1, 1) := by decide +kernel
theorem dX7_chain_123 : decode cX7_chain 123 = .ok (.iaload, 1) := by decide +kernel
theorem dX7_chain_124 : decode cX7_chain 124 = .ok (.ireturn, 1) := by decide +kernel
theorem dX7_hangsNow_0 : decode cX7_hangsNow 0 = .ok (.aload_n 0, 1) := by decide +kernel
theorem dX7_hangsNow_1 : decode cX7_hangsNow 1 = .ok (.iconst 0, 1) := by decide +kernel
theorem dX7_hangsNow_2 : decode cX7_hangsNow 2 = .ok (.invokevirtual 171, 3) := by decide +kernel
theorem dX7_hangsNow_5 : decode cX7_hangsNow 5 = .ok (.aload_n 0, 1) := by decide +kernel
theorem dX7_hangsNow_6 : decode cX7_hangsNow 6 = .ok (.getfield 136, 3) := by decide +kernel
theorem dX7_hangsNow_9 : decode cX7_hangsNow 9 = .ok (.istore_n 2, 1) := by decide +kernel
theorem dX7_hangsNow_10 : decode cX7_hangsNow 10 = .ok (.aload_n 0, 1) := by decide +kernel
theorem dX7_hangsNow_11 : decode cX7_hangsNow 11 = .ok (.aload_n 0, 1) := by decide +kernel
theorem dX7_hangsNow_12 : decode cX7_hangsNow 12 = .ok (.invokevirtual 162, 3) := by decide +kernel
theorem dX7_hangsNow_15 : decode cX7_hangsNow 15 = .ok (.iconst 1, 1) := by decide +kernel
theorem dX7_hangsNow_16 : decode cX7_hangsNow 16 = .ok (.iload_n 1, 1) := by decide +kernel
theorem dX7_hangsNow_17 : decode cX7_hangsNow 17 = .ok (.ishl, 1) := by decide +kernel
theorem dX7_hangsNow_18 : decode cX7_hangsNow 18 = .ok (.iconst (-1), 1) := by decide +kernel
theorem dX7_hangsNow_19 : decode cX7_hangsNow 19 = .ok (.ixor, 1) := by decide +kernel
theorem dX7_hangsNow_20 : decode cX7_hangsNow 20 = .ok (.iand, 1) := by decide +kernel
theorem dX7_hangsNow_21 : decode cX7_hangsNow 21 = .ok (.invokevirtual 165, 3) := by decide +kernel
theorem dX7_hangsNow_24 : decode cX7_hangsNow 24 = .ok (.aload_n 0, 1) := by decide +kernel
theorem dX7_hangsNow_25 : decode cX7_hangsNow 25 = .ok (.iconst 0, 1) := by decide +kernel
theorem dX7_hangsNow_26 : decode cX7_hangsNow 26 = .ok (.invokevirtual 168, 3) := by decide +kernel
theorem dX7_hangsNow_29 : decode cX7_hangsNow 29 = .ok (.iload_n 2, 1) := by decide +kernel
theorem dX7_hangsNow_30 : decode cX7_hangsNow 30 = .ok (.aload_n 0, 1) := by decide +kernel
theorem dX7_hangsNow_31 : decode cX7_hangsNow 31 = .ok (.getfield 136, 3) := by decide +kernel
theorem dX7_hangsNow_34 : decode cX7_hangsNow 34 = .ok (.ixor, 1) := by decide +kernel
theorem dX7_hangsNow_35 : decode cX7_hangsNow 35 = .ok (.iconst 1, 1) := by decide +kernel
theorem dX7_hangsNow_36 : decode cX7_hangsNow 36 = .ok (.iload_n 1, 1) := by decide +kernel
theorem dX7_hangsNow_37 : decode cX7_hangsNow 37 = .ok (.ishl, 1) := by decide +kernel
theorem dX7_hangsNow_38 : decode cX7_hangsNow 38 = .ok (.iconst (-1), 1) := by decide +kernel
theorem dX7_hangsNow_39 : decode cX7_hangsNow 39 = .ok (.ixor, 1) := by decide +kernel
theorem dX7_hangsNow_40 : decode cX7_hangsNow 40 = .ok (.iand, 1) := by decide +kernel
theorem dX7_hangsNow_41 : decode cX7_hangsNow 41 = .ok (.invokestatic 148, 3) := by decide +kernel
theorem dX7_hangsNow_44 : decode cX7_hangsNow 44 = .ok (.ireturn, 1) := by decide +kernel
theorem dX7_hangs_0 : decode cX7_hangs 0 = .ok (.aload_n 0, 1) := by decide +kernel
theorem dX7_hangs_1 : decode cX7_hangs 1 = .ok (.iload_n 1, 1) := by decide +kernel
theorem dX7_hangs_2 : decode cX7_hangs 2 = .ok (.invokevirtual 111, 3) := by decide +kernel
theorem dX7_hangs_5 : decode cX7_hangs 5 = .ok (.ifCond .eq 22, 3) := by decide +kernel
theorem dX7_hangs_8 : decode cX7_hangs 8 = .ok (.aload_n 0, 1) := by decide +kernel
theorem dX7_hangs_9 : decode cX7_hangs 9 = .ok (.getfield 101, 3) := by decide +kernel
theorem dX7_hangs_12 : decode cX7_hangs 12 = .ok (.iload_n 1, 1) := by decide +kernel
theorem dX7_hangs_13 : decode cX7_hangs 13 = .ok (.invokestatic 151, 3) := by decide +kernel
theorem dX7_hangs_16 : decode cX7_hangs 16 = .ok (.ifCond .ne 11, 3) := by decide +kernel
theorem dX7_hangs_19 : decode cX7_hangs 19 = .ok (.aload_n 0, 1) := by decide +kernel
theorem dX7_hangs_20 : decode cX7_hangs 20 = .ok (.iload_n 1, 1) := by decide +kernel
theorem dX7_hangs_21 : decode cX7_hangs 21 = .ok (.invokevirtual 221, 3) := by decide +kernel
theorem dX7_hangs_24 : decode cX7_hangs 24 = .ok (.goto 5, 3) := by decide +kernel
theorem dX7_hangs_27 : decode cX7_hangs 27 = .ok (.bipush (-2), 2) := by decide +kernel
theorem dX7_hangs_29 : decode cX7_hangs 29 = .ok (.ireturn, 1) := by decide +kernel
theorem dX7_mostNow_0 : decode cX7_mostNow 0 = .ok (.iconst (-1), 1) := by decide +kernel
theorem dX7_mostNow_1 : decode cX7_mostNow 1 = .ok (.istore_n 1, 1) := by decide +kernel
theorem dX7_mostNow_2 : decode cX7_mostNow 2 = .ok (.iconst 0, 1) := by decide +kernel
theorem dX7_mostNow_3 : decode cX7_mostNow 3 = .ok (.istore_n 2, 1) := by decide +kernel
theorem dX7_mostNow_4 : decode cX7_mostNow 4 = .ok (.iconst 0, 1) := by decide +kernel
theorem dX7_mostNow_5 : decode cX7_mostNow 5 = .ok (.istore_n 3, 1) := by decide +kernel
theorem dX7_mostNow_6 : decode cX7_mostNow 6 = .ok (.iload_n 3, 1) := by decide +kernel
theorem dX7_mostNow_7 : decode cX7_mostNow 7 = .ok (.aload_n 0, 1) := by decide +kernel
theorem dX7_mostNow_8 : decode cX7_mostNow 8 = .ok (.getfield 82, 3) := by decide +kernel
theorem dX7_mostNow_11 : decode cX7_mostNow 11 = .ok (.if_icmp .ge 43, 3) := by decide +kernel
theorem dX7_mostNow_14 : decode cX7_mostNow 14 = .ok (.aload_n 0, 1) := by decide +kernel
theorem dX7_mostNow_15 : decode cX7_mostNow 15 = .ok (.getfield 101, 3) := by decide +kernel
theorem dX7_mostNow_18 : decode cX7_mostNow 18 = .ok (.iload_n 3, 1) := by decide +kernel
theorem dX7_mostNow_19 : decode cX7_mostNow 19 = .ok (.invokestatic 151, 3) := by decide +kernel
theorem dX7_mostNow_22 : decode cX7_mostNow 22 = .ok (.ifCond .ne 26, 3) := by decide +kernel
theorem dX7_mostNow_25 : decode cX7_mostNow 25 = .ok (.aload_n 0, 1) := by decide +kernel
theorem dX7_mostNow_26 : decode cX7_mostNow 26 = .ok (.iload_n 3, 1) := by decide +kernel
theorem dX7_mostNow_27 : decode cX7_mostNow 27 = .ok (.invokevirtual 221, 3) := by decide +kernel
theorem dX7_mostNow_30 : decode cX7_mostNow 30 = .ok (.istore 4, 2) := by decide +kernel
theorem dX7_mostNow_32 : decode cX7_mostNow 32 = .ok (.iload_n 1, 1) := by decide +kernel
theorem dX7_mostNow_33 : decode cX7_mostNow 33 = .ok (.iconst (-1), 1) := by decide +kernel
theorem dX7_mostNow_34 : decode cX7_mostNow 34 = .ok (.if_icmp .eq 9, 3) := by decide +kernel
theorem dX7_mostNow_37 : decode cX7_mostNow 37 = .ok (.iload 4, 2) := by decide +kernel
theorem dX7_mostNow_39 : decode cX7_mostNow 39 = .ok (.iload_n 2, 1) := by decide +kernel
theorem dX7_mostNow_40 : decode cX7_mostNow 40 = .ok (.if_icmp .le 8, 3) := by decide +kernel
theorem dX7_mostNow_43 : decode cX7_mostNow 43 = .ok (.iload_n 3, 1) := by decide +kernel
theorem dX7_mostNow_44 : decode cX7_mostNow 44 = .ok (.istore_n 1, 1) := by decide +kernel
theorem dX7_mostNow_45 : decode cX7_mostNow 45 = .ok (.iload 4, 2) := by decide +kernel
theorem dX7_mostNow_47 : decode cX7_mostNow 47 = .ok (.istore_n 2, 1) := by decide +kernel
theorem dX7_mostNow_48 : decode cX7_mostNow 48 = .ok (.iinc 3 1, 3) := by decide +kernel
theorem dX7_mostNow_51 : decode cX7_mostNow 51 = .ok (.goto (-45), 3) := by decide +kernel
theorem dX7_mostNow_54 : decode cX7_mostNow 54 = .ok (.iload_n 1, 1) := by decide +kernel
theorem dX7_mostNow_55 : decode cX7_mostNow 55 = .ok (.ireturn, 1) := by decide +kernel
theorem dX7_most_0 : decode cX7_most 0 = .ok (.aload_n 0, 1) := by decide +kernel
theorem dX7_most_1 : decode cX7_most 1 = .ok (.invokevirtual 224, 3) := by decide +kernel
theorem dX7_most_4 : decode cX7_most 4 = .ok (.ireturn, 1) := by decide +kernel
theorem dX7_brings_0 : decode cX7_brings 0 = .ok (.aload_n 0, 1) := by decide +kernel
theorem dX7_brings_1 : decode cX7_brings 1 = .ok (.iload_n 1, 1) := by decide +kernel
theorem dX7_brings_2 : decode cX7_brings 2 = .ok (.invokevirtual 111, 3) := by decide +kernel
theorem dX7_brings_5 : decode cX7_brings 5 = .ok (.ifCond .eq 32, 3) := by decide +kernel
theorem dX7_brings_8 : decode cX7_brings 8 = .ok (.aload_n 0, 1) := by decide +kernel
theorem dX7_brings_9 : decode cX7_brings 9 = .ok (.getfield 16, 3) := by decide +kernel
theorem dX7_brings_12 : decode cX7_brings 12 = .ok (.iload_n 1, 1) := by decide +kernel
theorem dX7_brings_13 : decode cX7_brings 13 = .ok (.iaload, 1) := by decide +kernel
theorem dX7_brings_14 : decode cX7_brings 14 = .ok (.ifCond .ne 23, 3) := by decide +kernel
theorem dX7_brings_17 : decode cX7_brings 17 = .ok (.aload_n 0, 1) := by decide +kernel
theorem dX7_brings_18 : decode cX7_brings 18 = .ok (.getfield 101, 3) := by decide +kernel
theorem dX7_brings_21 : decode cX7_brings 21 = .ok (.iload_n 1, 1) := by decide +kernel
theorem dX7_brings_22 : decode cX7_brings 22 = .ok (.invokestatic 151, 3) := by decide +kernel
theorem dX7_brings_25 : decode cX7_brings 25 = .ok (.ifCond .ne 12, 3) := by decide +kernel
theorem dX7_brings_28 : decode cX7_brings 28 = .ok (.iload_n 2, 1) := by decide +kernel
theorem dX7_brings_29 : decode cX7_brings 29 = .ok (.iconst 0, 1) := by decide +kernel
theorem dX7_brings_30 : decode cX7_brings 30 = .ok (.iconst 1, 1) := by decide +kernel
theorem dX7_brings_31 : decode cX7_brings 31 = .ok (.invokestatic 71, 3) := by decide +kernel
theorem dX7_brings_34 : decode cX7_brings 34 = .ok (.ifCond .ne 6, 3) := by decide +kernel
theorem dX7_brings_37 : decode cX7_brings 37 = .ok (.bipush (-2), 2) := by decide +kernel
theorem dX7_brings_39 : decode cX7_brings 39 = .ok (.ireturn, 1) := by decide +kernel
theorem dX7_brings_40 : decode cX7_brings 40 = .ok (.iconst (-1), 1) := by decide +kernel
theorem dX7_brings_41 : decode cX7_brings 41 = .ok (.istore_n 3, 1) := by decide +kernel
theorem dX7_brings_42 : decode cX7_brings 42 = .ok (.iconst 0, 1) := by decide +kernel
theorem dX7_brings_43 : decode cX7_brings 43 = .ok (.istore 4, 2) := by decide +kernel
theorem dX7_brings_45 : decode cX7_brings 45 = .ok (.iload 4, 2) := by decide +kernel
theorem dX7_brings_47 : decode cX7_brings 47 = .ok (.aload_n 0, 1) := by decide +kernel
theorem dX7_brings_48 : decode cX7_brings 48 = .ok (.invokevirtual 97, 3) := by decide +kernel
theorem dX7_brings_51 : decode cX7_brings 51 = .ok (.if_icmp .gt 69, 3) := by decide +kernel
theorem dX7_brings_54 : decode cX7_brings 54 = .ok (.iload 4, 2) := by decide +kernel
theorem dX7_brings_56 : decode cX7_brings 56 = .ok (.aload_n 0, 1) := by decide +kernel
theorem dX7_brings_57 : decode cX7_brings 57 = .ok (.getfield 101, 3) := by decide +kernel
theorem dX7_brings_60 : decode cX7_brings 60 = .ok (.iconst (-1), 1) := by decide +kernel
theorem dX7_brings_61 : decode cX7_brings 61 = .ok (.ixor, 1) := by decide +kernel
theorem dX7_brings_62 : decode cX7_brings 62 = .ok (.iand, 1) := by decide +kernel
theorem dX7_brings_63 : decode cX7_brings 63 = .ok (.ifCond .ne 51, 3) := by decide +kernel
theorem dX7_brings_66 : decode cX7_brings 66 = .ok (.iload_n 3, 1) := by decide +kernel
theorem dX7_brings_67 : decode cX7_brings 67 = .ok (.iconst (-1), 1) := by decide +kernel
theorem dX7_brings_68 : decode cX7_brings 68 = .ok (.if_icmp .eq 15, 3) := by decide +kernel
theorem dX7_brings_71 : decode cX7_brings 71 = .ok (.iload 4, 2) := by decide +kernel
theorem dX7_brings_73 : decode cX7_brings 73 = .ok (.invokestatic 148, 3) := by decide +kernel
theorem dX7_brings_76 : decode cX7_brings 76 = .ok (.iload_n 3, 1) := by decide +kernel
theorem dX7_brings_77 : decode cX7_brings 77 = .ok (.invokestatic 148, 3) := by decide +kernel
theorem dX7_brings_80 : decode cX7_brings 80 = .ok (.if_icmp .ge 34, 3) := by decide +kernel
theorem dX7_brings_83 : decode cX7_brings 83 = .ok (.aload_n 0, 1) := by decide +kernel
theorem dX7_brings_84 : decode cX7_brings 84 = .ok (.iconst 0, 1) := by decide +kernel
theorem dX7_brings_85 : decode cX7_brings 85 = .ok (.aload_n 0, 1) := by decide +kernel
theorem dX7_brings_86 : decode cX7_brings 86 = .ok (.invokevirtual 162, 3) := by decide +kernel
theorem dX7_brings_89 : decode cX7_brings 89 = .ok (.iload 4, 2) := by decide +kernel
theorem dX7_brings_91 : decode cX7_brings 91 = .ok (.ior, 1) := by decide +kernel
theorem dX7_brings_92 : decode cX7_brings 92 = .ok (.invokevirtual 193, 3) := by decide +kernel
theorem dX7_brings_95 : decode cX7_brings 95 = .ok (.aload_n 0, 1) := by decide +kernel
theorem dX7_brings_96 : decode cX7_brings 96 = .ok (.invokevirtual 203, 3) := by decide +kernel
theorem dX7_brings_99 : decode cX7_brings 99 = .ok (.iload_n 1, 1) := by decide +kernel
theorem dX7_brings_100 : decode cX7_brings 100 = .ok (.ishr, 1) := by decide +kernel
theorem dX7_brings_101 : decode cX7_brings 101 = .ok (.iconst 1, 1) := by decide +kernel
theorem dX7_brings_102 : decode cX7_brings 102 = .ok (.iand, 1) := by decide +kernel
theorem dX7_brings_103 : decode cX7_brings 103 = .ok (.iload_n 2, 1) := by decide +kernel
theorem dX7_brings_104 : decode cX7_brings 104 = .ok (.if_icmp .ne 8, 3) := by decide +kernel
theorem dX7_brings_107 : decode cX7_brings 107 = .ok (.iload 4, 2) := by decide +kernel
theorem dX7_brings_109 : decode cX7_brings 109 = .ok (.goto 4, 3) := by decide +kernel
theorem dX7_brings_112 : decode cX7_brings 112 = .ok (.iload_n 3, 1) := by decide +kernel
theorem dX7_brings_113 : decode cX7_brings 113 = .ok (.istore_n 3, 1) := by decide +kernel
theorem dX7_brings_114 : decode cX7_brings 114 = .ok (.iinc 4 1, 3) := by decide +kernel
theorem dX7_brings_117 : decode cX7_brings 117 = .ok (.goto (-72), 3) := by decide +kernel
theorem dX7_brings_120 : decode cX7_brings 120 = .ok (.iload_n 3, 1) := by decide +kernel
theorem dX7_brings_121 : decode cX7_brings 121 = .ok (.ireturn, 1) := by decide +kernel
theorem dX7_part_0 : decode cX7_part 0 = .ok (.aload_n 0, 1) := by decide +kernel
theorem dX7_part_1 : decode cX7_part 1 = .ok (.iconst 0, 1) := by decide +kernel
theorem dX7_part_2 : decode cX7_part 2 = .ok (.invokevirtual 133, 3) := by decide +kernel
theorem dX7_part_5 : decode cX7_part 5 = .ok (.aload_n 0, 1) := by decide +kernel
theorem dX7_part_6 : decode cX7_part 6 = .ok (.iconst 1, 1) := by decide +kernel
theorem dX7_part_7 : decode cX7_part 7 = .ok (.invokevirtual 133, 3) := by decide +kernel
theorem dX7_part_10 : decode cX7_part 10 = .ok (.aload_n 0, 1) := by decide +kernel
theorem dX7_part_11 : decode cX7_part 11 = .ok (.invokevirtual 114, 3) := by decide +kernel
theorem dX7_part_14 : decode cX7_part 14 = .ok (.iconst (-1), 1) := by decide +kernel
theorem dX7_part_15 : decode cX7_part 15 = .ok (.istore_n 1, 1) := by decide +kernel
theorem dX7_part_16 : decode cX7_part 16 = .ok (.iconst 1, 1) := by decide +kernel
theorem dX7_part_17 : decode cX7_part 17 = .ok (.istore_n 2, 1) := by decide +kernel
theorem dX7_part_18 : decode cX7_part 18 = .ok (.iload_n 2, 1) := by decide +kernel
theorem dX7_part_19 : decode cX7_part 19 = .ok (.aload_n 0, 1) := by decide +kernel
theorem dX7_part_20 : decode cX7_part 20 = .ok (.invokevirtual 97, 3) := by decide +kernel
theorem dX7_part_23 : decode cX7_part 23 = .ok (.if_icmp .gt 68, 3) := by decide +kernel
theorem dX7_part_26 : decode cX7_part 26 = .ok (.iload_n 2, 1) := by decide +kernel
theorem dX7_part_27 : decode cX7_part 27 = .ok (.aload_n 0, 1) := by decide +kernel
theorem dX7_part_28 : decode cX7_part 28 = .ok (.getfield 101, 3) := by decide +kernel
theorem dX7_part_31 : decode cX7_part 31 = .ok (.iand, 1) := by decide +kernel
theorem dX7_part_32 : decode cX7_part 32 = .ok (.ifCond .ne 53, 3) := by decide +kernel
theorem dX7_part_35 : decode cX7_part 35 = .ok (.iload_n 1, 1) := by decide +kernel
theorem dX7_part_36 : decode cX7_part 36 = .ok (.iconst (-1), 1) := by decide +kernel
theorem dX7_part_37 : decode cX7_part 37 = .ok (.if_icmp .eq 14, 3) := by decide +kernel
theorem dX7_part_40 : decode cX7_part 40 = .ok (.iload_n 2, 1) := by decide +kernel
theorem dX7_part_41 : decode cX7_part 41 = .ok (.invokestatic 148, 3) := by decide +kernel
theorem dX7_part_44 : decode cX7_part 44 = .ok (.iload_n 1, 1) := by decide +kernel
theorem dX7_part_45 : decode cX7_part 45 = .ok (.invokestatic 148, 3) := by decide +kernel
theorem dX7_part_48 : decode cX7_part 48 = .ok (.if_icmp .ge 37, 3) := by decide +kernel
theorem dX7_part_51 : decode cX7_part 51 = .ok (.aload_n 0, 1) := by decide +kernel
theorem dX7_part_52 : decode cX7_part 52 = .ok (.iload_n 2, 1) := by decide +kernel
theorem dX7_part_53 : decode cX7_part 53 = .ok (.invokevirtual 165, 3) := by decide +kernel
theorem dX7_part_56 : decode cX7_part 56 = .ok (.aload_n 0, 1) := by decide +kernel
theorem dX7_part_57 : decode cX7_part 57 = .ok (.iconst 0, 1) := by decide +kernel
theorem dX7_part_58 : decode cX7_part 58 = .ok (.invokevirtual 168, 3) := by decide +kernel
theorem dX7_part_61 : decode cX7_part 61 = .ok (.aload_n 0, 1) := by decide +kernel
theorem dX7_part_62 : decode cX7_part 62 = .ok (.getfield 136, 3) := by decide +kernel
theorem dX7_part_65 : decode cX7_part 65 = .ok (.istore_n 3, 1) := by decide +kernel
theorem dX7_part_66 : decode cX7_part 66 = .ok (.aload_n 0, 1) := by decide +kernel
theorem dX7_part_67 : decode cX7_part 67 = .ok (.iconst 1, 1) := by decide +kernel
theorem dX7_part_68 : decode cX7_part 68 = .ok (.invokevirtual 168, 3) := by decide +kernel
theorem dX7_part_71 : decode cX7_part 71 = .ok (.iload_n 3, 1) := by decide +kernel
theorem dX7_part_72 : decode cX7_part 72 = .ok (.aload_n 0, 1) := by decide +kernel
theorem dX7_part_73 : decode cX7_part 73 = .ok (.getfield 136, 3) := by decide +kernel
theorem dX7_part_76 : decode cX7_part 76 = .ok (.if_icmp .eq 7, 3) := by decide +kernel
theorem dX7_part_79 : decode cX7_part 79 = .ok (.iload_n 2, 1) := by decide +kernel
theorem dX7_part_80 : decode cX7_part 80 = .ok (.goto 4, 3) := by decide +kernel
theorem dX7_part_83 : decode cX7_part 83 = .ok (.iload_n 1, 1) := by decide +kernel
theorem dX7_part_84 : decode cX7_part 84 = .ok (.istore_n 1, 1) := by decide +kernel
theorem dX7_part_85 : decode cX7_part 85 = .ok (.iinc 2 1, 3) := by decide +kernel
theorem dX7_part_88 : decode cX7_part 88 = .ok (.goto (-70), 3) := by decide +kernel
theorem dX7_part_91 : decode cX7_part 91 = .ok (.iload_n 1, 1) := by decide +kernel
theorem dX7_part_92 : decode cX7_part 92 = .ok (.ireturn, 1) := by decide +kernel
theorem dX7_meets_0 : decode cX7_meets 0 = .ok (.aload_n 0, 1) := by decide +kernel
theorem dX7_meets_1 : decode cX7_meets 1 = .ok (.iload_n 1, 1) := by decide +kernel
theorem dX7_meets_2 : decode cX7_meets 2 = .ok (.putfield 227, 3) := by decide +kernel
theorem dX7_meets_5 : decode cX7_meets 5 = .ok (.bipush (-10), 2) := by decide +kernel
theorem dX7_meets_7 : decode cX7_meets 7 = .ok (.iload_n 1, 1) := by decide +kernel
theorem dX7_meets_8 : decode cX7_meets 8 = .ok (.isub, 1) := by decide +kernel
theorem dX7_meets_9 : decode cX7_meets 9 = .ok (.ireturn, 1) := by decide +kernel
theorem dX7_isSheet_0 : decode cX7_isSheet 0 = .ok (.iload_n 0, 1) := by decide +kernel
theorem dX7_isSheet_1 : decode cX7_isSheet 1 = .ok (.iconst 0, 1) := by decide +kernel
theorem dX7_isSheet_2 : decode cX7_isSheet 2 = .ok (.iconst 3, 1) := by decide +kernel
theorem dX7_isSheet_3 : decode cX7_isSheet 3 = .ok (.invokestatic 71, 3) := by decide +kernel
theorem dX7_isSheet_6 : decode cX7_isSheet 6 = .ok (.ireturn, 1) := by decide +kernel
theorem dX7_sheet_0 : decode cX7_sheet 0 = .ok (.iload_n 1, 1) := by decide +kernel
theorem dX7_sheet_1 : decode cX7_sheet 1 = .ok (.invokestatic 90, 3) := by decide +kernel
theorem dX7_sheet_4 : decode cX7_sheet 4 = .ok (.ifCond .eq 18, 3) := by decide +kernel
theorem dX7_sheet_7 : decode cX7_sheet 7 = .ok (.iload_n 2, 1) := by decide +kernel
theorem dX7_sheet_8 : decode cX7_sheet 8 = .ok (.iconst 0, 1) := by decide +kernel
theorem dX7_sheet_9 : decode cX7_sheet 9 = .ok (.iconst 2, 1) := by decide +kernel
theorem dX7_sheet_10 : decode cX7_sheet 10 = .ok (.invokestatic 71, 3) := by decide +kernel
theorem dX7_sheet_13 : decode cX7_sheet 13 = .ok (.ifCond .eq 9, 3) := by decide +kernel
theorem dX7_sheet_16 : decode cX7_sheet 16 = .ok (.iload_n 3, 1) := by decide +kernel
theorem dX7_sheet_17 : decode cX7_sheet 17 = .ok (.bipush 40, 2) := by decide +kernel
theorem dX7_sheet_19 : decode cX7_sheet 19 = .ok (.if_icmp .le 6, 3) := by decide +kernel
theorem dX7_sheet_22 : decode cX7_sheet 22 = .ok (.bipush (-2), 2) := by decide +kernel
theorem dX7_sheet_24 : decode cX7_sheet 24 = .ok (.ireturn, 1) := by decide +kernel
theorem dX7_sheet_25 : decode cX7_sheet 25 = .ok (.iload_n 3, 1) := by decide +kernel
theorem dX7_sheet_26 : decode cX7_sheet 26 = .ok (.ifCond .ge 9, 3) := by decide +kernel
theorem dX7_sheet_29 : decode cX7_sheet 29 = .ok (.aload_n 0, 1) := by decide +kernel
theorem dX7_sheet_30 : decode cX7_sheet 30 = .ok (.iconst 5, 1) := by decide +kernel
theorem dX7_sheet_31 : decode cX7_sheet 31 = .ok (.invokevirtual 93, 3) := by decide +kernel
theorem dX7_sheet_34 : decode cX7_sheet 34 = .ok (.ireturn, 1) := by decide +kernel
theorem dX7_sheet_35 : decode cX7_sheet 35 = .ok (.aload_n 0, 1) := by decide +kernel
theorem dX7_sheet_36 : decode cX7_sheet 36 = .ok (.getfield 56, 3) := by decide +kernel
theorem dX7_sheet_39 : decode cX7_sheet 39 = .ok (.iload_n 1, 1) := by decide +kernel
theorem dX7_sheet_40 : decode cX7_sheet 40 = .ok (.iconst 1, 1) := by decide +kernel
theorem dX7_sheet_41 : decode cX7_sheet 41 = .ok (.bastore, 1) := by decide +kernel
theorem dX7_sheet_42 : decode cX7_sheet 42 = .ok (.aload_n 0, 1) := by decide +kernel
theorem dX7_sheet_43 : decode cX7_sheet 43 = .ok (.getfield 59, 3) := by decide +kernel
theorem dX7_sheet_46 : decode cX7_sheet 46 = .ok (.iload_n 1, 1) := by decide +kernel
theorem dX7_sheet_47 : decode cX7_sheet 47 = .ok (.iload_n 2, 1) := by decide +kernel
theorem dX7_sheet_48 : decode cX7_sheet 48 = .ok (.iastore, 1) := by decide +kernel
theorem dX7_sheet_49 : decode cX7_sheet 49 = .ok (.aload_n 0, 1) := by decide +kernel
theorem dX7_sheet_50 : decode cX7_sheet 50 = .ok (.getfield 62, 3) := by decide +kernel
theorem dX7_sheet_53 : decode cX7_sheet 53 = .ok (.iload_n 1, 1) := by decide +kernel
theorem dX7_sheet_54 : decode cX7_sheet 54 = .ok (.iload_n 3, 1) := by decide +kernel
theorem dX7_sheet_55 : decode cX7_sheet 55 = .ok (.iastore, 1) := by decide +kernel
theorem dX7_sheet_56 : decode cX7_sheet 56 = .ok (.iconst 0, 1) := by decide +kernel
theorem dX7_sheet_57 : decode cX7_sheet 57 = .ok (.istore 4, 2) := by decide +kernel
theorem dX7_sheet_59 : decode cX7_sheet 59 = .ok (.iload 4, 2) := by decide +kernel
theorem dX7_sheet_61 : decode cX7_sheet 61 = .ok (.bipush 40, 2) := by decide +kernel
theorem dX7_sheet_63 : decode cX7_sheet 63 = .ok (.if_icmp .ge 22, 3) := by decide +kernel
theorem dX7_sheet_66 : decode cX7_sheet 66 = .ok (.aload_n 0, 1) := by decide +kernel
theorem dX7_sheet_67 : decode cX7_sheet 67 = .ok (.getfield 65, 3) := by decide +kernel
theorem dX7_sheet_70 : decode cX7_sheet 70 = .ok (.bipush 40, 2) := by decide +kernel
theorem dX7_sheet_72 : decode cX7_sheet 72 = .ok (.iload_n 1, 1) := by decide +kernel
theorem dX7_sheet_73 : decode cX7_sheet 73 = .ok (.imul, 1) := by decide +kernel
theorem dX7_sheet_74 : decode cX7_sheet 74 = .ok (.iload 4, 2) := by decide +kernel
theorem dX7_sheet_76 : decode cX7_sheet 76 = .ok (.iadd, 1) := by decide +kernel
theorem dX7_sheet_77 : decode cX7_sheet 77 = .ok (.iconst 0, 1) := by decide +kernel
theorem dX7_sheet_78 : decode cX7_sheet 78 = .ok (.iastore, 1) := by decide +kernel
theorem dX7_sheet_79 : decode cX7_sheet 79 = .ok (.iinc 4 1, 3) := by decide +kernel
theorem dX7_sheet_82 : decode cX7_sheet 82 = .ok (.goto (-23), 3) := by decide +kernel
theorem dX7_sheet_85 : decode cX7_sheet 85 = .ok (.iload_n 3, 1) := by decide +kernel
theorem dX7_sheet_86 : decode cX7_sheet 86 = .ok (.ireturn, 1) := by decide +kernel
theorem dX7_lose_0 : decode cX7_lose 0 = .ok (.iload_n 1, 1) := by decide +kernel
theorem dX7_lose_1 : decode cX7_lose 1 = .ok (.invokestatic 90, 3) := by decide +kernel
theorem dX7_lose_4 : decode cX7_lose 4 = .ok (.ifCond .ne 6, 3) := by decide +kernel
theorem dX7_lose_7 : decode cX7_lose 7 = .ok (.bipush (-2), 2) := by decide +kernel
theorem dX7_lose_9 : decode cX7_lose 9 = .ok (.ireturn, 1) := by decide +kernel
theorem dX7_lose_10 : decode cX7_lose 10 = .ok (.aload_n 0, 1) := by decide +kernel
theorem dX7_lose_11 : decode cX7_lose 11 = .ok (.getfield 56, 3) := by decide +kernel
theorem dX7_lose_14 : decode cX7_lose 14 = .ok (.iload_n 1, 1) := by decide +kernel
theorem dX7_lose_15 : decode cX7_lose 15 = .ok (.baload, 1) := by decide +kernel
theorem dX7_lose_16 : decode cX7_lose 16 = .ok (.ifCond .ne 9, 3) := by decide +kernel
theorem dX7_lose_19 : decode cX7_lose 19 = .ok (.aload_n 0, 1) := by decide +kernel
theorem dX7_lose_20 : decode cX7_lose 20 = .ok (.iconst 1, 1) := by decide +kernel
theorem dX7_lose_21 : decode cX7_lose 21 = .ok (.invokevirtual 93, 3) := by decide +kernel
theorem dX7_lose_24 : decode cX7_lose 24 = .ok (.ireturn, 1) := by decide +kernel
theorem dX7_lose_25 : decode cX7_lose 25 = .ok (.aload_n 0, 1) := by decide +kernel
theorem dX7_lose_26 : decode cX7_lose 26 = .ok (.getfield 56, 3) := by decide +kernel
theorem dX7_lose_29 : decode cX7_lose 29 = .ok (.iload_n 1, 1) := by decide +kernel
theorem dX7_lose_30 : decode cX7_lose 30 = .ok (.iconst 0, 1) := by decide +kernel
theorem dX7_lose_31 : decode cX7_lose 31 = .ok (.bastore, 1) := by decide +kernel
theorem dX7_lose_32 : decode cX7_lose 32 = .ok (.aload_n 0, 1) := by decide +kernel
theorem dX7_lose_33 : decode cX7_lose 33 = .ok (.getfield 62, 3) := by decide +kernel
theorem dX7_lose_36 : decode cX7_lose 36 = .ok (.iload_n 1, 1) := by decide +kernel
theorem dX7_lose_37 : decode cX7_lose 37 = .ok (.iaload, 1) := by decide +kernel
theorem dX7_lose_38 : decode cX7_lose 38 = .ok (.ireturn, 1) := by decide +kernel
theorem dX7_lacks_0 : decode cX7_lacks 0 = .ok (.aload_n 0, 1) := by decide +kernel
theorem dX7_lacks_1 : decode cX7_lacks 1 = .ok (.getfield 56, 3) := by decide +kernel
theorem dX7_lacks_4 : decode cX7_lacks 4 = .ok (.iload_n 1, 1) := by decide +kernel
theorem dX7_lacks_5 : decode cX7_lacks 5 = .ok (.baload, 1) := by decide +kernel
theorem dX7_lacks_6 : decode cX7_lacks 6 = .ok (.ifCond .ne 7, 3) := by decide +kernel
theorem dX7_lacks_9 : decode cX7_lacks 9 = .ok (.iconst 1, 1) := by decide +kernel
theorem dX7_lacks_10 : decode cX7_lacks 10 = .ok (.goto 38, 3) := by decide +kernel
theorem dX7_lacks_13 : decode cX7_lacks 13 = .ok (.aload_n 0, 1) := by decide +kernel
theorem dX7_lacks_14 : decode cX7_lacks 14 = .ok (.getfield 59, 3) := by decide +kernel
theorem dX7_lacks_17 : decode cX7_lacks 17 = .ok (.iload_n 1, 1) := by decide +kernel
theorem dX7_lacks_18 : decode cX7_lacks 18 = .ok (.iaload, 1) := by decide +kernel
theorem dX7_lacks_19 : decode cX7_lacks 19 = .ok (.iload_n 2, 1) := by decide +kernel
theorem dX7_lacks_20 : decode cX7_lacks 20 = .ok (.if_icmp .eq 7, 3) := by decide +kernel
theorem dX7_lacks_23 : decode cX7_lacks 23 = .ok (.iconst 3, 1) := by decide +kernel
theorem dX7_lacks_24 : decode cX7_lacks 24 = .ok (.goto 24, 3) := by decide +kernel
theorem dX7_lacks_27 : decode cX7_lacks 27 = .ok (.iload_n 3, 1) := by decide +kernel
theorem dX7_lacks_28 : decode cX7_lacks 28 = .ok (.iconst 0, 1) := by decide +kernel
theorem dX7_lacks_29 : decode cX7_lacks 29 = .ok (.aload_n 0, 1) := by decide +kernel
theorem dX7_lacks_30 : decode cX7_lacks 30 = .ok (.getfield 62, 3) := by decide +kernel
theorem dX7_lacks_33 : decode cX7_lacks 33 = .ok (.iload_n 1, 1) := by decide +kernel
theorem dX7_lacks_34 : decode cX7_lacks 34 = .ok (.iaload, 1) := by decide +kernel
theorem dX7_lacks_35 : decode cX7_lacks 35 = .ok (.iconst 1, 1) := by decide +kernel
theorem dX7_lacks_36 : decode cX7_lacks 36 = .ok (.isub, 1) := by decide +kernel
theorem dX7_lacks_37 : decode cX7_lacks 37 = .ok (.invokestatic 71, 3) := by decide +kernel
theorem dX7_lacks_40 : decode cX7_lacks 40 = .ok (.ifCond .eq 7, 3) := by decide +kernel
theorem dX7_lacks_43 : decode cX7_lacks 43 = .ok (.iconst 0, 1) := by decide +kernel
theorem dX7_lacks_44 : decode cX7_lacks 44 = .ok (.goto 4, 3) := by decide +kernel
theorem dX7_lacks_47 : decode cX7_lacks 47 = .ok (.iconst 2, 1) := by decide +kernel
theorem dX7_lacks_48 : decode cX7_lacks 48 = .ok (.ireturn, 1) := by decide +kernel
theorem dX7_lay_0 : decode cX7_lay 0 = .ok (.aload_n 0, 1) := by decide +kernel
theorem dX7_lay_1 : decode cX7_lay 1 = .ok (.getfield 65, 3) := by decide +kernel
theorem dX7_lay_4 : decode cX7_lay 4 = .ok (.bipush 40, 2) := by decide +kernel
theorem dX7_lay_6 : decode cX7_lay 6 = .ok (.iload_n 1, 1) := by decide +kernel
theorem dX7_lay_7 : decode cX7_lay 7 = .ok (.imul, 1) := by decide +kernel
theorem dX7_lay_8 : decode cX7_lay 8 = .ok (.iload_n 2, 1) := by decide +kernel
theorem dX7_lay_9 : decode cX7_lay 9 = .ok (.iadd, 1) := by decide +kernel
theorem dX7_lay_10 : decode cX7_lay 10 = .ok (.aload_n 0, 1) := by decide +kernel
theorem dX7_lay_11 : decode cX7_lay 11 = .ok (.getfield 59, 3) := by decide +kernel
theorem dX7_lay_14 : decode cX7_lay 14 = .ok (.iload_n 1, 1) := by decide +kernel
theorem dX7_lay_15 : decode cX7_lay 15 = .ok (.iaload, 1) := by decide +kernel
theorem dX7_lay_16 : decode cX7_lay 16 = .ok (.ifCond .ne 8, 3) := by decide +kernel
theorem dX7_lay_19 : decode cX7_lay 19 = .ok (.iload_n 3, 1) := by decide +kernel
theorem dX7_lay_20 : decode cX7_lay 20 = .ok (.i2b, 1) := by decide +kernel
theorem dX7_lay_21 : decode cX7_lay 21 = .ok (.goto 19, 3) := by decide +kernel
theorem dX7_lay_24 : decode cX7_lay 24 = .ok (.aload_n 0, 1) := by decide +kernel
theorem dX7_lay_25 : decode cX7_lay 25 = .ok (.getfield 59, 3) := by decide +kernel
theorem dX7_lay_28 : decode cX7_lay 28 = .ok (.iload_n 1, 1) := by decide +kernel
theorem dX7_lay_29 : decode cX7_lay 29 = .ok (.iaload, 1) := by decide +kernel
theorem dX7_lay_30 : decode cX7_lay 30 = .ok (.iconst 1, 1) := by decide +kernel
theorem dX7_lay_31 : decode cX7_lay 31 = .ok (.if_icmp .ne 8, 3) := by decide +kernel
theorem dX7_lay_34 : decode cX7_lay 34 = .ok (.iload_n 3, 1) := by decide +kernel
theorem dX7_lay_35 : decode cX7_lay 35 = .ok (.i2s, 1) := by decide +kernel
theorem dX7_lay_36 : decode cX7_lay 36 = .ok (.goto 4, 3) := by decide +kernel
theorem dX7_lay_39 : decode cX7_lay 39 = .ok (.iload_n 3, 1) := by decide +kernel
theorem dX7_lay_40 : decode cX7_lay 40 = .ok (.iastore, 1) := by decide +kernel
theorem dX7_lay_41 : decode cX7_lay 41 = .ok (.return_, 1) := by decide +kernel
theorem dX7_put_0 : decode cX7_put 0 = .ok (.iload_n 1, 1) := by decide +kernel
theorem dX7_put_1 : decode cX7_put 1 = .ok (.invokestatic 90, 3) := by decide +kernel
theorem dX7_put_4 : decode cX7_put 4 = .ok (.ifCond .eq 12, 3) := by decide +kernel
theorem dX7_put_7 : decode cX7_put 7 = .ok (.iload_n 2, 1) := by decide +kernel
theorem dX7_put_8 : decode cX7_put 8 = .ok (.iconst 0, 1) := by decide +kernel
theorem dX7_put_9 : decode cX7_put 9 = .ok (.iconst 2, 1) := by decide +kernel
theorem dX7_put_10 : decode cX7_put 10 = .ok (.invokestatic 71, 3) := by decide +kernel
theorem dX7_put_13 : decode cX7_put 13 = .ok (.ifCond .ne 6, 3) := by decide +kernel
theorem dX7_put_16 : decode cX7_put 16 = .ok (.bipush (-2), 2) := by decide +kernel
theorem dX7_put_18 : decode cX7_put 18 = .ok (.ireturn, 1) := by decide +kernel
theorem dX7_put_19 : decode cX7_put 19 = .ok (.aload_n 0, 1) := by decide +kernel
theorem dX7_put_20 : decode cX7_put 20 = .ok (.iload_n 1, 1) := by decide +kernel
theorem dX7_put_21 : decode cX7_put 21 = .ok (.iload_n 2, 1) := by decide +kernel
theorem dX7_put_22 : decode cX7_put 22 = .ok (.iload_n 3, 1) := by decide +kernel
theorem dX7_put_23 : decode cX7_put 23 = .ok (.invokevirtual 230, 3) := by decide +kernel
theorem dX7_put_26 : decode cX7_put 26 = .ok (.istore 5, 2) := by decide +kernel
theorem dX7_put_28 : decode cX7_put 28 = .ok (.iload 5, 2) := by decide +kernel
theorem dX7_put_30 : decode cX7_put 30 = .ok (.ifCond .le 10, 3) := by decide +kernel
theorem dX7_put_33 : decode cX7_put 33 = .ok (.aload_n 0, 1) := by decide +kernel
theorem dX7_put_34 : decode cX7_put 34 = .ok (.iload 5, 2) := by decide +kernel
theorem dX7_put_36 : decode cX7_put 36 = .ok (.invokevirtual 93, 3) := by decide +kernel
theorem dX7_put_39 : decode cX7_put 39 = .ok (.ireturn, 1) := by decide +kernel
theorem dX7_put_40 : decode cX7_put 40 = .ok (.aload_n 0, 1) := by decide +kernel
theorem dX7_put_41 : decode cX7_put 41 = .ok (.iload_n 1, 1) := by decide +kernel
theorem dX7_put_42 : decode cX7_put 42 = .ok (.iload_n 3, 1) := by decide +kernel
theorem dX7_put_43 : decode cX7_put 43 = .ok (.iload 4, 2) := by decide +kernel
theorem dX7_put_45 : decode cX7_put 45 = .ok (.invokevirtual 234, 3) := by decide +kernel
theorem dX7_put_48 : decode cX7_put 48 = .ok (.iconst 1, 1) := by decide +kernel
theorem dX7_put_49 : decode cX7_put 49 = .ok (.ireturn, 1) := by decide +kernel
theorem dX7_get_0 : decode cX7_get 0 = .ok (.iload_n 1, 1) := by decide +kernel
theorem dX7_get_1 : decode cX7_get 1 = .ok (.invokestatic 90, 3) := by decide +kernel
theorem dX7_get_4 : decode cX7_get 4 = .ok (.ifCond .eq 12, 3) := by decide +kernel
theorem dX7_get_7 : decode cX7_get 7 = .ok (.iload_n 2, 1) := by decide +kernel
theorem dX7_get_8 : decode cX7_get 8 = .ok (.iconst 0, 1) := by decide +kernel
theorem dX7_get_9 : decode cX7_get 9 = .ok (.iconst 2, 1) := by decide +kernel
theorem dX7_get_10 : decode cX7_get 10 = .ok (.invokestatic 71, 3) := by decide +kernel
theorem dX7_get_13 : decode cX7_get 13 = .ok (.ifCond .ne 6, 3) := by decide +kernel
theorem dX7_get_16 : decode cX7_get 16 = .ok (.ldc 238, 2) := by decide +kernel
theorem dX7_get_18 : decode cX7_get 18 = .ok (.ireturn, 1) := by decide +kernel
theorem dX7_get_19 : decode cX7_get 19 = .ok (.aload_n 0, 1) := by decide +kernel
theorem dX7_get_20 : decode cX7_get 20 = .ok (.iload_n 1, 1) := by decide +kernel
theorem dX7_get_21 : decode cX7_get 21 = .ok (.iload_n 2, 1) := by decide +kernel
theorem dX7_get_22 : decode cX7_get 22 = .ok (.iload_n 3, 1) := by decide +kernel
theorem dX7_get_23 : decode cX7_get 23 = .ok (.invokevirtual 230, 3) := by decide +kernel
theorem dX7_get_26 : decode cX7_get 26 = .ok (.istore 4, 2) := by decide +kernel
theorem dX7_get_28 : decode cX7_get 28 = .ok (.iload 4, 2) := by decide +kernel
theorem dX7_get_30 : decode cX7_get 30 = .ok (.ifCond .le 12, 3) := by decide +kernel
theorem dX7_get_33 : decode cX7_get 33 = .ok (.aload_n 0, 1) := by decide +kernel
theorem dX7_get_34 : decode cX7_get 34 = .ok (.iload 4, 2) := by decide +kernel
theorem dX7_get_36 : decode cX7_get 36 = .ok (.putfield 227, 3) := by decide +kernel
theorem dX7_get_39 : decode cX7_get 39 = .ok (.ldc 238, 2) := by decide +kernel
theorem dX7_get_41 : decode cX7_get 41 = .ok (.ireturn, 1) := by decide +kernel
theorem dX7_get_42 : decode cX7_get 42 = .ok (.aload_n 0, 1) := by decide +kernel
theorem dX7_get_43 : decode cX7_get 43 = .ok (.getfield 65, 3) := by decide +kernel
theorem dX7_get_46 : decode cX7_get 46 = .ok (.bipush 40, 2) := by decide +kernel
theorem dX7_get_48 : decode cX7_get 48 = .ok (.iload_n 1, 1) := by decide +kernel
theorem dX7_get_49 : decode cX7_get 49 = .ok (.imul, 1) := by decide +kernel
theorem dX7_get_50 : decode cX7_get 50 = .ok (.iload_n 3, 1) := by decide +kernel
theorem dX7_get_51 : decode cX7_get 51 = .ok (.iadd, 1) := by decide +kernel
theorem dX7_get_52 : decode cX7_get 52 = .ok (.iaload, 1) := by decide +kernel
theorem dX7_get_53 : decode cX7_get 53 = .ok (.ireturn, 1) := by decide +kernel
theorem dX7_copy_0 : decode cX7_copy 0 = .ok (.iload_n 1, 1) := by decide +kernel
theorem dX7_copy_1 : decode cX7_copy 1 = .ok (.invokestatic 90, 3) := by decide +kernel
theorem dX7_copy_4 : decode cX7_copy 4 = .ok (.ifCond .eq 10, 3) := by decide +kernel
theorem dX7_copy_7 : decode cX7_copy 7 = .ok (.iload_n 3, 1) := by decide +kernel
theorem dX7_copy_8 : decode cX7_copy 8 = .ok (.invokestatic 90, 3) := by decide +kernel
theorem dX7_copy_11 : decode cX7_copy 11 = .ok (.ifCond .ne 6, 3) := by decide +kernel
theorem dX7_copy_14 : decode cX7_copy 14 = .ok (.bipush (-2), 2) := by decide +kernel
theorem dX7_copy_16 : decode cX7_copy 16 = .ok (.ireturn, 1) := by decide +kernel
theorem dX7_copy_17 : decode cX7_copy 17 = .ok (.aload_n 0, 1) := by decide +kernel
theorem dX7_copy_18 : decode cX7_copy 18 = .ok (.getfield 56, 3) := by decide +kernel
theorem dX7_copy_21 : decode cX7_copy 21 = .ok (.iload_n 1, 1) := by decide +kernel
theorem dX7_copy_22 : decode cX7_copy 22 = .ok (.baload, 1) := by decide +kernel
theorem dX7_copy_23 : decode cX7_copy 23 = .ok (.ifCond .eq 12, 3) := by decide +kernel
theorem dX7_copy_26 : decode cX7_copy 26 = .ok (.aload_n 0, 1) := by decide +kernel
theorem dX7_copy_27 : decode cX7_copy 27 = .ok (.getfield 56, 3) := by decide +kernel
theorem dX7_copy_30 : decode cX7_copy 30 = .ok (.iload_n 3, 1) := by decide +kernel
theorem dX7_copy_31 : decode cX7_copy 31 = .ok (.baload, 1) := by decide +kernel
theorem dX7_copy_32 : decode cX7_copy 32 = .ok (.ifCond .ne 9, 3) := by decide +kernel
theorem dX7_copy_35 : decode cX7_copy 35 = .ok (.aload_n 0, 1) := by decide +kernel
theorem dX7_copy_36 : decode cX7_copy 36 = .ok (.iconst 1, 1) := by decide +kernel
theorem dX7_copy_37 : decode cX7_copy 37 = .ok (.invokevirtual 93, 3) := by decide +kernel
theorem dX7_copy_40 : decode cX7_copy 40 = .ok (.ireturn, 1) := by decide +kernel
theorem dX7_copy_41 : decode cX7_copy 41 = .ok (.aload_n 0, 1) := by decide +kernel
theorem dX7_copy_42 : decode cX7_copy 42 = .ok (.getfield 59, 3) := by decide +kernel
theorem dX7_copy_45 : decode cX7_copy 45 = .ok (.iload_n 1, 1) := by decide +kernel
theorem dX7_copy_46 : decode cX7_copy 46 = .ok (.iaload, 1) := by decide +kernel
theorem dX7_copy_47 : decode cX7_copy 47 = .ok (.aload_n 0, 1) := by decide +kernel
theorem dX7_copy_48 : decode cX7_copy 48 = .ok (.getfield 59, 3) := by decide +kernel
theorem dX7_copy_51 : decode cX7_copy 51 = .ok (.iload_n 3, 1) := by decide +kernel
theorem dX7_copy_52 : decode cX7_copy 52 = .ok (.iaload, 1) := by decide +kernel
theorem dX7_copy_53 : decode cX7_copy 53 = .ok (.if_icmp .eq 9, 3) := by decide +kernel
theorem dX7_copy_56 : decode cX7_copy 56 = .ok (.aload_n 0, 1) := by decide +kernel
theorem dX7_copy_57 : decode cX7_copy 57 = .ok (.iconst 4, 1) := by decide +kernel
theorem dX7_copy_58 : decode cX7_copy 58 = .ok (.invokevirtual 93, 3) := by decide +kernel
theorem dX7_copy_61 : decode cX7_copy 61 = .ok (.ireturn, 1) := by decide +kernel
theorem dX7_copy_62 : decode cX7_copy 62 = .ok (.iload_n 2, 1) := by decide +kernel
theorem dX7_copy_63 : decode cX7_copy 63 = .ok (.ifCond .lt 48, 3) := by decide +kernel
theorem dX7_copy_66 : decode cX7_copy 66 = .ok (.iload 4, 2) := by decide +kernel
theorem dX7_copy_68 : decode cX7_copy 68 = .ok (.ifCond .lt 43, 3) := by decide +kernel
theorem dX7_copy_71 : decode cX7_copy 71 = .ok (.iload 5, 2) := by decide +kernel
theorem dX7_copy_73 : decode cX7_copy 73 = .ok (.ifCond .lt 38, 3) := by decide +kernel
theorem dX7_copy_76 : decode cX7_copy 76 = .ok (.iload_n 2, 1) := by decide +kernel
theorem dX7_copy_77 : decode cX7_copy 77 = .ok (.i2l, 1) := by decide +kernel
theorem dX7_copy_78 : decode cX7_copy 78 = .ok (.iload 5, 2) := by decide +kernel
theorem dX7_copy_80 : decode cX7_copy 80 = .ok (.i2l, 1) := by decide +kernel
theorem dX7_copy_81 : decode cX7_copy 81 = .ok (.ladd, 1) := by decide +kernel
theorem dX7_copy_82 : decode cX7_copy 82 = .ok (.aload_n 0, 1) := by decide +kernel
theorem dX7_copy_83 : decode cX7_copy 83 = .ok (.getfield 62, 3) := by decide +kernel
theorem dX7_copy_86 : decode cX7_copy 86 = .ok (.iload_n 1, 1) := by decide +kernel
theorem dX7_copy_87 : decode cX7_copy 87 = .ok (.iaload, 1) := by decide +kernel
theorem dX7_copy_88 : decode cX7_copy 88 = .ok (.i2l, 1) := by decide +kernel
theorem dX7_copy_89 : decode cX7_copy 89 = .ok (.lcmp, 1) := by decide +kernel
theorem dX7_copy_90 : decode cX7_copy 90 = .ok (.ifCond .gt 21, 3) := by decide +kernel
theorem dX7_copy_93 : decode cX7_copy 93 = .ok (.iload 4, 2) := by decide +kernel
theorem dX7_copy_95 : decode cX7_copy 95 = .ok (.i2l, 1) := by decide +kernel
theorem dX7_copy_96 : decode cX7_copy 96 = .ok (.iload 5, 2) := by decide +kernel
theorem dX7_copy_98 : decode cX7_copy 98 = .ok (.i2l, 1) := by decide +kernel
theorem dX7_copy_99 : decode cX7_copy 99 = .ok (.ladd, 1) := by decide +kernel
theorem dX7_copy_100 : decode cX7_copy 100 = .ok (.aload_n 0, 1) := by decide +kernel
theorem dX7_copy_101 : decode cX7_copy 101 = .ok (.getfield 62, 3) := by decide +kernel
theorem dX7_copy_104 : decode cX7_copy 104 = .ok (.iload_n 3, 1) := by decide +kernel
theorem dX7_copy_105 : decode cX7_copy 105 = .ok (.iaload, 1) := by decide +kernel
theorem dX7_copy_106 : decode cX7_copy 106 = .ok (.i2l, 1) := by decide +kernel
theorem dX7_copy_107 : decode cX7_copy 107 = .ok (.lcmp, 1) := by decide +kernel
theorem dX7_copy_108 : decode cX7_copy 108 = .ok (.ifCond .le 9, 3) := by decide +kernel
theorem dX7_copy_111 : decode cX7_copy 111 = .ok (.aload_n 0, 1) := by decide +kernel
theorem dX7_copy_112 : decode cX7_copy 112 = .ok (.iconst 2, 1) := by decide +kernel
theorem dX7_copy_113 : decode cX7_copy 113 = .ok (.invokevirtual 93, 3) := by decide +kernel
theorem dX7_copy_116 : decode cX7_copy 116 = .ok (.ireturn, 1) := by decide +kernel
theorem dX7_copy_117 : decode cX7_copy 117 = .ok (.iconst 0, 1) := by decide +kernel
theorem dX7_copy_118 : decode cX7_copy 118 = .ok (.istore 6, 2) := by decide +kernel
theorem dX7_copy_120 : decode cX7_copy 120 = .ok (.iload 6, 2) := by decide +kernel
theorem dX7_copy_122 : decode cX7_copy 122 = .ok (.iload 5, 2) := by decide +kernel
theorem dX7_copy_124 : decode cX7_copy 124 = .ok (.if_icmp .ge 30, 3) := by decide +kernel
theorem dX7_copy_127 : decode cX7_copy 127 = .ok (.aload_n 0, 1) := by decide +kernel
theorem dX7_copy_128 : decode cX7_copy 128 = .ok (.getfield 68, 3) := by decide +kernel
theorem dX7_copy_131 : decode cX7_copy 131 = .ok (.iload 6, 2) := by decide +kernel
theorem dX7_copy_133 : decode cX7_copy 133 = .ok (.aload_n 0, 1) := by decide +kernel
theorem dX7_copy_134 : decode cX7_copy 134 = .ok (.getfield 65, 3) := by decide +kernel
theorem dX7_copy_137 : decode cX7_copy 137 = .ok (.bipush 40, 2) := by decide +kernel
theorem dX7_copy_139 : decode cX7_copy 139 = .ok (.iload_n 1, 1) := by decide +kernel
theorem dX7_copy_140 : decode cX7_copy 140 = .ok (.imul, 1) := by decide +kernel
theorem dX7_copy_141 : decode cX7_copy 141 = .ok (.iload_n 2, 1) := by decide +kernel
theorem dX7_copy_142 : decode cX7_copy 142 = .ok (.iadd, 1) := by decide +kernel
theorem dX7_copy_143 : decode cX7_copy 143 = .ok (.iload 6, 2) := by decide +kernel
theorem dX7_copy_145 : decode cX7_copy 145 = .ok (.iadd, 1) := by decide +kernel
theorem dX7_copy_146 : decode cX7_copy 146 = .ok (.iaload, 1) := by decide +kernel
theorem dX7_copy_147 : decode cX7_copy 147 = .ok (.iastore, 1) := by decide +kernel
theorem dX7_copy_148 : decode cX7_copy 148 = .ok (.iinc 6 1, 3) := by decide +kernel
theorem dX7_copy_151 : decode cX7_copy 151 = .ok (.goto (-31), 3) := by decide +kernel
theorem dX7_copy_154 : decode cX7_copy 154 = .ok (.iconst 0, 1) := by decide +kernel
theorem dX7_copy_155 : decode cX7_copy 155 = .ok (.istore 6, 2) := by decide +kernel
theorem dX7_copy_157 : decode cX7_copy 157 = .ok (.iload 6, 2) := by decide +kernel
theorem dX7_copy_159 : decode cX7_copy 159 = .ok (.iload 5, 2) := by decide +kernel
theorem dX7_copy_161 : decode cX7_copy 161 = .ok (.if_icmp .ge 31, 3) := by decide +kernel
theorem dX7_copy_164 : decode cX7_copy 164 = .ok (.aload_n 0, 1) := by decide +kernel
theorem dX7_copy_165 : decode cX7_copy 165 = .ok (.getfield 65, 3) := by decide +kernel
theorem dX7_copy_168 : decode cX7_copy 168 = .ok (.bipush 40, 2) := by decide +kernel
theorem dX7_copy_170 : decode cX7_copy 170 = .ok (.iload_n 3, 1) := by decide +kernel
theorem dX7_copy_171 : decode cX7_copy 171 = .ok (.imul, 1) := by decide +kernel
theorem dX7_copy_172 : decode cX7_copy 172 = .ok (.iload 4, 2) := by decide +kernel
theorem dX7_copy_174 : decode cX7_copy 174 = .ok (.iadd, 1) := by decide +kernel
theorem dX7_copy_175 : decode cX7_copy 175 = .ok (.iload 6, 2) := by decide +kernel
theorem dX7_copy_177 : decode cX7_copy 177 = .ok (.iadd, 1) := by decide +kernel
theorem dX7_copy_178 : decode cX7_copy 178 = .ok (.aload_n 0, 1) := by decide +kernel
theorem dX7_copy_179 : decode cX7_copy 179 = .ok (.getfield 68, 3) := by decide +kernel
theorem dX7_copy_182 : decode cX7_copy 182 = .ok (.iload 6, 2) := by decide +kernel
theorem dX7_copy_184 : decode cX7_copy 184 = .ok (.iaload, 1) := by decide +kernel
theorem dX7_copy_185 : decode cX7_copy 185 = .ok (.iastore, 1) := by decide +kernel
theorem dX7_copy_186 : decode cX7_copy 186 = .ok (.iinc 6 1, 3) := by decide +kernel
theorem dX7_copy_189 : decode cX7_copy 189 = .ok (.goto (-32), 3) := by decide +kernel
theorem dX7_copy_192 : decode cX7_copy 192 = .ok (.iconst 1, 1) := by decide +kernel
theorem dX7_copy_193 : decode cX7_copy 193 = .ok (.ireturn, 1) := by decide +kernel
theorem dX7_write_0 : decode cX7_write 0 = .ok (.iload_n 1, 1) := by decide +kernel
theorem dX7_write_1 : decode cX7_write 1 = .ok (.invokestatic 90, 3) := by decide +kernel
theorem dX7_write_4 : decode cX7_write 4 = .ok (.ifCond .ne 6, 3) := by decide +kernel
theorem dX7_write_7 : decode cX7_write 7 = .ok (.bipush (-2), 2) := by decide +kernel
theorem dX7_write_9 : decode cX7_write 9 = .ok (.ireturn, 1) := by decide +kernel
theorem dX7_write_10 : decode cX7_write 10 = .ok (.aload_n 0, 1) := by decide +kernel
theorem dX7_write_11 : decode cX7_write 11 = .ok (.getfield 56, 3) := by decide +kernel
theorem dX7_write_14 : decode cX7_write 14 = .ok (.iload_n 1, 1) := by decide +kernel
theorem dX7_write_15 : decode cX7_write 15 = .ok (.baload, 1) := by decide +kernel
theorem dX7_write_16 : decode cX7_write 16 = .ok (.ifCond .ne 9, 3) := by decide +kernel
theorem dX7_write_19 : decode cX7_write 19 = .ok (.aload_n 0, 1) := by decide +kernel
theorem dX7_write_20 : decode cX7_write 20 = .ok (.iconst 1, 1) := by decide +kernel
theorem dX7_write_21 : decode cX7_write 21 = .ok (.invokevirtual 93, 3) := by decide +kernel
theorem dX7_write_24 : decode cX7_write 24 = .ok (.ireturn, 1) := by decide +kernel
theorem dX7_write_25 : decode cX7_write 25 = .ok (.aload_n 0, 1) := by decide +kernel
theorem dX7_write_26 : decode cX7_write 26 = .ok (.iconst 0, 1) := by decide +kernel
theorem dX7_write_27 : decode cX7_write 27 = .ok (.invokevirtual 171, 3) := by decide +kernel
theorem dX7_write_30 : decode cX7_write 30 = .ok (.iconst 0, 1) := by decide +kernel
theorem dX7_write_31 : decode cX7_write 31 = .ok (.istore_n 2, 1) := by decide +kernel
theorem dX7_write_32 : decode cX7_write 32 = .ok (.iload_n 2, 1) := by decide +kernel
theorem dX7_write_33 : decode cX7_write 33 = .ok (.bipush 10, 2) := by decide +kernel
theorem dX7_write_35 : decode cX7_write 35 = .ok (.if_icmp .ge 30, 3) := by decide +kernel
theorem dX7_write_38 : decode cX7_write 38 = .ok (.iload_n 2, 1) := by decide +kernel
theorem dX7_write_39 : decode cX7_write 39 = .ok (.aload_n 0, 1) := by decide +kernel
theorem dX7_write_40 : decode cX7_write 40 = .ok (.getfield 62, 3) := by decide +kernel
theorem dX7_write_43 : decode cX7_write 43 = .ok (.iload_n 1, 1) := by decide +kernel
theorem dX7_write_44 : decode cX7_write 44 = .ok (.iaload, 1) := by decide +kernel
theorem dX7_write_45 : decode cX7_write 45 = .ok (.if_icmp .ge 20, 3) := by decide +kernel
theorem dX7_write_48 : decode cX7_write 48 = .ok (.aload_n 0, 1) := by decide +kernel
theorem dX7_write_49 : decode cX7_write 49 = .ok (.iload_n 1, 1) := by decide +kernel
theorem dX7_write_50 : decode cX7_write 50 = .ok (.iload_n 2, 1) := by decide +kernel
theorem dX7_write_51 : decode cX7_write 51 = .ok (.aload_n 0, 1) := by decide +kernel
theorem dX7_write_52 : decode cX7_write 52 = .ok (.iload_n 2, 1) := by decide +kernel
theorem dX7_write_53 : decode cX7_write 53 = .ok (.invokevirtual 180, 3) := by decide +kernel
theorem dX7_write_56 : decode cX7_write 56 = .ok (.invokevirtual 234, 3) := by decide +kernel
theorem dX7_write_59 : decode cX7_write 59 = .ok (.iinc 2 1, 3) := by decide +kernel
theorem dX7_write_62 : decode cX7_write 62 = .ok (.goto (-30), 3) := by decide +kernel
theorem dX7_write_65 : decode cX7_write 65 = .ok (.iload_n 2, 1) := by decide +kernel
theorem dX7_write_66 : decode cX7_write 66 = .ok (.ireturn, 1) := by decide +kernel
end
section
theorem dX7_roadMany_0 : decode cX7_roadMany 0 = .ok (.iconst 0, 1) := by decide +kernel
theorem dX7_roadMany_1 : decode cX7_roadMany 1 = .ok (.istore_n 1, 1) := by decide +kernel
theorem dX7_roadMany_2 : decode cX7_roadMany 2 = .ok (.iconst 0, 1) := by decide +kernel
theorem dX7_roadMany_3 : decode cX7_roadMany 3 = .ok (.istore_n 2, 1) := by decide +kernel
theorem dX7_roadMany_4 : decode cX7_roadMany 4 = .ok (.iload_n 2, 1) := by decide +kernel
theorem dX7_roadMany_5 : decode cX7_roadMany 5 = .ok (.bipush 36, 2) := by decide +kernel
theorem dX7_roadMany_7 : decode cX7_roadMany 7 = .ok (.if_icmp .ge 37, 3) := by decide +kernel
theorem dX7_roadMany_10 : decode cX7_roadMany 10 = .ok (.iload_n 1, 1) := by decide +kernel
theorem dX7_roadMany_11 : decode cX7_roadMany 11 = .ok (.iload_n 2, 1) := by decide +kernel
theorem dX7_roadMany_12 : decode cX7_roadMany 12 = .ok (.bipush 6, 2) := by decide +kernel
theorem dX7_roadMany_14 : decode cX7_roadMany 14 = .ok (.idiv, 1) := by decide +kernel
theorem dX7_roadMany_15 : decode cX7_roadMany 15 = .ok (.iload_n 2, 1) := by decide +kernel
theorem dX7_roadMany_16 : decode cX7_roadMany 16 = .ok (.bipush 6, 2) := by decide +kernel
theorem dX7_roadMany_18 : decode cX7_roadMany 18 = .ok (.irem, 1) := by decide +kernel
theorem dX7_roadMany_19 : decode cX7_roadMany 19 = .ok (.if_icmp .ge 16, 3) := by decide +kernel
theorem dX7_roadMany_22 : decode cX7_roadMany 22 = .ok (.aload_n 0, 1) := by decide +kernel
theorem dX7_roadMany_23 : decode cX7_roadMany 23 = .ok (.getfield 7, 3) := by decide +kernel
theorem dX7_roadMany_26 : decode cX7_roadMany 26 = .ok (.iload_n 2, 1) := by decide +kernel
theorem dX7_roadMany_27 : decode cX7_roadMany 27 = .ok (.iaload, 1) := by decide +kernel
theorem dX7_roadMany_28 : decode cX7_roadMany 28 = .ok (.ifCond .le 7, 3) := by decide +kernel
theorem dX7_roadMany_31 : decode cX7_roadMany 31 = .ok (.iconst 1, 1) := by decide +kernel
theorem dX7_roadMany_32 : decode cX7_roadMany 32 = .ok (.goto 4, 3) := by decide +kernel
theorem dX7_roadMany_35 : decode cX7_roadMany 35 = .ok (.iconst 0, 1) := by decide +kernel
theorem dX7_roadMany_36 : decode cX7_roadMany 36 = .ok (.iadd, 1) := by decide +kernel
theorem dX7_roadMany_37 : decode cX7_roadMany 37 = .ok (.istore_n 1, 1) := by decide +kernel
theorem dX7_roadMany_38 : decode cX7_roadMany 38 = .ok (.iinc 2 1, 3) := by decide +kernel
theorem dX7_roadMany_41 : decode cX7_roadMany 41 = .ok (.goto (-37), 3) := by decide +kernel
theorem dX7_roadMany_44 : decode cX7_roadMany 44 = .ok (.iload_n 1, 1) := by decide +kernel
theorem dX7_roadMany_45 : decode cX7_roadMany 45 = .ok (.ireturn, 1) := by decide +kernel
theorem dX7_count_0 : decode cX7_count 0 = .ok (.iload_n 1, 1) := by decide +kernel
theorem dX7_count_1 : decode cX7_count 1 = .ok (.tableswitch 89 0 8 #[51, 56, 61, 61, 70, 75, 89, 89, 84], 51) := by decide +kernel
theorem dX7_count_52 : decode cX7_count 52 = .ok (.aload_n 0, 1) := by decide +kernel
theorem dX7_count_53 : decode cX7_count 53 = .ok (.getfield 82, 3) := by decide +kernel
theorem dX7_count_56 : decode cX7_count 56 = .ok (.ireturn, 1) := by decide +kernel
theorem dX7_count_57 : decode cX7_count 57 = .ok (.aload_n 0, 1) := by decide +kernel
theorem dX7_count_58 : decode cX7_count 58 = .ok (.getfield 101, 3) := by decide +kernel
theorem dX7_count_61 : decode cX7_count 61 = .ok (.ireturn, 1) := by decide +kernel
theorem dX7_count_62 : decode cX7_count 62 = .ok (.aload_n 0, 1) := by decide +kernel
theorem dX7_count_63 : decode cX7_count 63 = .ok (.getfield 31, 3) := by decide +kernel
theorem dX7_count_66 : decode cX7_count 66 = .ok (.iload_n 1, 1) := by decide +kernel
theorem dX7_count_67 : decode cX7_count 67 = .ok (.iconst 2, 1) := by decide +kernel
theorem dX7_count_68 : decode cX7_count 68 = .ok (.isub, 1) := by decide +kernel
theorem dX7_count_69 : decode cX7_count 69 = .ok (.iaload, 1) := by decide +kernel
theorem dX7_count_70 : decode cX7_count 70 = .ok (.ireturn, 1) := by decide +kernel
theorem dX7_count_71 : decode cX7_count 71 = .ok (.aload_n 0, 1) := by decide +kernel
theorem dX7_count_72 : decode cX7_count 72 = .ok (.invokevirtual 239, 3) := by decide +kernel
theorem dX7_count_75 : decode cX7_count 75 = .ok (.ireturn, 1) := by decide +kernel
theorem dX7_count_76 : decode cX7_count 76 = .ok (.aload_n 0, 1) := by decide +kernel
theorem dX7_count_77 : decode cX7_count 77 = .ok (.invokevirtual 114, 3) := by decide +kernel
theorem dX7_count_80 : decode cX7_count 80 = .ok (.aload_n 0, 1) := by decide +kernel
theorem dX7_count_81 : decode cX7_count 81 = .ok (.getfield 104, 3) := by decide +kernel
theorem dX7_count_84 : decode cX7_count 84 = .ok (.ireturn, 1) := by decide +kernel
theorem dX7_count_85 : decode cX7_count 85 = .ok (.aload_n 0, 1) := by decide +kernel
theorem dX7_count_86 : decode cX7_count 86 = .ok (.getfield 227, 3) := by decide +kernel
theorem dX7_count_89 : decode cX7_count 89 = .ok (.ireturn, 1) := by decide +kernel
theorem dX7_count_90 : decode cX7_count 90 = .ok (.bipush (-2), 2) := by decide +kernel
theorem dX7_count_92 : decode cX7_count 92 = .ok (.ireturn, 1) := by decide +kernel
theorem dX7_digest_0 : decode cX7_digest 0 = .ok (.ldc2_w 242, 3) := by decide +kernel
theorem dX7_digest_3 : decode cX7_digest 3 = .ok (.lstore_n 1, 1) := by decide +kernel
theorem dX7_digest_4 : decode cX7_digest 4 = .ok (.iconst 0, 1) := by decide +kernel
theorem dX7_digest_5 : decode cX7_digest 5 = .ok (.istore_n 3, 1) := by decide +kernel
theorem dX7_digest_6 : decode cX7_digest 6 = .ok (.iload_n 3, 1) := by decide +kernel
theorem dX7_digest_7 : decode cX7_digest 7 = .ok (.bipush 6, 2) := by decide +kernel
theorem dX7_digest_9 : decode cX7_digest 9 = .ok (.if_icmp .ge 22, 3) := by decide +kernel
theorem dX7_digest_12 : decode cX7_digest 12 = .ok (.ldc2_w 244, 3) := by decide +kernel
theorem dX7_digest_15 : decode cX7_digest 15 = .ok (.lload_n 1, 1) := by decide +kernel
theorem dX7_digest_16 : decode cX7_digest 16 = .ok (.lmul, 1) := by decide +kernel
theorem dX7_digest_17 : decode cX7_digest 17 = .ok (.aload_n 0, 1) := by decide +kernel
theorem dX7_digest_18 : decode cX7_digest 18 = .ok (.iload_n 3, 1) := by decide +kernel
theorem dX7_digest_19 : decode cX7_digest 19 = .ok (.invokevirtual 246, 3) := by decide +kernel
theorem dX7_digest_22 : decode cX7_digest 22 = .ok (.i2l, 1) := by decide +kernel
theorem dX7_digest_23 : decode cX7_digest 23 = .ok (.ladd, 1) := by decide +kernel
theorem dX7_digest_24 : decode cX7_digest 24 = .ok (.lstore_n 1, 1) := by decide +kernel
theorem dX7_digest_25 : decode cX7_digest 25 = .ok (.iinc 3 1, 3) := by decide +kernel
theorem dX7_digest_28 : decode cX7_digest 28 = .ok (.goto (-22), 3) := by decide +kernel
theorem dX7_digest_31 : decode cX7_digest 31 = .ok (.iconst 0, 1) := by decide +kernel
theorem dX7_digest_32 : decode cX7_digest 32 = .ok (.istore_n 3, 1) := by decide +kernel
theorem dX7_digest_33 : decode cX7_digest 33 = .ok (.iload_n 3, 1) := by decide +kernel
theorem dX7_digest_34 : decode cX7_digest 34 = .ok (.aload_n 0, 1) := by decide +kernel
theorem dX7_digest_35 : decode cX7_digest 35 = .ok (.getfield 82, 3) := by decide +kernel
theorem dX7_digest_38 : decode cX7_digest 38 = .ok (.if_icmp .ge 40, 3) := by decide +kernel
theorem dX7_digest_41 : decode cX7_digest 41 = .ok (.iconst 0, 1) := by decide +kernel
theorem dX7_digest_42 : decode cX7_digest 42 = .ok (.istore 4, 2) := by decide +kernel
theorem dX7_digest_44 : decode cX7_digest 44 = .ok (.iload 4, 2) := by decide +kernel
theorem dX7_digest_46 : decode cX7_digest 46 = .ok (.bipush 7, 2) := by decide +kernel
theorem dX7_digest_48 : decode cX7_digest 48 = .ok (.if_icmp .ge 24, 3) := by decide +kernel
theorem dX7_digest_51 : decode cX7_digest 51 = .ok (.ldc2_w 244, 3) := by decide +kernel
theorem dX7_digest_54 : decode cX7_digest 54 = .ok (.lload_n 1, 1) := by decide +kernel
theorem dX7_digest_55 : decode cX7_digest 55 = .ok (.lmul, 1) := by decide +kernel
theorem dX7_digest_56 : decode cX7_digest 56 = .ok (.aload_n 0, 1) := by decide +kernel
theorem dX7_digest_57 : decode cX7_digest 57 = .ok (.iload_n 3, 1) := by decide +kernel
theorem dX7_digest_58 : decode cX7_digest 58 = .ok (.iload 4, 2) := by decide +kernel
theorem dX7_digest_60 : decode cX7_digest 60 = .ok (.invokevirtual 117, 3) := by decide +kernel
theorem dX7_digest_63 : decode cX7_digest 63 = .ok (.i2l, 1) := by decide +kernel
theorem dX7_digest_64 : decode cX7_digest 64 = .ok (.ladd, 1) := by decide +kernel
theorem dX7_digest_65 : decode cX7_digest 65 = .ok (.lstore_n 1, 1) := by decide +kernel
theorem dX7_digest_66 : decode cX7_digest 66 = .ok (.iinc 4 1, 3) := by decide +kernel
theorem dX7_digest_69 : decode cX7_digest 69 = .ok (.goto (-25), 3) := by decide +kernel
theorem dX7_digest_72 : decode cX7_digest 72 = .ok (.iinc 3 1, 3) := by decide +kernel
theorem dX7_digest_75 : decode cX7_digest 75 = .ok (.goto (-42), 3) := by decide +kernel
theorem dX7_digest_78 : decode cX7_digest 78 = .ok (.iconst 0, 1) := by decide +kernel
theorem dX7_digest_79 : decode cX7_digest 79 = .ok (.istore_n 3, 1) := by decide +kernel
theorem dX7_digest_80 : decode cX7_digest 80 = .ok (.iload_n 3, 1) := by decide +kernel
theorem dX7_digest_81 : decode cX7_digest 81 = .ok (.iconst 2, 1) := by decide +kernel
theorem dX7_digest_82 : decode cX7_digest 82 = .ok (.if_icmp .ge 123, 3) := by decide +kernel
theorem dX7_digest_85 : decode cX7_digest 85 = .ok (.aload_n 0, 1) := by decide +kernel
theorem dX7_digest_86 : decode cX7_digest 86 = .ok (.iload_n 3, 1) := by decide +kernel
theorem dX7_digest_87 : decode cX7_digest 87 = .ok (.invokevirtual 133, 3) := by decide +kernel
theorem dX7_digest_90 : decode cX7_digest 90 = .ok (.ldc2_w 244, 3) := by decide +kernel
theorem dX7_digest_93 : decode cX7_digest 93 = .ok (.lload_n 1, 1) := by decide +kernel
theorem dX7_digest_94 : decode cX7_digest 94 = .ok (.lmul, 1) := by decide +kernel
theorem dX7_digest_95 : decode cX7_digest 95 = .ok (.aload_n 0, 1) := by decide +kernel
theorem dX7_digest_96 : decode cX7_digest 96 = .ok (.getfield 37, 3) := by decide +kernel
theorem dX7_digest_99 : decode cX7_digest 99 = .ok (.iload_n 3, 1) := by decide +kernel
theorem dX7_digest_100 : decode cX7_digest 100 = .ok (.iaload, 1) := by decide +kernel
theorem dX7_digest_101 : decode cX7_digest 101 = .ok (.i2l, 1) := by decide +kernel
theorem dX7_digest_102 : decode cX7_digest 102 = .ok (.ladd, 1) := by decide +kernel
theorem dX7_digest_103 : decode cX7_digest 103 = .ok (.lstore_n 1, 1) := by decide +kernel
theorem dX7_digest_104 : decode cX7_digest 104 = .ok (.iconst 0, 1) := by decide +kernel
theorem dX7_digest_105 : decode cX7_digest 105 = .ok (.istore 4, 2) := by decide +kernel
theorem dX7_digest_107 : decode cX7_digest 107 = .ok (.iload 4, 2) := by decide +kernel
theorem dX7_digest_109 : decode cX7_digest 109 = .ok (.iconst 4, 1) := by decide +kernel
theorem dX7_digest_110 : decode cX7_digest 110 = .ok (.if_icmp .ge 28, 3) := by decide +kernel
theorem dX7_digest_113 : decode cX7_digest 113 = .ok (.ldc2_w 244, 3) := by decide +kernel
theorem dX7_digest_116 : decode cX7_digest 116 = .ok (.lload_n 1, 1) := by decide +kernel
theorem dX7_digest_117 : decode cX7_digest 117 = .ok (.lmul, 1) := by decide +kernel
theorem dX7_digest_118 : decode cX7_digest 118 = .ok (.aload_n 0, 1) := by decide +kernel
theorem dX7_digest_119 : decode cX7_digest 119 = .ok (.getfield 40, 3) := by decide +kernel
theorem dX7_digest_122 : decode cX7_digest 122 = .ok (.iconst 4, 1) := by decide +kernel
theorem dX7_digest_123 : decode cX7_digest 123 = .ok (.iload_n 3, 1) := by decide +kernel
theorem dX7_digest_124 : decode cX7_digest 124 = .ok (.imul, 1) := by decide +kernel
theorem dX7_digest_125 : decode cX7_digest 125 = .ok (.iload 4, 2) := by decide +kernel
theorem dX7_digest_127 : decode cX7_digest 127 = .ok (.iadd, 1) := by decide +kernel
theorem dX7_digest_128 : decode cX7_digest 128 = .ok (.iaload, 1) := by decide +kernel
theorem dX7_digest_129 : decode cX7_digest 129 = .ok (.i2l, 1) := by decide +kernel
theorem dX7_digest_130 : decode cX7_digest 130 = .ok (.ladd, 1) := by decide +kernel
theorem dX7_digest_131 : decode cX7_digest 131 = .ok (.lstore_n 1, 1) := by decide +kernel
theorem dX7_digest_132 : decode cX7_digest 132 = .ok (.iinc 4 1, 3) := by decide +kernel
theorem dX7_digest_135 : decode cX7_digest 135 = .ok (.goto (-28), 3) := by decide +kernel
theorem dX7_digest_138 : decode cX7_digest 138 = .ok (.aload_n 0, 1) := by decide +kernel
theorem dX7_digest_139 : decode cX7_digest 139 = .ok (.iload_n 3, 1) := by decide +kernel
theorem dX7_digest_140 : decode cX7_digest 140 = .ok (.invokevirtual 171, 3) := by decide +kernel
theorem dX7_digest_143 : decode cX7_digest 143 = .ok (.iconst 0, 1) := by decide +kernel
theorem dX7_digest_144 : decode cX7_digest 144 = .ok (.istore 4, 2) := by decide +kernel
theorem dX7_digest_146 : decode cX7_digest 146 = .ok (.iload 4, 2) := by decide +kernel
theorem dX7_digest_148 : decode cX7_digest 148 = .ok (.iconst 3, 1) := by decide +kernel
theorem dX7_digest_149 : decode cX7_digest 149 = .ok (.if_icmp .ge 23, 3) := by decide +kernel
theorem dX7_digest_152 : decode cX7_digest 152 = .ok (.ldc2_w 244, 3) := by decide +kernel
theorem dX7_digest_155 : decode cX7_digest 155 = .ok (.lload_n 1, 1) := by decide +kernel
theorem dX7_digest_156 : decode cX7_digest 156 = .ok (.lmul, 1) := by decide +kernel
theorem dX7_digest_157 : decode cX7_digest 157 = .ok (.aload_n 0, 1) := by decide +kernel
theorem dX7_digest_158 : decode cX7_digest 158 = .ok (.iload 4, 2) := by decide +kernel
theorem dX7_digest_160 : decode cX7_digest 160 = .ok (.invokevirtual 174, 3) := by decide +kernel
theorem dX7_digest_163 : decode cX7_digest 163 = .ok (.i2l, 1) := by decide +kernel
theorem dX7_digest_164 : decode cX7_digest 164 = .ok (.ladd, 1) := by decide +kernel
theorem dX7_digest_165 : decode cX7_digest 165 = .ok (.lstore_n 1, 1) := by decide +kernel
theorem dX7_digest_166 : decode cX7_digest 166 = .ok (.iinc 4 1, 3) := by decide +kernel
theorem dX7_digest_169 : decode cX7_digest 169 = .ok (.goto (-23), 3) := by decide +kernel
theorem dX7_digest_172 : decode cX7_digest 172 = .ok (.ldc2_w 244, 3) := by decide +kernel
theorem dX7_digest_175 : decode cX7_digest 175 = .ok (.lload_n 1, 1) := by decide +kernel
theorem dX7_digest_176 : decode cX7_digest 176 = .ok (.lmul, 1) := by decide +kernel
theorem dX7_digest_177 : decode cX7_digest 177 = .ok (.aload_n 0, 1) := by decide +kernel
theorem dX7_digest_178 : decode cX7_digest 178 = .ok (.iload_n 3, 1) := by decide +kernel
theorem dX7_digest_179 : decode cX7_digest 179 = .ok (.invokevirtual 206, 3) := by decide +kernel
theorem dX7_digest_182 : decode cX7_digest 182 = .ok (.i2l, 1) := by decide +kernel
theorem dX7_digest_183 : decode cX7_digest 183 = .ok (.ladd, 1) := by decide +kernel
theorem dX7_digest_184 : decode cX7_digest 184 = .ok (.lstore_n 1, 1) := by decide +kernel
theorem dX7_digest_185 : decode cX7_digest 185 = .ok (.ldc2_w 244, 3) := by decide +kernel
theorem dX7_digest_188 : decode cX7_digest 188 = .ok (.lload_n 1, 1) := by decide +kernel
theorem dX7_digest_189 : decode cX7_digest 189 = .ok (.lmul, 1) := by decide +kernel
theorem dX7_digest_190 : decode cX7_digest 190 = .ok (.aload_n 0, 1) := by decide +kernel
theorem dX7_digest_191 : decode cX7_digest 191 = .ok (.iload_n 3, 1) := by decide +kernel
theorem dX7_digest_192 : decode cX7_digest 192 = .ok (.iconst (-1), 1) := by decide +kernel
theorem dX7_digest_193 : decode cX7_digest 193 = .ok (.invokevirtual 215, 3) := by decide +kernel
theorem dX7_digest_196 : decode cX7_digest 196 = .ok (.i2l, 1) := by decide +kernel
theorem dX7_digest_197 : decode cX7_digest 197 = .ok (.ladd, 1) := by decide +kernel
theorem dX7_digest_198 : decode cX7_digest 198 = .ok (.lstore_n 1, 1) := by decide +kernel
theorem dX7_digest_199 : decode cX7_digest 199 = .ok (.iinc 3 1, 3) := by decide +kernel
theorem dX7_digest_202 : decode cX7_digest 202 = .ok (.goto (-122), 3) := by decide +kernel
theorem dX7_digest_205 : decode cX7_digest 205 = .ok (.ldc2_w 244, 3) := by decide +kernel
theorem dX7_digest_208 : decode cX7_digest 208 = .ok (.lload_n 1, 1) := by decide +kernel
theorem dX7_digest_209 : decode cX7_digest 209 = .ok (.lmul, 1) := by decide +kernel
theorem dX7_digest_210 : decode cX7_digest 210 = .ok (.aload_n 0, 1) := by decide +kernel
theorem dX7_digest_211 : decode cX7_digest 211 = .ok (.invokevirtual 218, 3) := by decide +kernel
theorem dX7_digest_214 : decode cX7_digest 214 = .ok (.i2l, 1) := by decide +kernel
theorem dX7_digest_215 : decode cX7_digest 215 = .ok (.ladd, 1) := by decide +kernel
theorem dX7_digest_216 : decode cX7_digest 216 = .ok (.lstore_n 1, 1) := by decide +kernel
theorem dX7_digest_217 : decode cX7_digest 217 = .ok (.ldc2_w 244, 3) := by decide +kernel
theorem dX7_digest_220 : decode cX7_digest 220 = .ok (.lload_n 1, 1) := by decide +kernel
theorem dX7_digest_221 : decode cX7_digest 221 = .ok (.lmul, 1) := by decide +kernel
theorem dX7_digest_222 : decode cX7_digest 222 = .ok (.aload_n 0, 1) := by decide +kernel
theorem dX7_digest_223 : decode cX7_digest 223 = .ok (.invokevirtual 224, 3) := by decide +kernel
theorem dX7_digest_226 : decode cX7_digest 226 = .ok (.i2l, 1) := by decide +kernel
theorem dX7_digest_227 : decode cX7_digest 227 = .ok (.ladd, 1) := by decide +kernel
theorem dX7_digest_228 : decode cX7_digest 228 = .ok (.lreturn, 1) := by decide +kernel
theorem dJ11_isValidCodePoint_9a6ad_0 : decode cJ11_isValidCodePoint_9a6ad 0 = .ok (.iload_n 0, 1) := by decide +kernel
theorem dJ11_isValidCodePoint_9a6ad_1 : decode cJ11_isValidCodePoint_9a6ad 1 = .ok (.bipush 16, 2) := by decide +kernel
theorem dJ11_isValidCodePoint_9a6ad_3 : decode cJ11_isValidCodePoint_9a6ad 3 = .ok (.iushr, 1) := by decide +kernel
theorem dJ11_isValidCodePoint_9a6ad_4 : decode cJ11_isValidCodePoint_9a6ad 4 = .ok (.istore_n 1, 1) := by decide +kernel
theorem dJ11_isValidCodePoint_9a6ad_5 : decode cJ11_isValidCodePoint_9a6ad 5 = .ok (.iload_n 1, 1) := by decide +kernel
theorem dJ11_isValidCodePoint_9a6ad_6 : decode cJ11_isValidCodePoint_9a6ad 6 = .ok (.bipush 17, 2) := by decide +kernel
theorem dJ11_isValidCodePoint_9a6ad_8 : decode cJ11_isValidCodePoint_9a6ad 8 = .ok (.if_icmp .ge 7, 3) := by decide +kernel
theorem dJ11_isValidCodePoint_9a6ad_11 : decode cJ11_isValidCodePoint_9a6ad 11 = .ok (.iconst 1, 1) := by decide +kernel
theorem dJ11_isValidCodePoint_9a6ad_12 : decode cJ11_isValidCodePoint_9a6ad 12 = .ok (.goto 4, 3) := by decide +kernel
theorem dJ11_isValidCodePoint_9a6ad_15 : decode cJ11_isValidCodePoint_9a6ad 15 = .ok (.iconst 0, 1) := by decide +kernel
theorem dJ11_isValidCodePoint_9a6ad_16 : decode cJ11_isValidCodePoint_9a6ad 16 = .ok (.ireturn, 1) := by decide +kernel
theorem dJ11_highSurrogate_5068e_0 : decode cJ11_highSurrogate_5068e 0 = .ok (.iload_n 0, 1) := by decide +kernel
theorem dJ11_highSurrogate_5068e_1 : decode cJ11_highSurrogate_5068e 1 = .ok (.bipush 10, 2) := by decide +kernel
theorem dJ11_highSurrogate_5068e_3 : decode cJ11_highSurrogate_5068e 3 = .ok (.iushr, 1) := by decide +kernel
theorem dJ11_highSurrogate_5068e_4 : decode cJ11_highSurrogate_5068e 4 = .ok (.ldc 110, 2) := by decide +kernel
theorem dJ11_highSurrogate_5068e_6 : decode cJ11_highSurrogate_5068e 6 = .ok (.iadd, 1) := by decide +kernel
theorem dJ11_highSurrogate_5068e_7 : decode cJ11_highSurrogate_5068e 7 = .ok (.i2c, 1) := by decide +kernel
theorem dJ11_highSurrogate_5068e_8 : decode cJ11_highSurrogate_5068e 8 = .ok (.ireturn, 1) := by decide +kernel
theorem dJ11_lowSurrogate_5068e_0 : decode cJ11_lowSurrogate_5068e 0 = .ok (.iload_n 0, 1) := by decide +kernel
theorem dJ11_lowSurrogate_5068e_1 : decode cJ11_lowSurrogate_5068e 1 = .ok (.sipush 1023, 3) := by decide +kernel
theorem dJ11_lowSurrogate_5068e_4 : decode cJ11_lowSurrogate_5068e 4 = .ok (.iand, 1) := by decide +kernel
theorem dJ11_lowSurrogate_5068e_5 : decode cJ11_lowSurrogate_5068e 5 = .ok (.ldc 76, 2) := by decide +kernel
theorem dJ11_lowSurrogate_5068e_7 : decode cJ11_lowSurrogate_5068e 7 = .ok (.iadd, 1) := by decide +kernel
theorem dJ11_lowSurrogate_5068e_8 : decode cJ11_lowSurrogate_5068e 8 = .ok (.i2c, 1) := by decide +kernel
theorem dJ11_lowSurrogate_5068e_9 : decode cJ11_lowSurrogate_5068e 9 = .ok (.ireturn, 1) := by decide +kernel
theorem dJ6_bitCount_0f7a4_0 : decode cJ6_bitCount_0f7a4 0 = .ok (.iload_n 0, 1) := by decide +kernel
theorem dJ6_bitCount_0f7a4_1 : decode cJ6_bitCount_0f7a4 1 = .ok (.iload_n 0, 1) := by decide +kernel
theorem dJ6_bitCount_0f7a4_2 : decode cJ6_bitCount_0f7a4 2 = .ok (.iconst 1, 1) := by decide +kernel
theorem dJ6_bitCount_0f7a4_3 : decode cJ6_bitCount_0f7a4 3 = .ok (.iushr, 1) := by decide +kernel
theorem dJ6_bitCount_0f7a4_4 : decode cJ6_bitCount_0f7a4 4 = .ok (.ldc_w 265, 3) := by decide +kernel
theorem dJ6_bitCount_0f7a4_7 : decode cJ6_bitCount_0f7a4 7 = .ok (.iand, 1) := by decide +kernel
theorem dJ6_bitCount_0f7a4_8 : decode cJ6_bitCount_0f7a4 8 = .ok (.isub, 1) := by decide +kernel
theorem dJ6_bitCount_0f7a4_9 : decode cJ6_bitCount_0f7a4 9 = .ok (.istore_n 0, 1) := by decide +kernel
theorem dJ6_bitCount_0f7a4_10 : decode cJ6_bitCount_0f7a4 10 = .ok (.iload_n 0, 1) := by decide +kernel
theorem dJ6_bitCount_0f7a4_11 : decode cJ6_bitCount_0f7a4 11 = .ok (.ldc_w 266, 3) := by decide +kernel
theorem dJ6_bitCount_0f7a4_14 : decode cJ6_bitCount_0f7a4 14 = .ok (.iand, 1) := by decide +kernel
theorem dJ6_bitCount_0f7a4_15 : decode cJ6_bitCount_0f7a4 15 = .ok (.iload_n 0, 1) := by decide +kernel
theorem dJ6_bitCount_0f7a4_16 : decode cJ6_bitCount_0f7a4 16 = .ok (.iconst 2, 1) := by decide +kernel
theorem dJ6_bitCount_0f7a4_17 : decode cJ6_bitCount_0f7a4 17 = .ok (.iushr, 1) := by decide +kernel
theorem dJ6_bitCount_0f7a4_18 : decode cJ6_bitCount_0f7a4 18 = .ok (.ldc_w 266, 3) := by decide +kernel
theorem dJ6_bitCount_0f7a4_21 : decode cJ6_bitCount_0f7a4 21 = .ok (.iand, 1) := by decide +kernel
theorem dJ6_bitCount_0f7a4_22 : decode cJ6_bitCount_0f7a4 22 = .ok (.iadd, 1) := by decide +kernel
theorem dJ6_bitCount_0f7a4_23 : decode cJ6_bitCount_0f7a4 23 = .ok (.istore_n 0, 1) := by decide +kernel
theorem dJ6_bitCount_0f7a4_24 : decode cJ6_bitCount_0f7a4 24 = .ok (.iload_n 0, 1) := by decide +kernel
theorem dJ6_bitCount_0f7a4_25 : decode cJ6_bitCount_0f7a4 25 = .ok (.iload_n 0, 1) := by decide +kernel
theorem dJ6_bitCount_0f7a4_26 : decode cJ6_bitCount_0f7a4 26 = .ok (.iconst 4, 1) := by decide +kernel
theorem dJ6_bitCount_0f7a4_27 : decode cJ6_bitCount_0f7a4 27 = .ok (.iushr, 1) := by decide +kernel
theorem dJ6_bitCount_0f7a4_28 : decode cJ6_bitCount_0f7a4 28 = .ok (.iadd, 1) := by decide +kernel
theorem dJ6_bitCount_0f7a4_29 : decode cJ6_bitCount_0f7a4 29 = .ok (.ldc_w 267, 3) := by decide +kernel
theorem dJ6_bitCount_0f7a4_32 : decode cJ6_bitCount_0f7a4 32 = .ok (.iand, 1) := by decide +kernel
theorem dJ6_bitCount_0f7a4_33 : decode cJ6_bitCount_0f7a4 33 = .ok (.istore_n 0, 1) := by decide +kernel
theorem dJ6_bitCount_0f7a4_34 : decode cJ6_bitCount_0f7a4 34 = .ok (.iload_n 0, 1) := by decide +kernel
theorem dJ6_bitCount_0f7a4_35 : decode cJ6_bitCount_0f7a4 35 = .ok (.iload_n 0, 1) := by decide +kernel
theorem dJ6_bitCount_0f7a4_36 : decode cJ6_bitCount_0f7a4 36 = .ok (.bipush 8, 2) := by decide +kernel
theorem dJ6_bitCount_0f7a4_38 : decode cJ6_bitCount_0f7a4 38 = .ok (.iushr, 1) := by decide +kernel
theorem dJ6_bitCount_0f7a4_39 : decode cJ6_bitCount_0f7a4 39 = .ok (.iadd, 1) := by decide +kernel
theorem dJ6_bitCount_0f7a4_40 : decode cJ6_bitCount_0f7a4 40 = .ok (.istore_n 0, 1) := by decide +kernel
theorem dJ6_bitCount_0f7a4_41 : decode cJ6_bitCount_0f7a4 41 = .ok (.iload_n 0, 1) := by decide +kernel
theorem dJ6_bitCount_0f7a4_42 : decode cJ6_bitCount_0f7a4 42 = .ok (.iload_n 0, 1) := by decide +kernel
theorem dJ6_bitCount_0f7a4_43 : decode cJ6_bitCount_0f7a4 43 = .ok (.bipush 16, 2) := by decide +kernel
theorem dJ6_bitCount_0f7a4_45 : decode cJ6_bitCount_0f7a4 45 = .ok (.iushr, 1) := by decide +kernel
theorem dJ6_bitCount_0f7a4_46 : decode cJ6_bitCount_0f7a4 46 = .ok (.iadd, 1) := by decide +kernel
theorem dJ6_bitCount_0f7a4_47 : decode cJ6_bitCount_0f7a4 47 = .ok (.istore_n 0, 1) := by decide +kernel
theorem dJ6_bitCount_0f7a4_48 : decode cJ6_bitCount_0f7a4 48 = .ok (.iload_n 0, 1) := by decide +kernel
theorem dJ6_bitCount_0f7a4_49 : decode cJ6_bitCount_0f7a4 49 = .ok (.bipush 63, 2) := by decide +kernel
theorem dJ6_bitCount_0f7a4_51 : decode cJ6_bitCount_0f7a4 51 = .ok (.iand, 1) := by decide +kernel
theorem dJ6_bitCount_0f7a4_52 : decode cJ6_bitCount_0f7a4 52 = .ok (.ireturn, 1) := by decide +kernel
theorem dJ9_abs_0f7a4_0 : decode cJ9_abs_0f7a4 0 = .ok (.iload_n 0, 1) := by decide +kernel
theorem dJ9_abs_0f7a4_1 : decode cJ9_abs_0f7a4 1 = .ok (.ifCond .ge 8, 3) := by decide +kernel
theorem dJ9_abs_0f7a4_4 : decode cJ9_abs_0f7a4 4 = .ok (.iload_n 0, 1) := by decide +kernel
theorem dJ9_abs_0f7a4_5 : decode cJ9_abs_0f7a4 5 = .ok (.ineg, 1) := by decide +kernel
theorem dJ9_abs_0f7a4_6 : decode cJ9_abs_0f7a4 6 = .ok (.goto 4, 3) := by decide +kernel
theorem dJ9_abs_0f7a4_9 : decode cJ9_abs_0f7a4 9 = .ok (.iload_n 0, 1) := by decide +kernel
theorem dJ9_abs_0f7a4_10 : decode cJ9_abs_0f7a4 10 = .ok (.ireturn, 1) := by decide +kernel
theorem dJ9_max_7cf53_0 : decode cJ9_max_7cf53 0 = .ok (.iload_n 0, 1) := by decide +kernel
theorem dJ9_max_7cf53_1 : decode cJ9_max_7cf53 1 = .ok (.iload_n 1, 1) := by decide +kernel
theorem dJ9_max_7cf53_2 : decode cJ9_max_7cf53 2 = .ok (.if_icmp .lt 7, 3) := by decide +kernel
theorem dJ9_max_7cf53_5 : decode cJ9_max_7cf53 5 = .ok (.iload_n 0, 1) := by decide +kernel
theorem dJ9_max_7cf53_6 : decode cJ9_max_7cf53 6 = .ok (.goto 4, 3) := by decide +kernel
theorem dJ9_max_7cf53_9 : decode cJ9_max_7cf53 9 = .ok (.iload_n 1, 1) := by decide +kernel
theorem dJ9_max_7cf53_10 : decode cJ9_max_7cf53 10 = .ok (.ireturn, 1) := by decide +kernel
theorem dJ9_min_7cf53_0 : decode cJ9_min_7cf53 0 = .ok (.iload_n 0, 1) := by decide +kernel
theorem dJ9_min_7cf53_1 : decode cJ9_min_7cf53 1 = .ok (.iload_n 1, 1) := by decide +kernel
theorem dJ9_min_7cf53_2 : decode cJ9_min_7cf53 2 = .ok (.if_icmp .gt 7, 3) := by decide +kernel
theorem dJ9_min_7cf53_5 : decode cJ9_min_7cf53 5 = .ok (.iload_n 0, 1) := by decide +kernel
theorem dJ9_min_7cf53_6 : decode cJ9_min_7cf53 6 = .ok (.goto 4, 3) := by decide +kernel
theorem dJ9_min_7cf53_9 : decode cJ9_min_7cf53 9 = .ok (.iload_n 1, 1) := by decide +kernel
theorem dJ9_min_7cf53_10 : decode cJ9_min_7cf53 10 = .ok (.ireturn, 1) := by decide +kernel
theorem dJ0_length_8abf5_0 : decode cJ0_length_8abf5 0 = .ok (.aload_n 0, 1) := by decide +kernel
theorem dJ0_length_8abf5_1 : decode cJ0_length_8abf5 1 = .ok (.getfield 9, 3) := by decide +kernel
theorem dJ0_length_8abf5_4 : decode cJ0_length_8abf5 4 = .ok (.arraylength, 1) := by decide +kernel
theorem dJ0_length_8abf5_5 : decode cJ0_length_8abf5 5 = .ok (.aload_n 0, 1) := by decide +kernel
theorem dJ0_length_8abf5_6 : decode cJ0_length_8abf5 6 = .ok (.invokevirtual 335, 3) := by decide +kernel
theorem dJ0_length_8abf5_9 : decode cJ0_length_8abf5 9 = .ok (.ishr, 1) := by decide +kernel
theorem dJ0_length_8abf5_10 : decode cJ0_length_8abf5 10 = .ok (.ireturn, 1) := by decide +kernel
theorem dJ0_charAt_5068e_0 : decode cJ0_charAt_5068e 0 = .ok (.aload_n 0, 1) := by decide +kernel
theorem dJ0_charAt_5068e_1 : decode cJ0_charAt_5068e 1 = .ok (.invokevirtual 492, 3) := by decide +kernel
theorem dJ0_charAt_5068e_4 : decode cJ0_charAt_5068e 4 = .ok (.ifCond .eq 12, 3) := by decide +kernel
theorem dJ0_charAt_5068e_7 : decode cJ0_charAt_5068e 7 = .ok (.aload_n 0, 1) := by decide +kernel
theorem dJ0_charAt_5068e_8 : decode cJ0_charAt_5068e 8 = .ok (.getfield 9, 3) := by decide +kernel
theorem dJ0_charAt_5068e_11 : decode cJ0_charAt_5068e 11 = .ok (.iload_n 1, 1) := by decide +kernel
theorem dJ0_charAt_5068e_12 : decode cJ0_charAt_5068e 12 = .ok (.invokestatic 495, 3) := by decide +kernel
theorem dJ0_charAt_5068e_15 : decode cJ0_charAt_5068e 15 = .ok (.ireturn, 1) := by decide +kernel
theorem dJ0_charAt_5068e_16 : decode cJ0_charAt_5068e 16 = .ok (.aload_n 0, 1) := by decide +kernel
theorem dJ0_charAt_5068e_17 : decode cJ0_charAt_5068e 17 = .ok (.getfield 9, 3) := by decide +kernel
theorem dJ0_charAt_5068e_20 : decode cJ0_charAt_5068e 20 = .ok (.iload_n 1, 1) := by decide +kernel
theorem dJ0_charAt_5068e_21 : decode cJ0_charAt_5068e 21 = .ok (.invokestatic 498, 3) := by decide +kernel
theorem dJ0_charAt_5068e_24 : decode cJ0_charAt_5068e 24 = .ok (.ireturn, 1) := by decide +kernel
theorem dJ0_indexOf_0f7a4_0 : decode cJ0_indexOf_0f7a4 0 = .ok (.aload_n 0, 1) := by decide +kernel
theorem dJ0_indexOf_0f7a4_1 : decode cJ0_indexOf_0f7a4 1 = .ok (.iload_n 1, 1) := by decide +kernel
theorem dJ0_indexOf_0f7a4_2 : decode cJ0_indexOf_0f7a4 2 = .ok (.iconst 0, 1) := by decide +kernel
theorem dJ0_indexOf_0f7a4_3 : decode cJ0_indexOf_0f7a4 3 = .ok (.invokevirtual 633, 3) := by decide +kernel
theorem dJ0_indexOf_0f7a4_6 : decode cJ0_indexOf_0f7a4 6 = .ok (.ireturn, 1) := by decide +kernel
theorem dJ0_indexOf_7cf53_0 : decode cJ0_indexOf_7cf53 0 = .ok (.aload_n 0, 1) := by decide +kernel
theorem dJ0_indexOf_7cf53_1 : decode cJ0_indexOf_7cf53 1 = .ok (.invokevirtual 492, 3) := by decide +kernel
theorem dJ0_indexOf_7cf53_4 : decode cJ0_indexOf_7cf53 4 = .ok (.ifCond .eq 19, 3) := by decide +kernel
theorem dJ0_indexOf_7cf53_7 : decode cJ0_indexOf_7cf53 7 = .ok (.aload_n 0, 1) := by decide +kernel
theorem dJ0_indexOf_7cf53_8 : decode cJ0_indexOf_7cf53 8 = .ok (.getfield 9, 3) := by decide +kernel
theorem dJ0_indexOf_7cf53_11 : decode cJ0_indexOf_7cf53 11 = .ok (.iload_n 1, 1) := by decide +kernel
theorem dJ0_indexOf_7cf53_12 : decode cJ0_indexOf_7cf53 12 = .ok (.iload_n 2, 1) := by decide +kernel
theorem dJ0_indexOf_7cf53_13 : decode cJ0_indexOf_7cf53 13 = .ok (.aload_n 0, 1) := by decide +kernel
theorem dJ0_indexOf_7cf53_14 : decode cJ0_indexOf_7cf53 14 = .ok (.invokevirtual 505, 3) := by decide +kernel
theorem dJ0_indexOf_7cf53_17 : decode cJ0_indexOf_7cf53 17 = .ok (.invokestatic 637, 3) := by decide +kernel
theorem dJ0_indexOf_7cf53_20 : decode cJ0_indexOf_7cf53 20 = .ok (.goto 16, 3) := by decide +kernel
theorem dJ0_indexOf_7cf53_23 : decode cJ0_indexOf_7cf53 23 = .ok (.aload_n 0, 1) := by decide +kernel
theorem dJ0_indexOf_7cf53_24 : decode cJ0_indexOf_7cf53 24 = .ok (.getfield 9, 3) := by decide +kernel
theorem dJ0_indexOf_7cf53_27 : decode cJ0_indexOf_7cf53 27 = .ok (.iload_n 1, 1) := by decide +kernel
theorem dJ0_indexOf_7cf53_28 : decode cJ0_indexOf_7cf53 28 = .ok (.iload_n 2, 1) := by decide +kernel
theorem dJ0_indexOf_7cf53_29 : decode cJ0_indexOf_7cf53 29 = .ok (.aload_n 0, 1) := by decide +kernel
theorem dJ0_indexOf_7cf53_30 : decode cJ0_indexOf_7cf53 30 = .ok (.invokevirtual 505, 3) := by decide +kernel
theorem dJ0_indexOf_7cf53_33 : decode cJ0_indexOf_7cf53 33 = .ok (.invokestatic 640, 3) := by decide +kernel
theorem dJ0_indexOf_7cf53_36 : decode cJ0_indexOf_7cf53 36 = .ok (.ireturn, 1) := by decide +kernel
theorem dJ0_coder_7d493_0 : decode cJ0_coder_7d493 0 = .ok (.getstatic 38, 3) := by decide +kernel
theorem dJ0_coder_7d493_3 : decode cJ0_coder_7d493 3 = .ok (.ifCond .eq 10, 3) := by decide +kernel
theorem dJ0_coder_7d493_6 : decode cJ0_coder_7d493 6 = .ok (.aload_n 0, 1) := by decide +kernel
theorem dJ0_coder_7d493_7 : decode cJ0_coder_7d493 7 = .ok (.getfield 15, 3) := by decide +kernel
theorem dJ0_coder_7d493_10 : decode cJ0_coder_7d493 10 = .ok (.goto 4, 3) := by decide +kernel
theorem dJ0_coder_7d493_13 : decode cJ0_coder_7d493 13 = .ok (.iconst 1, 1) := by decide +kernel
theorem dJ0_coder_7d493_14 : decode cJ0_coder_7d493 14 = .ok (.ireturn, 1) := by decide +kernel
theorem dJ0_isLatin1_aae02_0 : decode cJ0_isLatin1_aae02 0 = .ok (.getstatic 38, 3) := by decide +kernel
theorem dJ0_isLatin1_aae02_3 : decode cJ0_isLatin1_aae02 3 = .ok (.ifCond .eq 14, 3) := by decide +kernel
theorem dJ0_isLatin1_aae02_6 : decode cJ0_isLatin1_aae02 6 = .ok (.aload_n 0, 1) := by decide +kernel
theorem dJ0_isLatin1_aae02_7 : decode cJ0_isLatin1_aae02 7 = .ok (.getfield 15, 3) := by decide +kernel
theorem dJ0_isLatin1_aae02_10 : decode cJ0_isLatin1_aae02 10 = .ok (.ifCond .ne 7, 3) := by decide +kernel
theorem dJ0_isLatin1_aae02_13 : decode cJ0_isLatin1_aae02 13 = .ok (.iconst 1, 1) := by decide +kernel
theorem dJ0_isLatin1_aae02_14 : decode cJ0_isLatin1_aae02 14 = .ok (.goto 4, 3) := by decide +kernel
theorem dJ0_isLatin1_aae02_17 : decode cJ0_isLatin1_aae02 17 = .ok (.iconst 0, 1) := by decide +kernel
theorem dJ0_isLatin1_aae02_18 : decode cJ0_isLatin1_aae02 18 = .ok (.ireturn, 1) := by decide +kernel
theorem dJ0_checkIndex_df160_0 : decode cJ0_checkIndex_df160 0 = .ok (.iload_n 0, 1) := by decide +kernel
theorem dJ0_checkIndex_df160_1 : decode cJ0_checkIndex_df160 1 = .ok (.iload_n 1, 1) := by decide +kernel
theorem dJ0_checkIndex_df160_2 : decode cJ0_checkIndex_df160 2 = .ok (.getstatic 1053, 3) := by decide +kernel
theorem dJ0_checkIndex_df160_5 : decode cJ0_checkIndex_df160 5 = .ok (.invokestatic 1059, 3) := by decide +kernel
theorem dJ0_checkIndex_df160_8 : decode cJ0_checkIndex_df160 8 = .ok (.pop, 1) := by decide +kernel
theorem dJ0_checkIndex_df160_9 : decode cJ0_checkIndex_df160 9 = .ok (.return_, 1) := by decide +kernel
theorem dJ0_checkBoundsBeginEnd_23922_0 : decode cJ0_checkBoundsBeginEnd_23922 0 = .ok (.iload_n 0, 1) := by decide +kernel
theorem dJ0_checkBoundsBeginEnd_23922_1 : decode cJ0_checkBoundsBeginEnd_23922 1 = .ok (.iload_n 1, 1) := by decide +kernel
theorem dJ0_checkBoundsBeginEnd_23922_2 : decode cJ0_checkBoundsBeginEnd_23922 2 = .ok (.iload_n 2, 1) := by decide +kernel
theorem dJ0_checkBoundsBeginEnd_23922_3 : decode cJ0_checkBoundsBeginEnd_23922 3 = .ok (.getstatic 1053, 3) := by decide +kernel
theorem dJ0_checkBoundsBeginEnd_23922_6 : decode cJ0_checkBoundsBeginEnd_23922 6 = .ok (.invokestatic 1062, 3) := by decide +kernel
theorem dJ0_checkBoundsBeginEnd_23922_9 : decode cJ0_checkBoundsBeginEnd_23922 9 = .ok (.pop, 1) := by decide +kernel
theorem dJ0_checkBoundsBeginEnd_23922_10 : decode cJ0_checkBoundsBeginEnd_23922 10 = .ok (.return_, 1) := by decide +kernel
theorem dJ1_charAt_3b067_0 : decode cJ1_charAt_3b067 0 = .ok (.iload_n 1, 1) := by decide +kernel
theorem dJ1_charAt_3b067_1 : decode cJ1_charAt_3b067 1 = .ok (.aload_n 0, 1) := by decide +kernel
theorem dJ1_charAt_3b067_2 : decode cJ1_charAt_3b067 2 = .ok (.arraylength, 1) := by decide +kernel
theorem dJ1_charAt_3b067_3 : decode cJ1_charAt_3b067 3 = .ok (.invokestatic 9, 3) := by decide +kernel
theorem dJ1_charAt_3b067_6 : decode cJ1_charAt_3b067 6 = .ok (.aload_n 0, 1) := by decide +kernel
theorem dJ1_charAt_3b067_7 : decode cJ1_charAt_3b067 7 = .ok (.iload_n 1, 1) := by decide +kernel
theorem dJ1_charAt_3b067_8 : decode cJ1_charAt_3b067 8 = .ok (.baload, 1) := by decide +kernel
theorem dJ1_charAt_3b067_9 : decode cJ1_charAt_3b067 9 = .ok (.sipush 255, 3) := by decide +kernel
theorem dJ1_charAt_3b067_12 : decode cJ1_charAt_3b067 12 = .ok (.iand, 1) := by decide +kernel
theorem dJ1_charAt_3b067_13 : decode cJ1_charAt_3b067 13 = .ok (.i2c, 1) := by decide +kernel
theorem dJ1_charAt_3b067_14 : decode cJ1_charAt_3b067 14 = .ok (.ireturn, 1) := by decide +kernel
theorem dJ1_canEncode_9a6ad_0 : decode cJ1_canEncode_9a6ad 0 = .ok (.iload_n 0, 1) := by decide +kernel
theorem dJ1_canEncode_9a6ad_1 : decode cJ1_canEncode_9a6ad 1 = .ok (.ifCond .lt 14, 3) := by decide +kernel
theorem dJ1_canEncode_9a6ad_4 : decode cJ1_canEncode_9a6ad 4 = .ok (.iload_n 0, 1) := by decide +kernel
theorem dJ1_canEncode_9a6ad_5 : decode cJ1_canEncode_9a6ad 5 = .ok (.sipush 255, 3) := by decide +kernel
theorem dJ1_canEncode_9a6ad_8 : decode cJ1_canEncode_9a6ad 8 = .ok (.if_icmp .gt 7, 3) := by decide +kernel
theorem dJ1_canEncode_9a6ad_11 : decode cJ1_canEncode_9a6ad 11 = .ok (.iconst 1, 1) := by decide +kernel
theorem dJ1_canEncode_9a6ad_12 : decode cJ1_canEncode_9a6ad 12 = .ok (.goto 4, 3) := by decide +kernel
theorem dJ1_canEncode_9a6ad_15 : decode cJ1_canEncode_9a6ad 15 = .ok (.iconst 0, 1) := by decide +kernel
theorem dJ1_canEncode_9a6ad_16 : decode cJ1_canEncode_9a6ad 16 = .ok (.ireturn, 1) := by decide +kernel
theorem dJ1_indexOf_4cfef_0 : decode cJ1_indexOf_4cfef 0 = .ok (.iload_n 1, 1) := by decide +kernel
theorem dJ1_indexOf_4cfef_1 : decode cJ1_indexOf_4cfef 1 = .ok (.invokestatic 88, 3) := by decide +kernel
theorem dJ1_indexOf_4cfef_4 : decode cJ1_indexOf_4cfef 4 = .ok (.ifCond .ne 5, 3) := by decide +kernel
theorem dJ1_indexOf_4cfef_7 : decode cJ1_indexOf_4cfef 7 = .ok (.iconst (-1), 1) := by decide +kernel
theorem dJ1_indexOf_4cfef_8 : decode cJ1_indexOf_4cfef 8 = .ok (.ireturn, 1) := by decide +kernel
theorem dJ1_indexOf_4cfef_9 : decode cJ1_indexOf_4cfef 9 = .ok (.iload_n 2, 1) := by decide +kernel
theorem dJ1_indexOf_4cfef_10 : decode cJ1_indexOf_4cfef 10 = .ok (.iconst 0, 1) := by decide +kernel
theorem dJ1_indexOf_4cfef_11 : decode cJ1_indexOf_4cfef 11 = .ok (.invokestatic 92, 3) := by decide +kernel
theorem dJ1_indexOf_4cfef_14 : decode cJ1_indexOf_4cfef 14 = .ok (.istore_n 2, 1) := by decide +kernel
theorem dJ1_indexOf_4cfef_15 : decode cJ1_indexOf_4cfef 15 = .ok (.iload_n 3, 1) := by decide +kernel
theorem dJ1_indexOf_4cfef_16 : decode cJ1_indexOf_4cfef 16 = .ok (.aload_n 0, 1) := by decide +kernel
theorem dJ1_indexOf_4cfef_17 : decode cJ1_indexOf_4cfef 17 = .ok (.arraylength, 1) := by decide +kernel
theorem dJ1_indexOf_4cfef_18 : decode cJ1_indexOf_4cfef 18 = .ok (.invokestatic 38, 3) := by decide +kernel
theorem dJ1_indexOf_4cfef_21 : decode cJ1_indexOf_4cfef 21 = .ok (.istore_n 3, 1) := by decide +kernel
theorem dJ1_indexOf_4cfef_22 : decode cJ1_indexOf_4cfef 22 = .ok (.iload_n 2, 1) := by decide +kernel
theorem dJ1_indexOf_4cfef_23 : decode cJ1_indexOf_4cfef 23 = .ok (.iload_n 3, 1) := by decide +kernel
theorem dJ1_indexOf_4cfef_24 : decode cJ1_indexOf_4cfef 24 = .ok (.if_icmp .lt 5, 3) := by decide +kernel
theorem dJ1_indexOf_4cfef_27 : decode cJ1_indexOf_4cfef 27 = .ok (.iconst (-1), 1) := by decide +kernel
theorem dJ1_indexOf_4cfef_28 : decode cJ1_indexOf_4cfef 28 = .ok (.ireturn, 1) := by decide +kernel
theorem dJ1_indexOf_4cfef_29 : decode cJ1_indexOf_4cfef 29 = .ok (.aload_n 0, 1) := by decide +kernel
theorem dJ1_indexOf_4cfef_30 : decode cJ1_indexOf_4cfef 30 = .ok (.iload_n 1, 1) := by decide +kernel
theorem dJ1_indexOf_4cfef_31 : decode cJ1_indexOf_4cfef 31 = .ok (.iload_n 2, 1) := by decide +kernel
theorem dJ1_indexOf_4cfef_32 : decode cJ1_indexOf_4cfef 32 = .ok (.iload_n 3, 1) := by decide +kernel
theorem dJ1_indexOf_4cfef_33 : decode cJ1_indexOf_4cfef 33 = .ok (.invokestatic 95, 3) := by decide +kernel
theorem dJ1_indexOf_4cfef_36 : decode cJ1_indexOf_4cfef 36 = .ok (.ireturn, 1) := by decide +kernel
theorem dJ1_indexOfChar_4cfef_0 : decode cJ1_indexOfChar_4cfef 0 = .ok (.iload_n 1, 1) := by decide +kernel
theorem dJ1_indexOfChar_4cfef_1 : decode cJ1_indexOfChar_4cfef 1 = .ok (.i2b, 1) := by decide +kernel
theorem dJ1_indexOfChar_4cfef_2 : decode cJ1_indexOfChar_4cfef 2 = .ok (.istore 4, 2) := by decide +kernel
theorem dJ1_indexOfChar_4cfef_4 : decode cJ1_indexOfChar_4cfef 4 = .ok (.iload_n 2, 1) := by decide +kernel
theorem dJ1_indexOfChar_4cfef_5 : decode cJ1_indexOfChar_4cfef 5 = .ok (.istore 5, 2) := by decide +kernel
theorem dJ1_indexOfChar_4cfef_7 : decode cJ1_indexOfChar_4cfef 7 = .ok (.iload 5, 2) := by decide +kernel
theorem dJ1_indexOfChar_4cfef_9 : decode cJ1_indexOfChar_4cfef 9 = .ok (.iload_n 3, 1) := by decide +kernel
theorem dJ1_indexOfChar_4cfef_10 : decode cJ1_indexOfChar_4cfef 10 = .ok (.if_icmp .ge 21, 3) := by decide +kernel
theorem dJ1_indexOfChar_4cfef_13 : decode cJ1_indexOfChar_4cfef 13 = .ok (.aload_n 0, 1) := by decide +kernel
theorem dJ1_indexOfChar_4cfef_14 : decode cJ1_indexOfChar_4cfef 14 = .ok (.iload 5, 2) := by decide +kernel
theorem dJ1_indexOfChar_4cfef_16 : decode cJ1_indexOfChar_4cfef 16 = .ok (.baload, 1) := by decide +kernel
theorem dJ1_indexOfChar_4cfef_17 : decode cJ1_indexOfChar_4cfef 17 = .ok (.iload 4, 2) := by decide +kernel
theorem dJ1_indexOfChar_4cfef_19 : decode cJ1_indexOfChar_4cfef 19 = .ok (.if_icmp .ne 6, 3) := by decide +kernel
theorem dJ1_indexOfChar_4cfef_22 : decode cJ1_indexOfChar_4cfef 22 = .ok (.iload 5, 2) := by decide +kernel
theorem dJ1_indexOfChar_4cfef_24 : decode cJ1_indexOfChar_4cfef 24 = .ok (.ireturn, 1) := by decide +kernel
theorem dJ1_indexOfChar_4cfef_25 : decode cJ1_indexOfChar_4cfef 25 = .ok (.iinc 5 1, 3) := by decide +kernel
theorem dJ1_indexOfChar_4cfef_28 : decode cJ1_indexOfChar_4cfef 28 = .ok (.goto (-21), 3) := by decide +kernel
theorem dJ1_indexOfChar_4cfef_31 : decode cJ1_indexOfChar_4cfef 31 = .ok (.iconst (-1), 1) := by decide +kernel
theorem dJ1_indexOfChar_4cfef_32 : decode cJ1_indexOfChar_4cfef 32 = .ok (.ireturn, 1) := by decide +kernel
theorem dJ2_getChar_3b067_0 : decode cJ2_getChar_3b067 0 = .ok (.getstatic 44, 3) := by decide +kernel
theorem dJ2_getChar_3b067_3 : decode cJ2_getChar_3b067 3 = .ok (.ifCond .ne 25, 3) := by decide +kernel
theorem dJ2_getChar_3b067_6 : decode cJ2_getChar_3b067 6 = .ok (.iload_n 1, 1) := by decide +kernel
theorem dJ2_getChar_3b067_7 : decode cJ2_getChar_3b067 7 = .ok (.ifCond .lt 11, 3) := by decide +kernel
theorem dJ2_getChar_3b067_10 : decode cJ2_getChar_3b067 10 = .ok (.iload_n 1, 1) := by decide +kernel
theorem dJ2_getChar_3b067_11 : decode cJ2_getChar_3b067 11 = .ok (.aload_n 0, 1) := by decide +kernel
theorem dJ2_getChar_3b067_12 : decode cJ2_getChar_3b067 12 = .ok (.invokestatic 48, 3) := by decide +kernel
theorem dJ2_getChar_3b067_15 : decode cJ2_getChar_3b067 15 = .ok (.if_icmp .lt 13, 3) := by decide +kernel
theorem dJ2_getChar_3b067_18 : decode cJ2_getChar_3b067 18 = .ok (.new 52, 3) := by decide +kernel
theorem dJ2_getChar_3b067_21 : decode cJ2_getChar_3b067 21 = .ok (.dup, 1) := by decide +kernel
theorem dJ2_getChar_3b067_22 : decode cJ2_getChar_3b067 22 = .ok (.ldc 54, 2) := by decide +kernel
theorem dJ2_getChar_3b067_24 : decode cJ2_getChar_3b067 24 = .ok (.invokespecial 56, 3) := by decide +kernel
theorem dJ2_getChar_3b067_27 : decode cJ2_getChar_3b067 27 = .ok (.athrow, 1) := by decide +kernel
theorem dJ2_getChar_3b067_28 : decode cJ2_getChar_3b067 28 = .ok (.iload_n 1, 1) := by decide +kernel
theorem dJ2_getChar_3b067_29 : decode cJ2_getChar_3b067 29 = .ok (.iconst 1, 1) := by decide +kernel
theorem dJ2_getChar_3b067_30 : decode cJ2_getChar_3b067 30 = .ok (.ishl, 1) := by decide +kernel
theorem dJ2_getChar_3b067_31 : decode cJ2_getChar_3b067 31 = .ok (.istore_n 1, 1) := by decide +kernel
theorem dJ2_getChar_3b067_32 : decode cJ2_getChar_3b067 32 = .ok (.aload_n 0, 1) := by decide +kernel
theorem dJ2_getChar_3b067_33 : decode cJ2_getChar_3b067 33 = .ok (.iload_n 1, 1) := by decide +kernel
theorem dJ2_getChar_3b067_34 : decode cJ2_getChar_3b067 34 = .ok (.iinc 1 1, 3) := by decide +kernel
theorem dJ2_getChar_3b067_37 : decode cJ2_getChar_3b067 37 = .ok (.baload, 1) := by decide +kernel
theorem dJ2_getChar_3b067_38 : decode cJ2_getChar_3b067 38 = .ok (.sipush 255, 3) := by decide +kernel
theorem dJ2_getChar_3b067_41 : decode cJ2_getChar_3b067 41 = .ok (.iand, 1) := by decide +kernel
theorem dJ2_getChar_3b067_42 : decode cJ2_getChar_3b067 42 = .ok (.getstatic 59, 3) := by decide +kernel
theorem dJ2_getChar_3b067_45 : decode cJ2_getChar_3b067 45 = .ok (.ishl, 1) := by decide +kernel
theorem dJ2_getChar_3b067_46 : decode cJ2_getChar_3b067 46 = .ok (.aload_n 0, 1) := by decide +kernel
theorem dJ2_getChar_3b067_47 : decode cJ2_getChar_3b067 47 = .ok (.iload_n 1, 1) := by decide +kernel
theorem dJ2_getChar_3b067_48 : decode cJ2_getChar_3b067 48 = .ok (.baload, 1) := by decide +kernel
theorem dJ2_getChar_3b067_49 : decode cJ2_getChar_3b067 49 = .ok (.sipush 255, 3) := by decide +kernel
theorem dJ2_getChar_3b067_52 : decode cJ2_getChar_3b067 52 = .ok (.iand, 1) := by decide +kernel
theorem dJ2_getChar_3b067_53 : decode cJ2_getChar_3b067 53 = .ok (.getstatic 63, 3) := by decide +kernel
theorem dJ2_getChar_3b067_56 : decode cJ2_getChar_3b067 56 = .ok (.ishl, 1) := by decide +kernel
theorem dJ2_getChar_3b067_57 : decode cJ2_getChar_3b067 57 = .ok (.ior, 1) := by decide +kernel
theorem dJ2_getChar_3b067_58 : decode cJ2_getChar_3b067 58 = .ok (.i2c, 1) := by decide +kernel
theorem dJ2_getChar_3b067_59 : decode cJ2_getChar_3b067 59 = .ok (.ireturn, 1) := by decide +kernel
theorem dJ2_length_9d52b_0 : decode cJ2_length_9d52b 0 = .ok (.aload_n 0, 1) := by decide +kernel
theorem dJ2_length_9d52b_1 : decode cJ2_length_9d52b 1 = .ok (.arraylength, 1) := by decide +kernel
theorem dJ2_length_9d52b_2 : decode cJ2_length_9d52b 2 = .ok (.iconst 1, 1) := by decide +kernel
theorem dJ2_length_9d52b_3 : decode cJ2_length_9d52b 3 = .ok (.ishr, 1) := by decide +kernel
theorem dJ2_length_9d52b_4 : decode cJ2_length_9d52b 4 = .ok (.ireturn, 1) := by decide +kernel
theorem dJ2_indexOf_4cfef_0 : decode cJ2_indexOf_4cfef 0 = .ok (.iload_n 2, 1) := by decide +kernel
theorem dJ2_indexOf_4cfef_1 : decode cJ2_indexOf_4cfef 1 = .ok (.iconst 0, 1) := by decide +kernel
theorem dJ2_indexOf_4cfef_2 : decode cJ2_indexOf_4cfef 2 = .ok (.invokestatic 224, 3) := by decide +kernel
theorem dJ2_indexOf_4cfef_5 : decode cJ2_indexOf_4cfef 5 = .ok (.istore_n 2, 1) := by decide +kernel
theorem dJ2_indexOf_4cfef_6 : decode cJ2_indexOf_4cfef 6 = .ok (.iload_n 3, 1) := by decide +kernel
theorem dJ2_indexOf_4cfef_7 : decode cJ2_indexOf_4cfef 7 = .ok (.aload_n 0, 1) := by decide +kernel
theorem dJ2_indexOf_4cfef_8 : decode cJ2_indexOf_4cfef 8 = .ok (.arraylength, 1) := by decide +kernel
theorem dJ2_indexOf_4cfef_9 : decode cJ2_indexOf_4cfef 9 = .ok (.iconst 1, 1) := by decide +kernel
theorem dJ2_indexOf_4cfef_10 : decode cJ2_indexOf_4cfef 10 = .ok (.ishr, 1) := by decide +kernel
theorem dJ2_indexOf_4cfef_11 : decode cJ2_indexOf_4cfef 11 = .ok (.invokestatic 183, 3) := by decide +kernel
theorem dJ2_indexOf_4cfef_14 : decode cJ2_indexOf_4cfef 14 = .ok (.istore_n 3, 1) := by decide +kernel
theorem dJ2_indexOf_4cfef_15 : decode cJ2_indexOf_4cfef 15 = .ok (.iload_n 2, 1) := by decide +kernel
theorem dJ2_indexOf_4cfef_16 : decode cJ2_indexOf_4cfef 16 = .ok (.iload_n 3, 1) := by decide +kernel
theorem dJ2_indexOf_4cfef_17 : decode cJ2_indexOf_4cfef 17 = .ok (.if_icmp .lt 5, 3) := by decide +kernel
theorem dJ2_indexOf_4cfef_20 : decode cJ2_indexOf_4cfef 20 = .ok (.iconst (-1), 1) := by decide +kernel
theorem dJ2_indexOf_4cfef_21 : decode cJ2_indexOf_4cfef 21 = .ok (.ireturn, 1) := by decide +kernel
theorem dJ2_indexOf_4cfef_22 : decode cJ2_indexOf_4cfef 22 = .ok (.iload_n 1, 1) := by decide +kernel
theorem dJ2_indexOf_4cfef_23 : decode cJ2_indexOf_4cfef 23 = .ok (.ldc 227, 2) := by decide +kernel
theorem dJ2_indexOf_4cfef_25 : decode cJ2_indexOf_4cfef 25 = .ok (.if_icmp .ge 11, 3) := by decide +kernel
theorem dJ2_indexOf_4cfef_28 : decode cJ2_indexOf_4cfef 28 = .ok (.aload_n 0, 1) := by decide +kernel
theorem dJ2_indexOf_4cfef_29 : decode cJ2_indexOf_4cfef 29 = .ok (.iload_n 1, 1) := by decide +kernel
theorem dJ2_indexOf_4cfef_30 : decode cJ2_indexOf_4cfef 30 = .ok (.iload_n 2, 1) := by decide +kernel
theorem dJ2_indexOf_4cfef_31 : decode cJ2_indexOf_4cfef 31 = .ok (.iload_n 3, 1) := by decide +kernel
theorem dJ2_indexOf_4cfef_32 : decode cJ2_indexOf_4cfef 32 = .ok (.invokestatic 228, 3) := by decide +kernel
theorem dJ2_indexOf_4cfef_35 : decode cJ2_indexOf_4cfef 35 = .ok (.ireturn, 1) := by decide +kernel
theorem dJ2_indexOf_4cfef_36 : decode cJ2_indexOf_4cfef 36 = .ok (.aload_n 0, 1) := by decide +kernel
theorem dJ2_indexOf_4cfef_37 : decode cJ2_indexOf_4cfef 37 = .ok (.iload_n 1, 1) := by decide +kernel
theorem dJ2_indexOf_4cfef_38 : decode cJ2_indexOf_4cfef 38 = .ok (.iload_n 2, 1) := by decide +kernel
theorem dJ2_indexOf_4cfef_39 : decode cJ2_indexOf_4cfef 39 = .ok (.iload_n 3, 1) := by decide +kernel
theorem dJ2_indexOf_4cfef_40 : decode cJ2_indexOf_4cfef 40 = .ok (.invokestatic 232, 3) := by decide +kernel
theorem dJ2_indexOf_4cfef_43 : decode cJ2_indexOf_4cfef 43 = .ok (.ireturn, 1) := by decide +kernel
theorem dJ2_indexOfChar_4cfef_0 : decode cJ2_indexOfChar_4cfef 0 = .ok (.iload_n 2, 1) := by decide +kernel
theorem dJ2_indexOfChar_4cfef_1 : decode cJ2_indexOfChar_4cfef 1 = .ok (.iload_n 3, 1) := by decide +kernel
theorem dJ2_indexOfChar_4cfef_2 : decode cJ2_indexOfChar_4cfef 2 = .ok (.aload_n 0, 1) := by decide +kernel
theorem dJ2_indexOfChar_4cfef_3 : decode cJ2_indexOfChar_4cfef 3 = .ok (.invokestatic 96, 3) := by decide +kernel
theorem dJ2_indexOfChar_4cfef_6 : decode cJ2_indexOfChar_4cfef 6 = .ok (.aload_n 0, 1) := by decide +kernel
theorem dJ2_indexOfChar_4cfef_7 : decode cJ2_indexOfChar_4cfef 7 = .ok (.iload_n 1, 1) := by decide +kernel
theorem dJ2_indexOfChar_4cfef_8 : decode cJ2_indexOfChar_4cfef 8 = .ok (.iload_n 2, 1) := by decide +kernel
theorem dJ2_indexOfChar_4cfef_9 : decode cJ2_indexOfChar_4cfef 9 = .ok (.iload_n 3, 1) := by decide +kernel
theorem dJ2_indexOfChar_4cfef_10 : decode cJ2_indexOfChar_4cfef 10 = .ok (.invokestatic 244, 3) := by decide +kernel
theorem dJ2_indexOfChar_4cfef_13 : decode cJ2_indexOfChar_4cfef 13 = .ok (.ireturn, 1) := by decide +kernel
theorem dJ2_indexOfCharUnsafe_4cfef_0 : decode cJ2_indexOfCharUnsafe_4cfef 0 = .ok (.iload_n 2, 1) := by decide +kernel
theorem dJ2_indexOfCharUnsafe_4cfef_1 : decode cJ2_indexOfCharUnsafe_4cfef 1 = .ok (.istore 4, 2) := by decide +kernel
theorem dJ2_indexOfCharUnsafe_4cfef_3 : decode cJ2_indexOfCharUnsafe_4cfef 3 = .ok (.iload 4, 2) := by decide +kernel
theorem dJ2_indexOfCharUnsafe_4cfef_5 : decode cJ2_indexOfCharUnsafe_4cfef 5 = .ok (.iload_n 3, 1) := by decide +kernel
theorem dJ2_indexOfCharUnsafe_4cfef_6 : decode cJ2_indexOfCharUnsafe_4cfef 6 = .ok (.if_icmp .ge 22, 3) := by decide +kernel
theorem dJ2_indexOfCharUnsafe_4cfef_9 : decode cJ2_indexOfCharUnsafe_4cfef 9 = .ok (.aload_n 0, 1) := by decide +kernel
theorem dJ2_indexOfCharUnsafe_4cfef_10 : decode cJ2_indexOfCharUnsafe_4cfef 10 = .ok (.iload 4, 2) := by decide +kernel
theorem dJ2_indexOfCharUnsafe_4cfef_12 : decode cJ2_indexOfCharUnsafe_4cfef 12 = .ok (.invokestatic 71, 3) := by decide +kernel
theorem dJ2_indexOfCharUnsafe_4cfef_15 : decode cJ2_indexOfCharUnsafe_4cfef 15 = .ok (.iload_n 1, 1) := by decide +kernel
theorem dJ2_indexOfCharUnsafe_4cfef_16 : decode cJ2_indexOfCharUnsafe_4cfef 16 = .ok (.if_icmp .ne 6, 3) := by decide +kernel
theorem dJ2_indexOfCharUnsafe_4cfef_19 : decode cJ2_indexOfCharUnsafe_4cfef 19 = .ok (.iload 4, 2) := by decide +kernel
theorem dJ2_indexOfCharUnsafe_4cfef_21 : decode cJ2_indexOfCharUnsafe_4cfef 21 = .ok (.ireturn, 1) := by decide +kernel
theorem dJ2_indexOfCharUnsafe_4cfef_22 : decode cJ2_indexOfCharUnsafe_4cfef 22 = .ok (.iinc 4 1, 3) := by decide +kernel
theorem dJ2_indexOfCharUnsafe_4cfef_25 : decode cJ2_indexOfCharUnsafe_4cfef 25 = .ok (.goto (-22), 3) := by decide +kernel
theorem dJ2_indexOfCharUnsafe_4cfef_28 : decode cJ2_indexOfCharUnsafe_4cfef 28 = .ok (.iconst (-1), 1) := by decide +kernel
theorem dJ2_indexOfCharUnsafe_4cfef_29 : decode cJ2_indexOfCharUnsafe_4cfef 29 = .ok (.ireturn, 1) := by decide +kernel
theorem dJ2_indexOfSupplementary_4cfef_0 : decode cJ2_indexOfSupplementary_4cfef 0 = .ok (.iload_n 1, 1) := by decide +kernel
theorem dJ2_indexOfSupplementary_4cfef_1 : decode cJ2_indexOfSupplementary_4cfef 1 = .ok (.invokestatic 164, 3) := by decide +kernel
theorem dJ2_indexOfSupplementary_4cfef_4 : decode cJ2_indexOfSupplementary_4cfef 4 = .ok (.ifCond .eq 65, 3) := by decide +kernel
theorem dJ2_indexOfSupplementary_4cfef_7 : decode cJ2_indexOfSupplementary_4cfef 7 = .ok (.iload_n 1, 1) := by decide +kernel
theorem dJ2_indexOfSupplementary_4cfef_8 : decode cJ2_indexOfSupplementary_4cfef 8 = .ok (.invokestatic 157, 3) := by decide +kernel
theorem dJ2_indexOfSupplementary_4cfef_11 : decode cJ2_indexOfSupplementary_4cfef 11 = .ok (.istore 4, 2) := by decide +kernel
theorem dJ2_indexOfSupplementary_4cfef_13 : decode cJ2_indexOfSupplementary_4cfef 13 = .ok (.iload_n 1, 1) := by decide +kernel
theorem dJ2_indexOfSupplementary_4cfef_14 : decode cJ2_indexOfSupplementary_4cfef 14 = .ok (.invokestatic 161, 3) := by decide +kernel
theorem dJ2_indexOfSupplementary_4cfef_17 : decode cJ2_indexOfSupplementary_4cfef 17 = .ok (.istore 5, 2) := by decide +kernel
theorem dJ2_indexOfSupplementary_4cfef_19 : decode cJ2_indexOfSupplementary_4cfef 19 = .ok (.iload_n 2, 1) := by decide +kernel
theorem dJ2_indexOfSupplementary_4cfef_20 : decode cJ2_indexOfSupplementary_4cfef 20 = .ok (.iload_n 3, 1) := by decide +kernel
theorem dJ2_indexOfSupplementary_4cfef_21 : decode cJ2_indexOfSupplementary_4cfef 21 = .ok (.aload_n 0, 1) := by decide +kernel
theorem dJ2_indexOfSupplementary_4cfef_22 : decode cJ2_indexOfSupplementary_4cfef 22 = .ok (.invokestatic 96, 3) := by decide +kernel
theorem dJ2_indexOfSupplementary_4cfef_25 : decode cJ2_indexOfSupplementary_4cfef 25 = .ok (.iload_n 2, 1) := by decide +kernel
theorem dJ2_indexOfSupplementary_4cfef_26 : decode cJ2_indexOfSupplementary_4cfef 26 = .ok (.istore 6, 2) := by decide +kernel
theorem dJ2_indexOfSupplementary_4cfef_28 : decode cJ2_indexOfSupplementary_4cfef 28 = .ok (.iload 6, 2) := by decide +kernel
theorem dJ2_indexOfSupplementary_4cfef_30 : decode cJ2_indexOfSupplementary_4cfef 30 = .ok (.iload_n 3, 1) := by decide +kernel
theorem dJ2_indexOfSupplementary_4cfef_31 : decode cJ2_indexOfSupplementary_4cfef 31 = .ok (.iconst 1, 1) := by decide +kernel
theorem dJ2_indexOfSupplementary_4cfef_32 : decode cJ2_indexOfSupplementary_4cfef 32 = .ok (.isub, 1) := by decide +kernel
theorem dJ2_indexOfSupplementary_4cfef_33 : decode cJ2_indexOfSupplementary_4cfef 33 = .ok (.if_icmp .ge 36, 3) := by decide +kernel
theorem dJ2_indexOfSupplementary_4cfef_36 : decode cJ2_indexOfSupplementary_4cfef 36 = .ok (.aload_n 0, 1) := by decide +kernel
theorem dJ2_indexOfSupplementary_4cfef_37 : decode cJ2_indexOfSupplementary_4cfef 37 = .ok (.iload 6, 2) := by decide +kernel
theorem dJ2_indexOfSupplementary_4cfef_39 : decode cJ2_indexOfSupplementary_4cfef 39 = .ok (.invokestatic 71, 3) := by decide +kernel
theorem dJ2_indexOfSupplementary_4cfef_42 : decode cJ2_indexOfSupplementary_4cfef 42 = .ok (.iload 4, 2) := by decide +kernel
theorem dJ2_indexOfSupplementary_4cfef_44 : decode cJ2_indexOfSupplementary_4cfef 44 = .ok (.if_icmp .ne 19, 3) := by decide +kernel
theorem dJ2_indexOfSupplementary_4cfef_47 : decode cJ2_indexOfSupplementary_4cfef 47 = .ok (.aload_n 0, 1) := by decide +kernel
theorem dJ2_indexOfSupplementary_4cfef_48 : decode cJ2_indexOfSupplementary_4cfef 48 = .ok (.iload 6, 2) := by decide +kernel
theorem dJ2_indexOfSupplementary_4cfef_50 : decode cJ2_indexOfSupplementary_4cfef 50 = .ok (.iconst 1, 1) := by decide +kernel
theorem dJ2_indexOfSupplementary_4cfef_51 : decode cJ2_indexOfSupplementary_4cfef 51 = .ok (.iadd, 1) := by decide +kernel
theorem dJ2_indexOfSupplementary_4cfef_52 : decode cJ2_indexOfSupplementary_4cfef 52 = .ok (.invokestatic 71, 3) := by decide +kernel
theorem dJ2_indexOfSupplementary_4cfef_55 : decode cJ2_indexOfSupplementary_4cfef 55 = .ok (.iload 5, 2) := by decide +kernel
theorem dJ2_indexOfSupplementary_4cfef_57 : decode cJ2_indexOfSupplementary_4cfef 57 = .ok (.if_icmp .ne 6, 3) := by decide +kernel
theorem dJ2_indexOfSupplementary_4cfef_60 : decode cJ2_indexOfSupplementary_4cfef 60 = .ok (.iload 6, 2) := by decide +kernel
theorem dJ2_indexOfSupplementary_4cfef_62 : decode cJ2_indexOfSupplementary_4cfef 62 = .ok (.ireturn, 1) := by decide +kernel
theorem dJ2_indexOfSupplementary_4cfef_63 : decode cJ2_indexOfSupplementary_4cfef 63 = .ok (.iinc 6 1, 3) := by decide +kernel
theorem dJ2_indexOfSupplementary_4cfef_66 : decode cJ2_indexOfSupplementary_4cfef 66 = .ok (.goto (-38), 3) := by decide +kernel
theorem dJ2_indexOfSupplementary_4cfef_69 : decode cJ2_indexOfSupplementary_4cfef 69 = .ok (.iconst (-1), 1) := by decide +kernel
theorem dJ2_indexOfSupplementary_4cfef_70 : decode cJ2_indexOfSupplementary_4cfef 70 = .ok (.ireturn, 1) := by decide +kernel
theorem dJ2_charAt_3b067_0 : decode cJ2_charAt_3b067 0 = .ok (.iload_n 1, 1) := by decide +kernel
theorem dJ2_charAt_3b067_1 : decode cJ2_charAt_3b067 1 = .ok (.aload_n 0, 1) := by decide +kernel
theorem dJ2_charAt_3b067_2 : decode cJ2_charAt_3b067 2 = .ok (.invokestatic 67, 3) := by decide +kernel
theorem dJ2_charAt_3b067_5 : decode cJ2_charAt_3b067 5 = .ok (.aload_n 0, 1) := by decide +kernel
theorem dJ2_charAt_3b067_6 : decode cJ2_charAt_3b067 6 = .ok (.iload_n 1, 1) := by decide +kernel
theorem dJ2_charAt_3b067_7 : decode cJ2_charAt_3b067 7 = .ok (.invokestatic 71, 3) := by decide +kernel
theorem dJ2_charAt_3b067_10 : decode cJ2_charAt_3b067 10 = .ok (.ireturn, 1) := by decide +kernel
theorem dJ2_checkIndex_2214a_0 : decode cJ2_checkIndex_2214a 0 = .ok (.iload_n 0, 1) := by decide +kernel
theorem dJ2_checkIndex_2214a_1 : decode cJ2_checkIndex_2214a 1 = .ok (.aload_n 1, 1) := by decide +kernel
theorem dJ2_checkIndex_2214a_2 : decode cJ2_checkIndex_2214a 2 = .ok (.invokestatic 48, 3) := by decide +kernel
theorem dJ2_checkIndex_2214a_5 : decode cJ2_checkIndex_2214a 5 = .ok (.invokestatic 414, 3) := by decide +kernel
theorem dJ2_checkIndex_2214a_8 : decode cJ2_checkIndex_2214a 8 = .ok (.return_, 1) := by decide +kernel
theorem dJ2_checkBoundsBeginEnd_d044e_0 : decode cJ2_checkBoundsBeginEnd_d044e 0 = .ok (.iload_n 0, 1) := by decide +kernel
theorem dJ2_checkBoundsBeginEnd_d044e_1 : decode cJ2_checkBoundsBeginEnd_d044e 1 = .ok (.iload_n 1, 1) := by decide +kernel
theorem dJ2_checkBoundsBeginEnd_d044e_2 : decode cJ2_checkBoundsBeginEnd_d044e 2 = .ok (.aload_n 2, 1) := by decide +kernel
theorem dJ2_checkBoundsBeginEnd_d044e_3 : decode cJ2_checkBoundsBeginEnd_d044e 3 = .ok (.invokestatic 48, 3) := by decide +kernel
theorem dJ2_checkBoundsBeginEnd_d044e_6 : decode cJ2_checkBoundsBeginEnd_d044e 6 = .ok (.invokestatic 241, 3) := by decide +kernel
theorem dJ2_checkBoundsBeginEnd_d044e_9 : decode cJ2_checkBoundsBeginEnd_d044e 9 = .ok (.return_, 1) := by decide +kernel
theorem dJ7_fill_53178_0 : decode cJ7_fill_53178 0 = .ok (.iconst 0, 1) := by decide +kernel
theorem dJ7_fill_53178_1 : decode cJ7_fill_53178 1 = .ok (.istore_n 2, 1) := by decide +kernel
theorem dJ7_fill_53178_2 : decode cJ7_fill_53178 2 = .ok (.aload_n 0, 1) := by decide +kernel
theorem dJ7_fill_53178_3 : decode cJ7_fill_53178 3 = .ok (.arraylength, 1) := by decide +kernel
theorem dJ7_fill_53178_4 : decode cJ7_fill_53178 4 = .ok (.istore_n 3, 1) := by decide +kernel
theorem dJ7_fill_53178_5 : decode cJ7_fill_53178 5 = .ok (.iload_n 2, 1) := by decide +kernel
theorem dJ7_fill_53178_6 : decode cJ7_fill_53178 6 = .ok (.iload_n 3, 1) := by decide +kernel
theorem dJ7_fill_53178_7 : decode cJ7_fill_53178 7 = .ok (.if_icmp .ge 13, 3) := by decide +kernel
theorem dJ7_fill_53178_10 : decode cJ7_fill_53178 10 = .ok (.aload_n 0, 1) := by decide +kernel
theorem dJ7_fill_53178_11 : decode cJ7_fill_53178 11 = .ok (.iload_n 2, 1) := by decide +kernel
theorem dJ7_fill_53178_12 : decode cJ7_fill_53178 12 = .ok (.iload_n 1, 1) := by decide +kernel
theorem dJ7_fill_53178_13 : decode cJ7_fill_53178 13 = .ok (.iastore, 1) := by decide +kernel
theorem dJ7_fill_53178_14 : decode cJ7_fill_53178 14 = .ok (.iinc 2 1, 3) := by decide +kernel
theorem dJ7_fill_53178_17 : decode cJ7_fill_53178 17 = .ok (.goto (-12), 3) := by decide +kernel
theorem dJ7_fill_53178_20 : decode cJ7_fill_53178 20 = .ok (.return_, 1) := by decide +kernel
theorem dJ3_checkIndex_8e157_0 : decode cJ3_checkIndex_8e157 0 = .ok (.iload_n 0, 1) := by decide +kernel
theorem dJ3_checkIndex_8e157_1 : decode cJ3_checkIndex_8e157 1 = .ok (.ifCond .lt 8, 3) := by decide +kernel
theorem dJ3_checkIndex_8e157_4 : decode cJ3_checkIndex_8e157 4 = .ok (.iload_n 0, 1) := by decide +kernel
theorem dJ3_checkIndex_8e157_5 : decode cJ3_checkIndex_8e157 5 = .ok (.iload_n 1, 1) := by decide +kernel
theorem dJ3_checkIndex_8e157_6 : decode cJ3_checkIndex_8e157 6 = .ok (.if_icmp .lt 10, 3) := by decide +kernel
theorem dJ3_checkIndex_8e157_9 : decode cJ3_checkIndex_8e157 9 = .ok (.aload_n 2, 1) := by decide +kernel
theorem dJ3_checkIndex_8e157_10 : decode cJ3_checkIndex_8e157 10 = .ok (.iload_n 0, 1) := by decide +kernel
theorem dJ3_checkIndex_8e157_11 : decode cJ3_checkIndex_8e157 11 = .ok (.iload_n 1, 1) := by decide +kernel
theorem dJ3_checkIndex_8e157_12 : decode cJ3_checkIndex_8e157 12 = .ok (.invokestatic 95, 3) := by decide +kernel
theorem dJ3_checkIndex_8e157_15 : decode cJ3_checkIndex_8e157 15 = .ok (.athrow, 1) := by decide +kernel
theorem dJ3_checkIndex_8e157_16 : decode cJ3_checkIndex_8e157 16 = .ok (.iload_n 0, 1) := by decide +kernel
theorem dJ3_checkIndex_8e157_17 : decode cJ3_checkIndex_8e157 17 = .ok (.ireturn, 1) := by decide +kernel
theorem dJ3_checkFromToIndex_8c36e_0 : decode cJ3_checkFromToIndex_8c36e 0 = .ok (.iload_n 0, 1) := by decide +kernel
theorem dJ3_checkFromToIndex_8c36e_1 : decode cJ3_checkFromToIndex_8c36e 1 = .ok (.ifCond .lt 13, 3) := by decide +kernel
theorem dJ3_checkFromToIndex_8c36e_4 : decode cJ3_checkFromToIndex_8c36e 4 = .ok (.iload_n 0, 1) := by decide +kernel
theorem dJ3_checkFromToIndex_8c36e_5 : decode cJ3_checkFromToIndex_8c36e 5 = .ok (.iload_n 1, 1) := by decide +kernel
theorem dJ3_checkFromToIndex_8c36e_6 : decode cJ3_checkFromToIndex_8c36e 6 = .ok (.if_icmp .gt 8, 3) := by decide +kernel
theorem dJ3_checkFromToIndex_8c36e_9 : decode cJ3_checkFromToIndex_8c36e 9 = .ok (.iload_n 1, 1) := by decide +kernel
theorem dJ3_checkFromToIndex_8c36e_10 : decode cJ3_checkFromToIndex_8c36e 10 = .ok (.iload_n 2, 1) := by decide +kernel
theorem dJ3_checkFromToIndex_8c36e_11 : decode cJ3_checkFromToIndex_8c36e 11 = .ok (.if_icmp .le 11, 3) := by decide +kernel
theorem dJ3_checkFromToIndex_8c36e_14 : decode cJ3_checkFromToIndex_8c36e 14 = .ok (.aload_n 3, 1) := by decide +kernel
theorem dJ3_checkFromToIndex_8c36e_15 : decode cJ3_checkFromToIndex_8c36e 15 = .ok (.iload_n 0, 1) := by decide +kernel
theorem dJ3_checkFromToIndex_8c36e_16 : decode cJ3_checkFromToIndex_8c36e 16 = .ok (.iload_n 1, 1) := by decide +kernel
theorem dJ3_checkFromToIndex_8c36e_17 : decode cJ3_checkFromToIndex_8c36e 17 = .ok (.iload_n 2, 1) := by decide +kernel
theorem dJ3_checkFromToIndex_8c36e_18 : decode cJ3_checkFromToIndex_8c36e 18 = .ok (.invokestatic 99, 3) := by decide +kernel
theorem dJ3_checkFromToIndex_8c36e_21 : decode cJ3_checkFromToIndex_8c36e 21 = .ok (.athrow, 1) := by decide +kernel
theorem dJ3_checkFromToIndex_8c36e_22 : decode cJ3_checkFromToIndex_8c36e 22 = .ok (.iload_n 0, 1) := by decide +kernel
theorem dJ3_checkFromToIndex_8c36e_23 : decode cJ3_checkFromToIndex_8c36e 23 = .ok (.ireturn, 1) := by decide +kernel
theorem dL_law_0 : decode cL_law 0 = .ok (.new 7, 3) := by decide +kernel
theorem dL_law_3 : decode cL_law 3 = .ok (.dup, 1) := by decide +kernel
theorem dL_law_4 : decode cL_law 4 = .ok (.invokespecial 9, 3) := by decide +kernel
theorem dL_law_7 : decode cL_law 7 = .ok (.astore_n 1, 1) := by decide +kernel
theorem dL_law_8 : decode cL_law 8 = .ok (.new 10, 3) := by decide +kernel
theorem dL_law_11 : decode cL_law 11 = .ok (.dup, 1) := by decide +kernel
theorem dL_law_12 : decode cL_law 12 = .ok (.invokespecial 12, 3) := by decide +kernel
theorem dL_law_15 : decode cL_law 15 = .ok (.astore_n 2, 1) := by decide +kernel
theorem dL_law_16 : decode cL_law 16 = .ok (.iconst 0, 1) := by decide +kernel
theorem dL_law_17 : decode cL_law 17 = .ok (.istore_n 3, 1) := by decide +kernel
theorem dL_law_18 : decode cL_law 18 = .ok (.iload_n 3, 1) := by decide +kernel
theorem dL_law_19 : decode cL_law 19 = .ok (.aload_n 0, 1) := by decide +kernel
theorem dL_law_20 : decode cL_law 20 = .ok (.arraylength, 1) := by decide +kernel
theorem dL_law_21 : decode cL_law 21 = .ok (.bipush 6, 2) := by decide +kernel
theorem dL_law_23 : decode cL_law 23 = .ok (.isub, 1) := by decide +kernel
theorem dL_law_24 : decode cL_law 24 = .ok (.if_icmp .gt 1202, 3) := by decide +kernel
theorem dL_law_27 : decode cL_law 27 = .ok (.aload_n 0, 1) := by decide +kernel
theorem dL_law_28 : decode cL_law 28 = .ok (.iload_n 3, 1) := by decide +kernel
theorem dL_law_29 : decode cL_law 29 = .ok (.iaload, 1) := by decide +kernel
theorem dL_law_30 : decode cL_law 30 = .ok (.bipush 63, 2) := by decide +kernel
theorem dL_law_32 : decode cL_law 32 = .ok (.iand, 1) := by decide +kernel
theorem dL_law_33 : decode cL_law 33 = .ok (.tableswitch 1187 0 32 #[147, 190, 223, 286, 309, 342, 365, 398, 421, 444, 477, 510, 553, 586, 619, 662, 695, 718, 751, 784, 797, 820, 843, 856, 889, 902, 945, 968, 1021, 1064, 1127, 1150, 1173], 147) := by decide +kernel
theorem dL_law_180 : decode cL_law 180 = .ok (.aload_n 1, 1) := by decide +kernel
theorem dL_law_181 : decode cL_law 181 = .ok (.aload_n 0, 1) := by decide +kernel
theorem dL_law_182 : decode cL_law 182 = .ok (.iload_n 3, 1) := by decide +kernel
theorem dL_law_183 : decode cL_law 183 = .ok (.iconst 1, 1) := by decide +kernel
theorem dL_law_184 : decode cL_law 184 = .ok (.iadd, 1) := by decide +kernel
theorem dL_law_185 : decode cL_law 185 = .ok (.iaload, 1) := by decide +kernel
theorem dL_law_186 : decode cL_law 186 = .ok (.aload_n 0, 1) := by decide +kernel
theorem dL_law_187 : decode cL_law 187 = .ok (.iload_n 3, 1) := by decide +kernel
theorem dL_law_188 : decode cL_law 188 = .ok (.iconst 2, 1) := by decide +kernel
theorem dL_law_189 : decode cL_law 189 = .ok (.iadd, 1) := by decide +kernel
theorem dL_law_190 : decode cL_law 190 = .ok (.iaload, 1) := by decide +kernel
theorem dL_law_191 : decode cL_law 191 = .ok (.aload_n 0, 1) := by decide +kernel
theorem dL_law_192 : decode cL_law 192 = .ok (.iload_n 3, 1) := by decide +kernel
theorem dL_law_193 : decode cL_law 193 = .ok (.iconst 3, 1) := by decide +kernel
theorem dL_law_194 : decode cL_law 194 = .ok (.iadd, 1) := by decide +kernel
theorem dL_law_195 : decode cL_law 195 = .ok (.iaload, 1) := by decide +kernel
theorem dL_law_196 : decode cL_law 196 = .ok (.invokevirtual 13, 3) := by decide +kernel
theorem dL_law_199 : decode cL_law 199 = .ok (.aload_n 2, 1) := by decide +kernel
theorem dL_law_200 : decode cL_law 200 = .ok (.aload_n 0, 1) := by decide +kernel
theorem dL_law_201 : decode cL_law 201 = .ok (.iload_n 3, 1) := by decide +kernel
theorem dL_law_202 : decode cL_law 202 = .ok (.iconst 1, 1) := by decide +kernel
theorem dL_law_203 : decode cL_law 203 = .ok (.iadd, 1) := by decide +kernel
theorem dL_law_204 : decode cL_law 204 = .ok (.iaload, 1) := by decide +kernel
theorem dL_law_205 : decode cL_law 205 = .ok (.aload_n 0, 1) := by decide +kernel
theorem dL_law_206 : decode cL_law 206 = .ok (.iload_n 3, 1) := by decide +kernel
theorem dL_law_207 : decode cL_law 207 = .ok (.iconst 2, 1) := by decide +kernel
theorem dL_law_208 : decode cL_law 208 = .ok (.iadd, 1) := by decide +kernel
theorem dL_law_209 : decode cL_law 209 = .ok (.iaload, 1) := by decide +kernel
theorem dL_law_210 : decode cL_law 210 = .ok (.aload_n 0, 1) := by decide +kernel
theorem dL_law_211 : decode cL_law 211 = .ok (.iload_n 3, 1) := by decide +kernel
theorem dL_law_212 : decode cL_law 212 = .ok (.iconst 3, 1) := by decide +kernel
theorem dL_law_213 : decode cL_law 213 = .ok (.iadd, 1) := by decide +kernel
theorem dL_law_214 : decode cL_law 214 = .ok (.iaload, 1) := by decide +kernel
theorem dL_law_215 : decode cL_law 215 = .ok (.invokevirtual 17, 3) := by decide +kernel
theorem dL_law_218 : decode cL_law 218 = .ok (.if_icmp .eq 1002, 3) := by decide +kernel
theorem dL_law_221 : decode cL_law 221 = .ok (.iconst 0, 1) := by decide +kernel
theorem dL_law_222 : decode cL_law 222 = .ok (.ireturn, 1) := by decide +kernel
theorem dL_law_223 : decode cL_law 223 = .ok (.aload_n 1, 1) := by decide +kernel
theorem dL_law_224 : decode cL_law 224 = .ok (.aload_n 0, 1) := by decide +kernel
theorem dL_law_225 : decode cL_law 225 = .ok (.iload_n 3, 1) := by decide +kernel
theorem dL_law_226 : decode cL_law 226 = .ok (.iconst 1, 1) := by decide +kernel
theorem dL_law_227 : decode cL_law 227 = .ok (.iadd, 1) := by decide +kernel
theorem dL_law_228 : decode cL_law 228 = .ok (.iaload, 1) := by decide +kernel
theorem dL_law_229 : decode cL_law 229 = .ok (.aload_n 0, 1) := by decide +kernel
theorem dL_law_230 : decode cL_law 230 = .ok (.iload_n 3, 1) := by decide +kernel
theorem dL_law_231 : decode cL_law 231 = .ok (.iconst 2, 1) := by decide +kernel
theorem dL_law_232 : decode cL_law 232 = .ok (.iadd, 1) := by decide +kernel
theorem dL_law_233 : decode cL_law 233 = .ok (.iaload, 1) := by decide +kernel
theorem dL_law_234 : decode cL_law 234 = .ok (.invokevirtual 18, 3) := by decide +kernel
theorem dL_law_237 : decode cL_law 237 = .ok (.aload_n 2, 1) := by decide +kernel
theorem dL_law_238 : decode cL_law 238 = .ok (.aload_n 0, 1) := by decide +kernel
theorem dL_law_239 : decode cL_law 239 = .ok (.iload_n 3, 1) := by decide +kernel
theorem dL_law_240 : decode cL_law 240 = .ok (.iconst 1, 1) := by decide +kernel
theorem dL_law_241 : decode cL_law 241 = .ok (.iadd, 1) := by decide +kernel
theorem dL_law_242 : decode cL_law 242 = .ok (.iaload, 1) := by decide +kernel
theorem dL_law_243 : decode cL_law 243 = .ok (.aload_n 0, 1) := by decide +kernel
theorem dL_law_244 : decode cL_law 244 = .ok (.iload_n 3, 1) := by decide +kernel
theorem dL_law_245 : decode cL_law 245 = .ok (.iconst 2, 1) := by decide +kernel
theorem dL_law_246 : decode cL_law 246 = .ok (.iadd, 1) := by decide +kernel
theorem dL_law_247 : decode cL_law 247 = .ok (.iaload, 1) := by decide +kernel
theorem dL_law_248 : decode cL_law 248 = .ok (.invokevirtual 22, 3) := by decide +kernel
theorem dL_law_251 : decode cL_law 251 = .ok (.if_icmp .eq 969, 3) := by decide +kernel
theorem dL_law_254 : decode cL_law 254 = .ok (.iconst 0, 1) := by decide +kernel
theorem dL_law_255 : decode cL_law 255 = .ok (.ireturn, 1) := by decide +kernel
theorem dL_law_256 : decode cL_law 256 = .ok (.aload_n 1, 1) := by decide +kernel
theorem dL_law_257 : decode cL_law 257 = .ok (.aload_n 0, 1) := by decide +kernel
theorem dL_law_258 : decode cL_law 258 = .ok (.iload_n 3, 1) := by decide +kernel
theorem dL_law_259 : decode cL_law 259 = .ok (.iconst 1, 1) := by decide +kernel
theorem dL_law_260 : decode cL_law 260 = .ok (.iadd, 1) := by decide +kernel
theorem dL_law_261 : decode cL_law 261 = .ok (.iaload, 1) := by decide +kernel
theorem dL_law_262 : decode cL_law 262 = .ok (.aload_n 0, 1) := by decide +kernel
theorem dL_law_263 : decode cL_law 263 = .ok (.iload_n 3, 1) := by decide +kernel
theorem dL_law_264 : decode cL_law 264 = .ok (.iconst 2, 1) := by decide +kernel
theorem dL_law_265 : decode cL_law 265 = .ok (.iadd, 1) := by decide +kernel
theorem dL_law_266 : decode cL_law 266 = .ok (.iaload, 1) := by decide +kernel
theorem dL_law_267 : decode cL_law 267 = .ok (.aload_n 0, 1) := by decide +kernel
theorem dL_law_268 : decode cL_law 268 = .ok (.iload_n 3, 1) := by decide +kernel
theorem dL_law_269 : decode cL_law 269 = .ok (.iconst 3, 1) := by decide +kernel
theorem dL_law_270 : decode cL_law 270 = .ok (.iadd, 1) := by decide +kernel
theorem dL_law_271 : decode cL_law 271 = .ok (.iaload, 1) := by decide +kernel
theorem dL_law_272 : decode cL_law 272 = .ok (.aload_n 0, 1) := by decide +kernel
theorem dL_law_273 : decode cL_law 273 = .ok (.iload_n 3, 1) := by decide +kernel
theorem dL_law_274 : decode cL_law 274 = .ok (.iconst 4, 1) := by decide +kernel
theorem dL_law_275 : decode cL_law 275 = .ok (.iadd, 1) := by decide +kernel
theorem dL_law_276 : decode cL_law 276 = .ok (.iaload, 1) := by decide +kernel
theorem dL_law_277 : decode cL_law 277 = .ok (.aload_n 0, 1) := by decide +kernel
theorem dL_law_278 : decode cL_law 278 = .ok (.iload_n 3, 1) := by decide +kernel
theorem dL_law_279 : decode cL_law 279 = .ok (.iconst 5, 1) := by decide +kernel
theorem dL_law_280 : decode cL_law 280 = .ok (.iadd, 1) := by decide +kernel
theorem dL_law_281 : decode cL_law 281 = .ok (.iaload, 1) := by decide +kernel
theorem dL_law_282 : decode cL_law 282 = .ok (.invokevirtual 23, 3) := by decide +kernel
theorem dL_law_285 : decode cL_law 285 = .ok (.aload_n 2, 1) := by decide +kernel
theorem dL_law_286 : decode cL_law 286 = .ok (.aload_n 0, 1) := by decide +kernel
theorem dL_law_287 : decode cL_law 287 = .ok (.iload_n 3, 1) := by decide +kernel
theorem dL_law_288 : decode cL_law 288 = .ok (.iconst 1, 1) := by decide +kernel
theorem dL_law_289 : decode cL_law 289 = .ok (.iadd, 1) := by decide +kernel
theorem dL_law_290 : decode cL_law 290 = .ok (.iaload, 1) := by decide +kernel
theorem dL_law_291 : decode cL_law 291 = .ok (.aload_n 0, 1) := by decide +kernel
theorem dL_law_292 : decode cL_law 292 = .ok (.iload_n 3, 1) := by decide +kernel
theorem dL_law_293 : decode cL_law 293 = .ok (.iconst 2, 1) := by decide +kernel
theorem dL_law_294 : decode cL_law 294 = .ok (.iadd, 1) := by decide +kernel
theorem dL_law_295 : decode cL_law 295 = .ok (.iaload, 1) := by decide +kernel
theorem dL_law_296 : decode cL_law 296 = .ok (.aload_n 0, 1) := by decide +kernel
theorem dL_law_297 : decode cL_law 297 = .ok (.iload_n 3, 1) := by decide +kernel
theorem dL_law_298 : decode cL_law 298 = .ok (.iconst 3, 1) := by decide +kernel
theorem dL_law_299 : decode cL_law 299 = .ok (.iadd, 1) := by decide +kernel
theorem dL_law_300 : decode cL_law 300 = .ok (.iaload, 1) := by decide +kernel
theorem dL_law_301 : decode cL_law 301 = .ok (.aload_n 0, 1) := by decide +kernel
theorem dL_law_302 : decode cL_law 302 = .ok (.iload_n 3, 1) := by decide +kernel
theorem dL_law_303 : decode cL_law 303 = .ok (.iconst 4, 1) := by decide +kernel
theorem dL_law_304 : decode cL_law 304 = .ok (.iadd, 1) := by decide +kernel
theorem dL_law_305 : decode cL_law 305 = .ok (.iaload, 1) := by decide +kernel
theorem dL_law_306 : decode cL_law 306 = .ok (.aload_n 0, 1) := by decide +kernel
theorem dL_law_307 : decode cL_law 307 = .ok (.iload_n 3, 1) := by decide +kernel
theorem dL_law_308 : decode cL_law 308 = .ok (.iconst 5, 1) := by decide +kernel
theorem dL_law_309 : decode cL_law 309 = .ok (.iadd, 1) := by decide +kernel
theorem dL_law_310 : decode cL_law 310 = .ok (.iaload, 1) := by decide +kernel
theorem dL_law_311 : decode cL_law 311 = .ok (.invokevirtual 27, 3) := by decide +kernel
theorem dL_law_314 : decode cL_law 314 = .ok (.if_icmp .eq 906, 3) := by decide +kernel
theorem dL_law_317 : decode cL_law 317 = .ok (.iconst 0, 1) := by decide +kernel
theorem dL_law_318 : decode cL_law 318 = .ok (.ireturn, 1) := by decide +kernel
theorem dL_law_319 : decode cL_law 319 = .ok (.aload_n 1, 1) := by decide +kernel
theorem dL_law_320 : decode cL_law 320 = .ok (.aload_n 0, 1) := by decide +kernel
theorem dL_law_321 : decode cL_law 321 = .ok (.iload_n 3, 1) := by decide +kernel
theorem dL_law_322 : decode cL_law 322 = .ok (.iconst 1, 1) := by decide +kernel
theorem dL_law_323 : decode cL_law 323 = .ok (.iadd, 1) := by decide +kernel
theorem dL_law_324 : decode cL_law 324 = .ok (.iaload, 1) := by decide +kernel
theorem dL_law_325 : decode cL_law 325 = .ok (.invokevirtual 28, 3) := by decide +kernel
theorem dL_law_328 : decode cL_law 328 = .ok (.aload_n 2, 1) := by decide +kernel
theorem dL_law_329 : decode cL_law 329 = .ok (.aload_n 0, 1) := by decide +kernel
theorem dL_law_330 : decode cL_law 330 = .ok (.iload_n 3, 1) := by decide +kernel
theorem dL_law_331 : decode cL_law 331 = .ok (.iconst 1, 1) := by decide +kernel
theorem dL_law_332 : decode cL_law 332 = .ok (.iadd, 1) := by decide +kernel
theorem dL_law_333 : decode cL_law 333 = .ok (.iaload, 1) := by decide +kernel
theorem dL_law_334 : decode cL_law 334 = .ok (.invokevirtual 32, 3) := by decide +kernel
theorem dL_law_337 : decode cL_law 337 = .ok (.if_icmp .eq 883, 3) := by decide +kernel
theorem dL_law_340 : decode cL_law 340 = .ok (.iconst 0, 1) := by decide +kernel
theorem dL_law_341 : decode cL_law 341 = .ok (.ireturn, 1) := by decide +kernel
theorem dL_law_342 : decode cL_law 342 = .ok (.aload_n 1, 1) := by decide +kernel
theorem dL_law_343 : decode cL_law 343 = .ok (.aload_n 0, 1) := by decide +kernel
theorem dL_law_344 : decode cL_law 344 = .ok (.iload_n 3, 1) := by decide +kernel
theorem dL_law_345 : decode cL_law 345 = .ok (.iconst 1, 1) := by decide +kernel
theorem dL_law_346 : decode cL_law 346 = .ok (.iadd, 1) := by decide +kernel
theorem dL_law_347 : decode cL_law 347 = .ok (.iaload, 1) := by decide +kernel
theorem dL_law_348 : decode cL_law 348 = .ok (.aload_n 0, 1) := by decide +kernel
theorem dL_law_349 : decode cL_law 349 = .ok (.iload_n 3, 1) := by decide +kernel
theorem dL_law_350 : decode cL_law 350 = .ok (.iconst 2, 1) := by decide +kernel
theorem dL_law_351 : decode cL_law 351 = .ok (.iadd, 1) := by decide +kernel
theorem dL_law_352 : decode cL_law 352 = .ok (.iaload, 1) := by decide +kernel
theorem dL_law_353 : decode cL_law 353 = .ok (.invokevirtual 33, 3) := by decide +kernel
theorem dL_law_356 : decode cL_law 356 = .ok (.aload_n 2, 1) := by decide +kernel
theorem dL_law_357 : decode cL_law 357 = .ok (.aload_n 0, 1) := by decide +kernel
theorem dL_law_358 : decode cL_law 358 = .ok (.iload_n 3, 1) := by decide +kernel
theorem dL_law_359 : decode cL_law 359 = .ok (.iconst 1, 1) := by decide +kernel
theorem dL_law_360 : decode cL_law 360 = .ok (.iadd, 1) := by decide +kernel
theorem dL_law_361 : decode cL_law 361 = .ok (.iaload, 1) := by decide +kernel
theorem dL_law_362 : decode cL_law 362 = .ok (.aload_n 0, 1) := by decide +kernel
theorem dL_law_363 : decode cL_law 363 = .ok (.iload_n 3, 1) := by decide +kernel
theorem dL_law_364 : decode cL_law 364 = .ok (.iconst 2, 1) := by decide +kernel
theorem dL_law_365 : decode cL_law 365 = .ok (.iadd, 1) := by decide +kernel
theorem dL_law_366 : decode cL_law 366 = .ok (.iaload, 1) := by decide +kernel
theorem dL_law_367 : decode cL_law 367 = .ok (.invokevirtual 36, 3) := by decide +kernel
theorem dL_law_370 : decode cL_law 370 = .ok (.if_icmp .eq 850, 3) := by decide +kernel
theorem dL_law_373 : decode cL_law 373 = .ok (.iconst 0, 1) := by decide +kernel
theorem dL_law_374 : decode cL_law 374 = .ok (.ireturn, 1) := by decide +kernel
theorem dL_law_375 : decode cL_law 375 = .ok (.aload_n 1, 1) := by decide +kernel
theorem dL_law_376 : decode cL_law 376 = .ok (.aload_n 0, 1) := by decide +kernel
theorem dL_law_377 : decode cL_law 377 = .ok (.iload_n 3, 1) := by decide +kernel
theorem dL_law_378 : decode cL_law 378 = .ok (.iconst 1, 1) := by decide +kernel
theorem dL_law_379 : decode cL_law 379 = .ok (.iadd, 1) := by decide +kernel
theorem dL_law_380 : decode cL_law 380 = .ok (.iaload, 1) := by decide +kernel
theorem dL_law_381 : decode cL_law 381 = .ok (.invokevirtual 37, 3) := by decide +kernel
theorem dL_law_384 : decode cL_law 384 = .ok (.aload_n 2, 1) := by decide +kernel
theorem dL_law_385 : decode cL_law 385 = .ok (.aload_n 0, 1) := by decide +kernel
theorem dL_law_386 : decode cL_law 386 = .ok (.iload_n 3, 1) := by decide +kernel
theorem dL_law_387 : decode cL_law 387 = .ok (.iconst 1, 1) := by decide +kernel
theorem dL_law_388 : decode cL_law 388 = .ok (.iadd, 1) := by decide +kernel
theorem dL_law_389 : decode cL_law 389 = .ok (.iaload, 1) := by decide +kernel
theorem dL_law_390 : decode cL_law 390 = .ok (.invokevirtual 40, 3) := by decide +kernel
theorem dL_law_393 : decode cL_law 393 = .ok (.if_icmp .eq 827, 3) := by decide +kernel
theorem dL_law_396 : decode cL_law 396 = .ok (.iconst 0, 1) := by decide +kernel
theorem dL_law_397 : decode cL_law 397 = .ok (.ireturn, 1) := by decide +kernel
theorem dL_law_398 : decode cL_law 398 = .ok (.aload_n 1, 1) := by decide +kernel
theorem dL_law_399 : decode cL_law 399 = .ok (.aload_n 0, 1) := by decide +kernel
theorem dL_law_400 : decode cL_law 400 = .ok (.iload_n 3, 1) := by decide +kernel
theorem dL_law_401 : decode cL_law 401 = .ok (.iconst 1, 1) := by decide +kernel
theorem dL_law_402 : decode cL_law 402 = .ok (.iadd, 1) := by decide +kernel
theorem dL_law_403 : decode cL_law 403 = .ok (.iaload, 1) := by decide +kernel
theorem dL_law_404 : decode cL_law 404 = .ok (.aload_n 0, 1) := by decide +kernel
theorem dL_law_405 : decode cL_law 405 = .ok (.iload_n 3, 1) := by decide +kernel
theorem dL_law_406 : decode cL_law 406 = .ok (.iconst 2, 1) := by decide +kernel
theorem dL_law_407 : decode cL_law 407 = .ok (.iadd, 1) := by decide +kernel
theorem dL_law_408 : decode cL_law 408 = .ok (.iaload, 1) := by decide +kernel
theorem dL_law_409 : decode cL_law 409 = .ok (.invokevirtual 41, 3) := by decide +kernel
theorem dL_law_412 : decode cL_law 412 = .ok (.aload_n 2, 1) := by decide +kernel
theorem dL_law_413 : decode cL_law 413 = .ok (.aload_n 0, 1) := by decide +kernel
theorem dL_law_414 : decode cL_law 414 = .ok (.iload_n 3, 1) := by decide +kernel
theorem dL_law_415 : decode cL_law 415 = .ok (.iconst 1, 1) := by decide +kernel
theorem dL_law_416 : decode cL_law 416 = .ok (.iadd, 1) := by decide +kernel
theorem dL_law_417 : decode cL_law 417 = .ok (.iaload, 1) := by decide +kernel
theorem dL_law_418 : decode cL_law 418 = .ok (.aload_n 0, 1) := by decide +kernel
theorem dL_law_419 : decode cL_law 419 = .ok (.iload_n 3, 1) := by decide +kernel
theorem dL_law_420 : decode cL_law 420 = .ok (.iconst 2, 1) := by decide +kernel
theorem dL_law_421 : decode cL_law 421 = .ok (.iadd, 1) := by decide +kernel
theorem dL_law_422 : decode cL_law 422 = .ok (.iaload, 1) := by decide +kernel
theorem dL_law_423 : decode cL_law 423 = .ok (.invokevirtual 44, 3) := by decide +kernel
theorem dL_law_426 : decode cL_law 426 = .ok (.if_icmp .eq 794, 3) := by decide +kernel
theorem dL_law_429 : decode cL_law 429 = .ok (.iconst 0, 1) := by decide +kernel
theorem dL_law_430 : decode cL_law 430 = .ok (.ireturn, 1) := by decide +kernel
theorem dL_law_431 : decode cL_law 431 = .ok (.aload_n 1, 1) := by decide +kernel
theorem dL_law_432 : decode cL_law 432 = .ok (.aload_n 0, 1) := by decide +kernel
theorem dL_law_433 : decode cL_law 433 = .ok (.iload_n 3, 1) := by decide +kernel
theorem dL_law_434 : decode cL_law 434 = .ok (.iconst 1, 1) := by decide +kernel
theorem dL_law_435 : decode cL_law 435 = .ok (.iadd, 1) := by decide +kernel
theorem dL_law_436 : decode cL_law 436 = .ok (.iaload, 1) := by decide +kernel
theorem dL_law_437 : decode cL_law 437 = .ok (.invokevirtual 45, 3) := by decide +kernel
theorem dL_law_440 : decode cL_law 440 = .ok (.aload_n 2, 1) := by decide +kernel
theorem dL_law_441 : decode cL_law 441 = .ok (.aload_n 0, 1) := by decide +kernel
theorem dL_law_442 : decode cL_law 442 = .ok (.iload_n 3, 1) := by decide +kernel
theorem dL_law_443 : decode cL_law 443 = .ok (.iconst 1, 1) := by decide +kernel
theorem dL_law_444 : decode cL_law 444 = .ok (.iadd, 1) := by decide +kernel
theorem dL_law_445 : decode cL_law 445 = .ok (.iaload, 1) := by decide +kernel
theorem dL_law_446 : decode cL_law 446 = .ok (.invokevirtual 48, 3) := by decide +kernel
theorem dL_law_449 : decode cL_law 449 = .ok (.if_icmp .eq 771, 3) := by decide +kernel
theorem dL_law_452 : decode cL_law 452 = .ok (.iconst 0, 1) := by decide +kernel
theorem dL_law_453 : decode cL_law 453 = .ok (.ireturn, 1) := by decide +kernel
theorem dL_law_454 : decode cL_law 454 = .ok (.aload_n 1, 1) := by decide +kernel
theorem dL_law_455 : decode cL_law 455 = .ok (.aload_n 0, 1) := by decide +kernel
theorem dL_law_456 : decode cL_law 456 = .ok (.iload_n 3, 1) := by decide +kernel
theorem dL_law_457 : decode cL_law 457 = .ok (.iconst 1, 1) := by decide +kernel
theorem dL_law_458 : decode cL_law 458 = .ok (.iadd, 1) := by decide +kernel
theorem dL_law_459 : decode cL_law 459 = .ok (.iaload, 1) := by decide +kernel
theorem dL_law_460 : decode cL_law 460 = .ok (.invokevirtual 49, 3) := by decide +kernel
theorem dL_law_463 : decode cL_law 463 = .ok (.aload_n 2, 1) := by decide +kernel
theorem dL_law_464 : decode cL_law 464 = .ok (.aload_n 0, 1) := by decide +kernel
theorem dL_law_465 : decode cL_law 465 = .ok (.iload_n 3, 1) := by decide +kernel
theorem dL_law_466 : decode cL_law 466 = .ok (.iconst 1, 1) := by decide +kernel
theorem dL_law_467 : decode cL_law 467 = .ok (.iadd, 1) := by decide +kernel
theorem dL_law_468 : decode cL_law 468 = .ok (.iaload, 1) := by decide +kernel
theorem dL_law_469 : decode cL_law 469 = .ok (.invokevirtual 52, 3) := by decide +kernel
theorem dL_law_472 : decode cL_law 472 = .ok (.if_icmp .eq 748, 3) := by decide +kernel
theorem dL_law_475 : decode cL_law 475 = .ok (.iconst 0, 1) := by decide +kernel
theorem dL_law_476 : decode cL_law 476 = .ok (.ireturn, 1) := by decide +kernel
theorem dL_law_477 : decode cL_law 477 = .ok (.aload_n 1, 1) := by decide +kernel
theorem dL_law_478 : decode cL_law 478 = .ok (.aload_n 0, 1) := by decide +kernel
theorem dL_law_479 : decode cL_law 479 = .ok (.iload_n 3, 1) := by decide +kernel
theorem dL_law_480 : decode cL_law 480 = .ok (.iconst 1, 1) := by decide +kernel
theorem dL_law_481 : decode cL_law 481 = .ok (.iadd, 1) := by decide +kernel
theorem dL_law_482 : decode cL_law 482 = .ok (.iaload, 1) := by decide +kernel
theorem dL_law_483 : decode cL_law 483 = .ok (.aload_n 0, 1) := by decide +kernel
theorem dL_law_484 : decode cL_law 484 = .ok (.iload_n 3, 1) := by decide +kernel
theorem dL_law_485 : decode cL_law 485 = .ok (.iconst 2, 1) := by decide +kernel
theorem dL_law_486 : decode cL_law 486 = .ok (.iadd, 1) := by decide +kernel
theorem dL_law_487 : decode cL_law 487 = .ok (.iaload, 1) := by decide +kernel
theorem dL_law_488 : decode cL_law 488 = .ok (.invokevirtual 53, 3) := by decide +kernel
theorem dL_law_491 : decode cL_law 491 = .ok (.aload_n 2, 1) := by decide +kernel
theorem dL_law_492 : decode cL_law 492 = .ok (.aload_n 0, 1) := by decide +kernel
theorem dL_law_493 : decode cL_law 493 = .ok (.iload_n 3, 1) := by decide +kernel
theorem dL_law_494 : decode cL_law 494 = .ok (.iconst 1, 1) := by decide +kernel
theorem dL_law_495 : decode cL_law 495 = .ok (.iadd, 1) := by decide +kernel
theorem dL_law_496 : decode cL_law 496 = .ok (.iaload, 1) := by decide +kernel
theorem dL_law_497 : decode cL_law 497 = .ok (.aload_n 0, 1) := by decide +kernel
theorem dL_law_498 : decode cL_law 498 = .ok (.iload_n 3, 1) := by decide +kernel
theorem dL_law_499 : decode cL_law 499 = .ok (.iconst 2, 1) := by decide +kernel
theorem dL_law_500 : decode cL_law 500 = .ok (.iadd, 1) := by decide +kernel
theorem dL_law_501 : decode cL_law 501 = .ok (.iaload, 1) := by decide +kernel
theorem dL_law_502 : decode cL_law 502 = .ok (.invokevirtual 56, 3) := by decide +kernel
theorem dL_law_505 : decode cL_law 505 = .ok (.if_icmp .eq 715, 3) := by decide +kernel
theorem dL_law_508 : decode cL_law 508 = .ok (.iconst 0, 1) := by decide +kernel
theorem dL_law_509 : decode cL_law 509 = .ok (.ireturn, 1) := by decide +kernel
theorem dL_law_510 : decode cL_law 510 = .ok (.aload_n 1, 1) := by decide +kernel
theorem dL_law_511 : decode cL_law 511 = .ok (.aload_n 0, 1) := by decide +kernel
theorem dL_law_512 : decode cL_law 512 = .ok (.iload_n 3, 1) := by decide +kernel
theorem dL_law_513 : decode cL_law 513 = .ok (.iconst 1, 1) := by decide +kernel
theorem dL_law_514 : decode cL_law 514 = .ok (.iadd, 1) := by decide +kernel
theorem dL_law_515 : decode cL_law 515 = .ok (.iaload, 1) := by decide +kernel
theorem dL_law_516 : decode cL_law 516 = .ok (.aload_n 0, 1) := by decide +kernel
theorem dL_law_517 : decode cL_law 517 = .ok (.iload_n 3, 1) := by decide +kernel
theorem dL_law_518 : decode cL_law 518 = .ok (.iconst 2, 1) := by decide +kernel
theorem dL_law_519 : decode cL_law 519 = .ok (.iadd, 1) := by decide +kernel
theorem dL_law_520 : decode cL_law 520 = .ok (.iaload, 1) := by decide +kernel
theorem dL_law_521 : decode cL_law 521 = .ok (.invokevirtual 57, 3) := by decide +kernel
theorem dL_law_524 : decode cL_law 524 = .ok (.aload_n 2, 1) := by decide +kernel
theorem dL_law_525 : decode cL_law 525 = .ok (.aload_n 0, 1) := by decide +kernel
theorem dL_law_526 : decode cL_law 526 = .ok (.iload_n 3, 1) := by decide +kernel
theorem dL_law_527 : decode cL_law 527 = .ok (.iconst 1, 1) := by decide +kernel
theorem dL_law_528 : decode cL_law 528 = .ok (.iadd, 1) := by decide +kernel
theorem dL_law_529 : decode cL_law 529 = .ok (.iaload, 1) := by decide +kernel
theorem dL_law_530 : decode cL_law 530 = .ok (.aload_n 0, 1) := by decide +kernel
theorem dL_law_531 : decode cL_law 531 = .ok (.iload_n 3, 1) := by decide +kernel
theorem dL_law_532 : decode cL_law 532 = .ok (.iconst 2, 1) := by decide +kernel
theorem dL_law_533 : decode cL_law 533 = .ok (.iadd, 1) := by decide +kernel
theorem dL_law_534 : decode cL_law 534 = .ok (.iaload, 1) := by decide +kernel
theorem dL_law_535 : decode cL_law 535 = .ok (.invokevirtual 60, 3) := by decide +kernel
theorem dL_law_538 : decode cL_law 538 = .ok (.if_icmp .eq 682, 3) := by decide +kernel
theorem dL_law_541 : decode cL_law 541 = .ok (.iconst 0, 1) := by decide +kernel
theorem dL_law_542 : decode cL_law 542 = .ok (.ireturn, 1) := by decide +kernel
theorem dL_law_543 : decode cL_law 543 = .ok (.aload_n 1, 1) := by decide +kernel
theorem dL_law_544 : decode cL_law 544 = .ok (.aload_n 0, 1) := by decide +kernel
theorem dL_law_545 : decode cL_law 545 = .ok (.iload_n 3, 1) := by decide +kernel
theorem dL_law_546 : decode cL_law 546 = .ok (.iconst 1, 1) := by decide +kernel
theorem dL_law_547 : decode cL_law 547 = .ok (.iadd, 1) := by decide +kernel
theorem dL_law_548 : decode cL_law 548 = .ok (.iaload, 1) := by decide +kernel
theorem dL_law_549 : decode cL_law 549 = .ok (.aload_n 0, 1) := by decide +kernel
theorem dL_law_550 : decode cL_law 550 = .ok (.iload_n 3, 1) := by decide +kernel
theorem dL_law_551 : decode cL_law 551 = .ok (.iconst 2, 1) := by decide +kernel
theorem dL_law_552 : decode cL_law 552 = .ok (.iadd, 1) := by decide +kernel
theorem dL_law_553 : decode cL_law 553 = .ok (.iaload, 1) := by decide +kernel
theorem dL_law_554 : decode cL_law 554 = .ok (.aload_n 0, 1) := by decide +kernel
theorem dL_law_555 : decode cL_law 555 = .ok (.iload_n 3, 1) := by decide +kernel
theorem dL_law_556 : decode cL_law 556 = .ok (.iconst 3, 1) := by decide +kernel
theorem dL_law_557 : decode cL_law 557 = .ok (.iadd, 1) := by decide +kernel
theorem dL_law_558 : decode cL_law 558 = .ok (.iaload, 1) := by decide +kernel
theorem dL_law_559 : decode cL_law 559 = .ok (.invokevirtual 61, 3) := by decide +kernel
theorem dL_law_562 : decode cL_law 562 = .ok (.aload_n 2, 1) := by decide +kernel
theorem dL_law_563 : decode cL_law 563 = .ok (.aload_n 0, 1) := by decide +kernel
theorem dL_law_564 : decode cL_law 564 = .ok (.iload_n 3, 1) := by decide +kernel
theorem dL_law_565 : decode cL_law 565 = .ok (.iconst 1, 1) := by decide +kernel
theorem dL_law_566 : decode cL_law 566 = .ok (.iadd, 1) := by decide +kernel
theorem dL_law_567 : decode cL_law 567 = .ok (.iaload, 1) := by decide +kernel
theorem dL_law_568 : decode cL_law 568 = .ok (.aload_n 0, 1) := by decide +kernel
theorem dL_law_569 : decode cL_law 569 = .ok (.iload_n 3, 1) := by decide +kernel
theorem dL_law_570 : decode cL_law 570 = .ok (.iconst 2, 1) := by decide +kernel
theorem dL_law_571 : decode cL_law 571 = .ok (.iadd, 1) := by decide +kernel
theorem dL_law_572 : decode cL_law 572 = .ok (.iaload, 1) := by decide +kernel
theorem dL_law_573 : decode cL_law 573 = .ok (.aload_n 0, 1) := by decide +kernel
theorem dL_law_574 : decode cL_law 574 = .ok (.iload_n 3, 1) := by decide +kernel
theorem dL_law_575 : decode cL_law 575 = .ok (.iconst 3, 1) := by decide +kernel
theorem dL_law_576 : decode cL_law 576 = .ok (.iadd, 1) := by decide +kernel
theorem dL_law_577 : decode cL_law 577 = .ok (.iaload, 1) := by decide +kernel
theorem dL_law_578 : decode cL_law 578 = .ok (.invokevirtual 64, 3) := by decide +kernel
theorem dL_law_581 : decode cL_law 581 = .ok (.if_icmp .eq 639, 3) := by decide +kernel
theorem dL_law_584 : decode cL_law 584 = .ok (.iconst 0, 1) := by decide +kernel
theorem dL_law_585 : decode cL_law 585 = .ok (.ireturn, 1) := by decide +kernel
theorem dL_law_586 : decode cL_law 586 = .ok (.aload_n 1, 1) := by decide +kernel
theorem dL_law_587 : decode cL_law 587 = .ok (.aload_n 0, 1) := by decide +kernel
theorem dL_law_588 : decode cL_law 588 = .ok (.iload_n 3, 1) := by decide +kernel
theorem dL_law_589 : decode cL_law 589 = .ok (.iconst 1, 1) := by decide +kernel
theorem dL_law_590 : decode cL_law 590 = .ok (.iadd, 1) := by decide +kernel
theorem dL_law_591 : decode cL_law 591 = .ok (.iaload, 1) := by decide +kernel
theorem dL_law_592 : decode cL_law 592 = .ok (.aload_n 0, 1) := by decide +kernel
theorem dL_law_593 : decode cL_law 593 = .ok (.iload_n 3, 1) := by decide +kernel
theorem dL_law_594 : decode cL_law 594 = .ok (.iconst 2, 1) := by decide +kernel
theorem dL_law_595 : decode cL_law 595 = .ok (.iadd, 1) := by decide +kernel
theorem dL_law_596 : decode cL_law 596 = .ok (.iaload, 1) := by decide +kernel
theorem dL_law_597 : decode cL_law 597 = .ok (.invokevirtual 65, 3) := by decide +kernel
theorem dL_law_600 : decode cL_law 600 = .ok (.aload_n 2, 1) := by decide +kernel
theorem dL_law_601 : decode cL_law 601 = .ok (.aload_n 0, 1) := by decide +kernel
theorem dL_law_602 : decode cL_law 602 = .ok (.iload_n 3, 1) := by decide +kernel
theorem dL_law_603 : decode cL_law 603 = .ok (.iconst 1, 1) := by decide +kernel
theorem dL_law_604 : decode cL_law 604 = .ok (.iadd, 1) := by decide +kernel
theorem dL_law_605 : decode cL_law 605 = .ok (.iaload, 1) := by decide +kernel
theorem dL_law_606 : decode cL_law 606 = .ok (.aload_n 0, 1) := by decide +kernel
theorem dL_law_607 : decode cL_law 607 = .ok (.iload_n 3, 1) := by decide +kernel
theorem dL_law_608 : decode cL_law 608 = .ok (.iconst 2, 1) := by decide +kernel
theorem dL_law_609 : decode cL_law 609 = .ok (.iadd, 1) := by decide +kernel
theorem dL_law_610 : decode cL_law 610 = .ok (.iaload, 1) := by decide +kernel
theorem dL_law_611 : decode cL_law 611 = .ok (.invokevirtual 68, 3) := by decide +kernel
theorem dL_law_614 : decode cL_law 614 = .ok (.if_icmp .eq 606, 3) := by decide +kernel
theorem dL_law_617 : decode cL_law 617 = .ok (.iconst 0, 1) := by decide +kernel
theorem dL_law_618 : decode cL_law 618 = .ok (.ireturn, 1) := by decide +kernel
theorem dL_law_619 : decode cL_law 619 = .ok (.aload_n 1, 1) := by decide +kernel
theorem dL_law_620 : decode cL_law 620 = .ok (.aload_n 0, 1) := by decide +kernel
theorem dL_law_621 : decode cL_law 621 = .ok (.iload_n 3, 1) := by decide +kernel
theorem dL_law_622 : decode cL_law 622 = .ok (.iconst 1, 1) := by decide +kernel
theorem dL_law_623 : decode cL_law 623 = .ok (.iadd, 1) := by decide +kernel
theorem dL_law_624 : decode cL_law 624 = .ok (.iaload, 1) := by decide +kernel
theorem dL_law_625 : decode cL_law 625 = .ok (.aload_n 0, 1) := by decide +kernel
theorem dL_law_626 : decode cL_law 626 = .ok (.iload_n 3, 1) := by decide +kernel
theorem dL_law_627 : decode cL_law 627 = .ok (.iconst 2, 1) := by decide +kernel
theorem dL_law_628 : decode cL_law 628 = .ok (.iadd, 1) := by decide +kernel
theorem dL_law_629 : decode cL_law 629 = .ok (.iaload, 1) := by decide +kernel
theorem dL_law_630 : decode cL_law 630 = .ok (.invokevirtual 69, 3) := by decide +kernel
theorem dL_law_633 : decode cL_law 633 = .ok (.aload_n 2, 1) := by decide +kernel
theorem dL_law_634 : decode cL_law 634 = .ok (.aload_n 0, 1) := by decide +kernel
theorem dL_law_635 : decode cL_law 635 = .ok (.iload_n 3, 1) := by decide +kernel
theorem dL_law_636 : decode cL_law 636 = .ok (.iconst 1, 1) := by decide +kernel
theorem dL_law_637 : decode cL_law 637 = .ok (.iadd, 1) := by decide +kernel
theorem dL_law_638 : decode cL_law 638 = .ok (.iaload, 1) := by decide +kernel
theorem dL_law_639 : decode cL_law 639 = .ok (.aload_n 0, 1) := by decide +kernel
theorem dL_law_640 : decode cL_law 640 = .ok (.iload_n 3, 1) := by decide +kernel
theorem dL_law_641 : decode cL_law 641 = .ok (.iconst 2, 1) := by decide +kernel
theorem dL_law_642 : decode cL_law 642 = .ok (.iadd, 1) := by decide +kernel
theorem dL_law_643 : decode cL_law 643 = .ok (.iaload, 1) := by decide +kernel
theorem dL_law_644 : decode cL_law 644 = .ok (.invokevirtual 72, 3) := by decide +kernel
theorem dL_law_647 : decode cL_law 647 = .ok (.if_icmp .eq 573, 3) := by decide +kernel
theorem dL_law_650 : decode cL_law 650 = .ok (.iconst 0, 1) := by decide +kernel
theorem dL_law_651 : decode cL_law 651 = .ok (.ireturn, 1) := by decide +kernel
theorem dL_law_652 : decode cL_law 652 = .ok (.aload_n 1, 1) := by decide +kernel
theorem dL_law_653 : decode cL_law 653 = .ok (.aload_n 0, 1) := by decide +kernel
theorem dL_law_654 : decode cL_law 654 = .ok (.iload_n 3, 1) := by decide +kernel
theorem dL_law_655 : decode cL_law 655 = .ok (.iconst 1, 1) := by decide +kernel
theorem dL_law_656 : decode cL_law 656 = .ok (.iadd, 1) := by decide +kernel
theorem dL_law_657 : decode cL_law 657 = .ok (.iaload, 1) := by decide +kernel
theorem dL_law_658 : decode cL_law 658 = .ok (.aload_n 0, 1) := by decide +kernel
theorem dL_law_659 : decode cL_law 659 = .ok (.iload_n 3, 1) := by decide +kernel
theorem dL_law_660 : decode cL_law 660 = .ok (.iconst 2, 1) := by decide +kernel
theorem dL_law_661 : decode cL_law 661 = .ok (.iadd, 1) := by decide +kernel
theorem dL_law_662 : decode cL_law 662 = .ok (.iaload, 1) := by decide +kernel
theorem dL_law_663 : decode cL_law 663 = .ok (.aload_n 0, 1) := by decide +kernel
theorem dL_law_664 : decode cL_law 664 = .ok (.iload_n 3, 1) := by decide +kernel
theorem dL_law_665 : decode cL_law 665 = .ok (.iconst 3, 1) := by decide +kernel
theorem dL_law_666 : decode cL_law 666 = .ok (.iadd, 1) := by decide +kernel
theorem dL_law_667 : decode cL_law 667 = .ok (.iaload, 1) := by decide +kernel
theorem dL_law_668 : decode cL_law 668 = .ok (.invokevirtual 73, 3) := by decide +kernel
theorem dL_law_671 : decode cL_law 671 = .ok (.aload_n 2, 1) := by decide +kernel
theorem dL_law_672 : decode cL_law 672 = .ok (.aload_n 0, 1) := by decide +kernel
theorem dL_law_673 : decode cL_law 673 = .ok (.iload_n 3, 1) := by decide +kernel
theorem dL_law_674 : decode cL_law 674 = .ok (.iconst 1, 1) := by decide +kernel
theorem dL_law_675 : decode cL_law 675 = .ok (.iadd, 1) := by decide +kernel
theorem dL_law_676 : decode cL_law 676 = .ok (.iaload, 1) := by decide +kernel
theorem dL_law_677 : decode cL_law 677 = .ok (.aload_n 0, 1) := by decide +kernel
theorem dL_law_678 : decode cL_law 678 = .ok (.iload_n 3, 1) := by decide +kernel
theorem dL_law_679 : decode cL_law 679 = .ok (.iconst 2, 1) := by decide +kernel
theorem dL_law_680 : decode cL_law 680 = .ok (.iadd, 1) := by decide +kernel
theorem dL_law_681 : decode cL_law 681 = .ok (.iaload, 1) := by decide +kernel
theorem dL_law_682 : decode cL_law 682 = .ok (.aload_n 0, 1) := by decide +kernel
theorem dL_law_683 : decode cL_law 683 = .ok (.iload_n 3, 1) := by decide +kernel
theorem dL_law_684 : decode cL_law 684 = .ok (.iconst 3, 1) := by decide +kernel
theorem dL_law_685 : decode cL_law 685 = .ok (.iadd, 1) := by decide +kernel
theorem dL_law_686 : decode cL_law 686 = .ok (.iaload, 1) := by decide +kernel
theorem dL_law_687 : decode cL_law 687 = .ok (.invokevirtual 76, 3) := by decide +kernel
theorem dL_law_690 : decode cL_law 690 = .ok (.if_icmp .eq 530, 3) := by decide +kernel
theorem dL_law_693 : decode cL_law 693 = .ok (.iconst 0, 1) := by decide +kernel
theorem dL_law_694 : decode cL_law 694 = .ok (.ireturn, 1) := by decide +kernel
theorem dL_law_695 : decode cL_law 695 = .ok (.aload_n 1, 1) := by decide +kernel
theorem dL_law_696 : decode cL_law 696 = .ok (.aload_n 0, 1) := by decide +kernel
theorem dL_law_697 : decode cL_law 697 = .ok (.iload_n 3, 1) := by decide +kernel
theorem dL_law_698 : decode cL_law 698 = .ok (.iconst 1, 1) := by decide +kernel
theorem dL_law_699 : decode cL_law 699 = .ok (.iadd, 1) := by decide +kernel
theorem dL_law_700 : decode cL_law 700 = .ok (.iaload, 1) := by decide +kernel
theorem dL_law_701 : decode cL_law 701 = .ok (.aload_n 0, 1) := by decide +kernel
theorem dL_law_702 : decode cL_law 702 = .ok (.iload_n 3, 1) := by decide +kernel
theorem dL_law_703 : decode cL_law 703 = .ok (.iconst 2, 1) := by decide +kernel
theorem dL_law_704 : decode cL_law 704 = .ok (.iadd, 1) := by decide +kernel
theorem dL_law_705 : decode cL_law 705 = .ok (.iaload, 1) := by decide +kernel
theorem dL_law_706 : decode cL_law 706 = .ok (.invokevirtual 77, 3) := by decide +kernel
theorem dL_law_709 : decode cL_law 709 = .ok (.aload_n 2, 1) := by decide +kernel
theorem dL_law_710 : decode cL_law 710 = .ok (.aload_n 0, 1) := by decide +kernel
theorem dL_law_711 : decode cL_law 711 = .ok (.iload_n 3, 1) := by decide +kernel
theorem dL_law_712 : decode cL_law 712 = .ok (.iconst 1, 1) := by decide +kernel
theorem dL_law_713 : decode cL_law 713 = .ok (.iadd, 1) := by decide +kernel
theorem dL_law_714 : decode cL_law 714 = .ok (.iaload, 1) := by decide +kernel
theorem dL_law_715 : decode cL_law 715 = .ok (.aload_n 0, 1) := by decide +kernel
theorem dL_law_716 : decode cL_law 716 = .ok (.iload_n 3, 1) := by decide +kernel
theorem dL_law_717 : decode cL_law 717 = .ok (.iconst 2, 1) := by decide +kernel
theorem dL_law_718 : decode cL_law 718 = .ok (.iadd, 1) := by decide +kernel
theorem dL_law_719 : decode cL_law 719 = .ok (.iaload, 1) := by decide +kernel
theorem dL_law_720 : decode cL_law 720 = .ok (.invokevirtual 80, 3) := by decide +kernel
theorem dL_law_723 : decode cL_law 723 = .ok (.if_icmp .eq 497, 3) := by decide +kernel
theorem dL_law_726 : decode cL_law 726 = .ok (.iconst 0, 1) := by decide +kernel
theorem dL_law_727 : decode cL_law 727 = .ok (.ireturn, 1) := by decide +kernel
theorem dL_law_728 : decode cL_law 728 = .ok (.aload_n 1, 1) := by decide +kernel
theorem dL_law_729 : decode cL_law 729 = .ok (.aload_n 0, 1) := by decide +kernel
theorem dL_law_730 : decode cL_law 730 = .ok (.iload_n 3, 1) := by decide +kernel
theorem dL_law_731 : decode cL_law 731 = .ok (.iconst 1, 1) := by decide +kernel
theorem dL_law_732 : decode cL_law 732 = .ok (.iadd, 1) := by decide +kernel
theorem dL_law_733 : decode cL_law 733 = .ok (.iaload, 1) := by decide +kernel
theorem dL_law_734 : decode cL_law 734 = .ok (.invokevirtual 81, 3) := by decide +kernel
theorem dL_law_737 : decode cL_law 737 = .ok (.aload_n 2, 1) := by decide +kernel
theorem dL_law_738 : decode cL_law 738 = .ok (.aload_n 0, 1) := by decide +kernel
theorem dL_law_739 : decode cL_law 739 = .ok (.iload_n 3, 1) := by decide +kernel
theorem dL_law_740 : decode cL_law 740 = .ok (.iconst 1, 1) := by decide +kernel
theorem dL_law_741 : decode cL_law 741 = .ok (.iadd, 1) := by decide +kernel
theorem dL_law_742 : decode cL_law 742 = .ok (.iaload, 1) := by decide +kernel
theorem dL_law_743 : decode cL_law 743 = .ok (.invokevirtual 84, 3) := by decide +kernel
theorem dL_law_746 : decode cL_law 746 = .ok (.if_icmp .eq 474, 3) := by decide +kernel
theorem dL_law_749 : decode cL_law 749 = .ok (.iconst 0, 1) := by decide +kernel
theorem dL_law_750 : decode cL_law 750 = .ok (.ireturn, 1) := by decide +kernel
theorem dL_law_751 : decode cL_law 751 = .ok (.aload_n 1, 1) := by decide +kernel
theorem dL_law_752 : decode cL_law 752 = .ok (.aload_n 0, 1) := by decide +kernel
theorem dL_law_753 : decode cL_law 753 = .ok (.iload_n 3, 1) := by decide +kernel
theorem dL_law_754 : decode cL_law 754 = .ok (.iconst 1, 1) := by decide +kernel
theorem dL_law_755 : decode cL_law 755 = .ok (.iadd, 1) := by decide +kernel
theorem dL_law_756 : decode cL_law 756 = .ok (.iaload, 1) := by decide +kernel
theorem dL_law_757 : decode cL_law 757 = .ok (.aload_n 0, 1) := by decide +kernel
theorem dL_law_758 : decode cL_law 758 = .ok (.iload_n 3, 1) := by decide +kernel
theorem dL_law_759 : decode cL_law 759 = .ok (.iconst 2, 1) := by decide +kernel
theorem dL_law_760 : decode cL_law 760 = .ok (.iadd, 1) := by decide +kernel
theorem dL_law_761 : decode cL_law 761 = .ok (.iaload, 1) := by decide +kernel
theorem dL_law_762 : decode cL_law 762 = .ok (.invokevirtual 85, 3) := by decide +kernel
theorem dL_law_765 : decode cL_law 765 = .ok (.aload_n 2, 1) := by decide +kernel
theorem dL_law_766 : decode cL_law 766 = .ok (.aload_n 0, 1) := by decide +kernel
theorem dL_law_767 : decode cL_law 767 = .ok (.iload_n 3, 1) := by decide +kernel
theorem dL_law_768 : decode cL_law 768 = .ok (.iconst 1, 1) := by decide +kernel
theorem dL_law_769 : decode cL_law 769 = .ok (.iadd, 1) := by decide +kernel
theorem dL_law_770 : decode cL_law 770 = .ok (.iaload, 1) := by decide +kernel
theorem dL_law_771 : decode cL_law 771 = .ok (.aload_n 0, 1) := by decide +kernel
theorem dL_law_772 : decode cL_law 772 = .ok (.iload_n 3, 1) := by decide +kernel
theorem dL_law_773 : decode cL_law 773 = .ok (.iconst 2, 1) := by decide +kernel
theorem dL_law_774 : decode cL_law 774 = .ok (.iadd, 1) := by decide +kernel
theorem dL_law_775 : decode cL_law 775 = .ok (.iaload, 1) := by decide +kernel
theorem dL_law_776 : decode cL_law 776 = .ok (.invokevirtual 88, 3) := by decide +kernel
theorem dL_law_779 : decode cL_law 779 = .ok (.if_icmp .eq 441, 3) := by decide +kernel
theorem dL_law_782 : decode cL_law 782 = .ok (.iconst 0, 1) := by decide +kernel
theorem dL_law_783 : decode cL_law 783 = .ok (.ireturn, 1) := by decide +kernel
theorem dL_law_784 : decode cL_law 784 = .ok (.aload_n 1, 1) := by decide +kernel
theorem dL_law_785 : decode cL_law 785 = .ok (.aload_n 0, 1) := by decide +kernel
theorem dL_law_786 : decode cL_law 786 = .ok (.iload_n 3, 1) := by decide +kernel
theorem dL_law_787 : decode cL_law 787 = .ok (.iconst 1, 1) := by decide +kernel
theorem dL_law_788 : decode cL_law 788 = .ok (.iadd, 1) := by decide +kernel
theorem dL_law_789 : decode cL_law 789 = .ok (.iaload, 1) := by decide +kernel
theorem dL_law_790 : decode cL_law 790 = .ok (.aload_n 0, 1) := by decide +kernel
theorem dL_law_791 : decode cL_law 791 = .ok (.iload_n 3, 1) := by decide +kernel
theorem dL_law_792 : decode cL_law 792 = .ok (.iconst 2, 1) := by decide +kernel
theorem dL_law_793 : decode cL_law 793 = .ok (.iadd, 1) := by decide +kernel
theorem dL_law_794 : decode cL_law 794 = .ok (.iaload, 1) := by decide +kernel
theorem dL_law_795 : decode cL_law 795 = .ok (.invokevirtual 89, 3) := by decide +kernel
theorem dL_law_798 : decode cL_law 798 = .ok (.aload_n 2, 1) := by decide +kernel
theorem dL_law_799 : decode cL_law 799 = .ok (.aload_n 0, 1) := by decide +kernel
theorem dL_law_800 : decode cL_law 800 = .ok (.iload_n 3, 1) := by decide +kernel
theorem dL_law_801 : decode cL_law 801 = .ok (.iconst 1, 1) := by decide +kernel
theorem dL_law_802 : decode cL_law 802 = .ok (.iadd, 1) := by decide +kernel
theorem dL_law_803 : decode cL_law 803 = .ok (.iaload, 1) := by decide +kernel
theorem dL_law_804 : decode cL_law 804 = .ok (.aload_n 0, 1) := by decide +kernel
theorem dL_law_805 : decode cL_law 805 = .ok (.iload_n 3, 1) := by decide +kernel
theorem dL_law_806 : decode cL_law 806 = .ok (.iconst 2, 1) := by decide +kernel
theorem dL_law_807 : decode cL_law 807 = .ok (.iadd, 1) := by decide +kernel
theorem dL_law_808 : decode cL_law 808 = .ok (.iaload, 1) := by decide +kernel
theorem dL_law_809 : decode cL_law 809 = .ok (.invokevirtual 92, 3) := by decide +kernel
theorem dL_law_812 : decode cL_law 812 = .ok (.if_icmp .eq 408, 3) := by decide +kernel
theorem dL_law_815 : decode cL_law 815 = .ok (.iconst 0, 1) := by decide +kernel
theorem dL_law_816 : decode cL_law 816 = .ok (.ireturn, 1) := by decide +kernel
theorem dL_law_817 : decode cL_law 817 = .ok (.aload_n 1, 1) := by decide +kernel
theorem dL_law_818 : decode cL_law 818 = .ok (.invokevirtual 93, 3) := by decide +kernel
theorem dL_law_821 : decode cL_law 821 = .ok (.aload_n 2, 1) := by decide +kernel
theorem dL_law_822 : decode cL_law 822 = .ok (.invokevirtual 97, 3) := by decide +kernel
theorem dL_law_825 : decode cL_law 825 = .ok (.if_icmp .eq 395, 3) := by decide +kernel
theorem dL_law_828 : decode cL_law 828 = .ok (.iconst 0, 1) := by decide +kernel
theorem dL_law_829 : decode cL_law 829 = .ok (.ireturn, 1) := by decide +kernel
theorem dL_law_830 : decode cL_law 830 = .ok (.aload_n 1, 1) := by decide +kernel
theorem dL_law_831 : decode cL_law 831 = .ok (.aload_n 0, 1) := by decide +kernel
theorem dL_law_832 : decode cL_law 832 = .ok (.iload_n 3, 1) := by decide +kernel
theorem dL_law_833 : decode cL_law 833 = .ok (.iconst 1, 1) := by decide +kernel
theorem dL_law_834 : decode cL_law 834 = .ok (.iadd, 1) := by decide +kernel
theorem dL_law_835 : decode cL_law 835 = .ok (.iaload, 1) := by decide +kernel
theorem dL_law_836 : decode cL_law 836 = .ok (.invokevirtual 98, 3) := by decide +kernel
theorem dL_law_839 : decode cL_law 839 = .ok (.aload_n 2, 1) := by decide +kernel
theorem dL_law_840 : decode cL_law 840 = .ok (.aload_n 0, 1) := by decide +kernel
theorem dL_law_841 : decode cL_law 841 = .ok (.iload_n 3, 1) := by decide +kernel
theorem dL_law_842 : decode cL_law 842 = .ok (.iconst 1, 1) := by decide +kernel
theorem dL_law_843 : decode cL_law 843 = .ok (.iadd, 1) := by decide +kernel
theorem dL_law_844 : decode cL_law 844 = .ok (.iaload, 1) := by decide +kernel
theorem dL_law_845 : decode cL_law 845 = .ok (.invokevirtual 101, 3) := by decide +kernel
theorem dL_law_848 : decode cL_law 848 = .ok (.if_icmp .eq 372, 3) := by decide +kernel
theorem dL_law_851 : decode cL_law 851 = .ok (.iconst 0, 1) := by decide +kernel
theorem dL_law_852 : decode cL_law 852 = .ok (.ireturn, 1) := by decide +kernel
theorem dL_law_853 : decode cL_law 853 = .ok (.aload_n 1, 1) := by decide +kernel
theorem dL_law_854 : decode cL_law 854 = .ok (.aload_n 0, 1) := by decide +kernel
theorem dL_law_855 : decode cL_law 855 = .ok (.iload_n 3, 1) := by decide +kernel
theorem dL_law_856 : decode cL_law 856 = .ok (.iconst 1, 1) := by decide +kernel
theorem dL_law_857 : decode cL_law 857 = .ok (.iadd, 1) := by decide +kernel
theorem dL_law_858 : decode cL_law 858 = .ok (.iaload, 1) := by decide +kernel
theorem dL_law_859 : decode cL_law 859 = .ok (.invokevirtual 102, 3) := by decide +kernel
theorem dL_law_862 : decode cL_law 862 = .ok (.aload_n 2, 1) := by decide +kernel
theorem dL_law_863 : decode cL_law 863 = .ok (.aload_n 0, 1) := by decide +kernel
theorem dL_law_864 : decode cL_law 864 = .ok (.iload_n 3, 1) := by decide +kernel
theorem dL_law_865 : decode cL_law 865 = .ok (.iconst 1, 1) := by decide +kernel
theorem dL_law_866 : decode cL_law 866 = .ok (.iadd, 1) := by decide +kernel
theorem dL_law_867 : decode cL_law 867 = .ok (.iaload, 1) := by decide +kernel
theorem dL_law_868 : decode cL_law 868 = .ok (.invokevirtual 105, 3) := by decide +kernel
theorem dL_law_871 : decode cL_law 871 = .ok (.if_icmp .eq 349, 3) := by decide +kernel
theorem dL_law_874 : decode cL_law 874 = .ok (.iconst 0, 1) := by decide +kernel
theorem dL_law_875 : decode cL_law 875 = .ok (.ireturn, 1) := by decide +kernel
theorem dL_law_876 : decode cL_law 876 = .ok (.aload_n 1, 1) := by decide +kernel
theorem dL_law_877 : decode cL_law 877 = .ok (.invokevirtual 106, 3) := by decide +kernel
theorem dL_law_880 : decode cL_law 880 = .ok (.aload_n 2, 1) := by decide +kernel
theorem dL_law_881 : decode cL_law 881 = .ok (.invokevirtual 109, 3) := by decide +kernel
theorem dL_law_884 : decode cL_law 884 = .ok (.if_icmp .eq 336, 3) := by decide +kernel
theorem dL_law_887 : decode cL_law 887 = .ok (.iconst 0, 1) := by decide +kernel
theorem dL_law_888 : decode cL_law 888 = .ok (.ireturn, 1) := by decide +kernel
theorem dL_law_889 : decode cL_law 889 = .ok (.aload_n 1, 1) := by decide +kernel
theorem dL_law_890 : decode cL_law 890 = .ok (.aload_n 0, 1) := by decide +kernel
theorem dL_law_891 : decode cL_law 891 = .ok (.iload_n 3, 1) := by decide +kernel
theorem dL_law_892 : decode cL_law 892 = .ok (.iconst 1, 1) := by decide +kernel
theorem dL_law_893 : decode cL_law 893 = .ok (.iadd, 1) := by decide +kernel
theorem dL_law_894 : decode cL_law 894 = .ok (.iaload, 1) := by decide +kernel
theorem dL_law_895 : decode cL_law 895 = .ok (.aload_n 0, 1) := by decide +kernel
theorem dL_law_896 : decode cL_law 896 = .ok (.iload_n 3, 1) := by decide +kernel
theorem dL_law_897 : decode cL_law 897 = .ok (.iconst 2, 1) := by decide +kernel
theorem dL_law_898 : decode cL_law 898 = .ok (.iadd, 1) := by decide +kernel
theorem dL_law_899 : decode cL_law 899 = .ok (.iaload, 1) := by decide +kernel
theorem dL_law_900 : decode cL_law 900 = .ok (.invokevirtual 110, 3) := by decide +kernel
theorem dL_law_903 : decode cL_law 903 = .ok (.aload_n 2, 1) := by decide +kernel
theorem dL_law_904 : decode cL_law 904 = .ok (.aload_n 0, 1) := by decide +kernel
theorem dL_law_905 : decode cL_law 905 = .ok (.iload_n 3, 1) := by decide +kernel
theorem dL_law_906 : decode cL_law 906 = .ok (.iconst 1, 1) := by decide +kernel
theorem dL_law_907 : decode cL_law 907 = .ok (.iadd, 1) := by decide +kernel
theorem dL_law_908 : decode cL_law 908 = .ok (.iaload, 1) := by decide +kernel
theorem dL_law_909 : decode cL_law 909 = .ok (.aload_n 0, 1) := by decide +kernel
theorem dL_law_910 : decode cL_law 910 = .ok (.iload_n 3, 1) := by decide +kernel
theorem dL_law_911 : decode cL_law 911 = .ok (.iconst 2, 1) := by decide +kernel
theorem dL_law_912 : decode cL_law 912 = .ok (.iadd, 1) := by decide +kernel
theorem dL_law_913 : decode cL_law 913 = .ok (.iaload, 1) := by decide +kernel
theorem dL_law_914 : decode cL_law 914 = .ok (.invokevirtual 113, 3) := by decide +kernel
theorem dL_law_917 : decode cL_law 917 = .ok (.if_icmp .eq 303, 3) := by decide +kernel
theorem dL_law_920 : decode cL_law 920 = .ok (.iconst 0, 1) := by decide +kernel
theorem dL_law_921 : decode cL_law 921 = .ok (.ireturn, 1) := by decide +kernel
theorem dL_law_922 : decode cL_law 922 = .ok (.aload_n 1, 1) := by decide +kernel
theorem dL_law_923 : decode cL_law 923 = .ok (.invokevirtual 114, 3) := by decide +kernel
theorem dL_law_926 : decode cL_law 926 = .ok (.aload_n 2, 1) := by decide +kernel
theorem dL_law_927 : decode cL_law 927 = .ok (.invokevirtual 117, 3) := by decide +kernel
theorem dL_law_930 : decode cL_law 930 = .ok (.if_icmp .eq 290, 3) := by decide +kernel
theorem dL_law_933 : decode cL_law 933 = .ok (.iconst 0, 1) := by decide +kernel
theorem dL_law_934 : decode cL_law 934 = .ok (.ireturn, 1) := by decide +kernel
theorem dL_law_935 : decode cL_law 935 = .ok (.aload_n 1, 1) := by decide +kernel
theorem dL_law_936 : decode cL_law 936 = .ok (.aload_n 0, 1) := by decide +kernel
theorem dL_law_937 : decode cL_law 937 = .ok (.iload_n 3, 1) := by decide +kernel
theorem dL_law_938 : decode cL_law 938 = .ok (.iconst 1, 1) := by decide +kernel
theorem dL_law_939 : decode cL_law 939 = .ok (.iadd, 1) := by decide +kernel
theorem dL_law_940 : decode cL_law 940 = .ok (.iaload, 1) := by decide +kernel
theorem dL_law_941 : decode cL_law 941 = .ok (.aload_n 0, 1) := by decide +kernel
theorem dL_law_942 : decode cL_law 942 = .ok (.iload_n 3, 1) := by decide +kernel
theorem dL_law_943 : decode cL_law 943 = .ok (.iconst 2, 1) := by decide +kernel
theorem dL_law_944 : decode cL_law 944 = .ok (.iadd, 1) := by decide +kernel
theorem dL_law_945 : decode cL_law 945 = .ok (.iaload, 1) := by decide +kernel
theorem dL_law_946 : decode cL_law 946 = .ok (.aload_n 0, 1) := by decide +kernel
theorem dL_law_947 : decode cL_law 947 = .ok (.iload_n 3, 1) := by decide +kernel
theorem dL_law_948 : decode cL_law 948 = .ok (.iconst 3, 1) := by decide +kernel
theorem dL_law_949 : decode cL_law 949 = .ok (.iadd, 1) := by decide +kernel
theorem dL_law_950 : decode cL_law 950 = .ok (.iaload, 1) := by decide +kernel
theorem dL_law_951 : decode cL_law 951 = .ok (.invokevirtual 118, 3) := by decide +kernel
theorem dL_law_954 : decode cL_law 954 = .ok (.aload_n 2, 1) := by decide +kernel
theorem dL_law_955 : decode cL_law 955 = .ok (.aload_n 0, 1) := by decide +kernel
theorem dL_law_956 : decode cL_law 956 = .ok (.iload_n 3, 1) := by decide +kernel
theorem dL_law_957 : decode cL_law 957 = .ok (.iconst 1, 1) := by decide +kernel
theorem dL_law_958 : decode cL_law 958 = .ok (.iadd, 1) := by decide +kernel
theorem dL_law_959 : decode cL_law 959 = .ok (.iaload, 1) := by decide +kernel
theorem dL_law_960 : decode cL_law 960 = .ok (.aload_n 0, 1) := by decide +kernel
theorem dL_law_961 : decode cL_law 961 = .ok (.iload_n 3, 1) := by decide +kernel
theorem dL_law_962 : decode cL_law 962 = .ok (.iconst 2, 1) := by decide +kernel
theorem dL_law_963 : decode cL_law 963 = .ok (.iadd, 1) := by decide +kernel
theorem dL_law_964 : decode cL_law 964 = .ok (.iaload, 1) := by decide +kernel
theorem dL_law_965 : decode cL_law 965 = .ok (.aload_n 0, 1) := by decide +kernel
theorem dL_law_966 : decode cL_law 966 = .ok (.iload_n 3, 1) := by decide +kernel
theorem dL_law_967 : decode cL_law 967 = .ok (.iconst 3, 1) := by decide +kernel
theorem dL_law_968 : decode cL_law 968 = .ok (.iadd, 1) := by decide +kernel
theorem dL_law_969 : decode cL_law 969 = .ok (.iaload, 1) := by decide +kernel
theorem dL_law_970 : decode cL_law 970 = .ok (.invokevirtual 121, 3) := by decide +kernel
theorem dL_law_973 : decode cL_law 973 = .ok (.if_icmp .eq 247, 3) := by decide +kernel
theorem dL_law_976 : decode cL_law 976 = .ok (.iconst 0, 1) := by decide +kernel
theorem dL_law_977 : decode cL_law 977 = .ok (.ireturn, 1) := by decide +kernel
theorem dL_law_978 : decode cL_law 978 = .ok (.aload_n 1, 1) := by decide +kernel
theorem dL_law_979 : decode cL_law 979 = .ok (.aload_n 0, 1) := by decide +kernel
theorem dL_law_980 : decode cL_law 980 = .ok (.iload_n 3, 1) := by decide +kernel
theorem dL_law_981 : decode cL_law 981 = .ok (.iconst 1, 1) := by decide +kernel
theorem dL_law_982 : decode cL_law 982 = .ok (.iadd, 1) := by decide +kernel
theorem dL_law_983 : decode cL_law 983 = .ok (.iaload, 1) := by decide +kernel
theorem dL_law_984 : decode cL_law 984 = .ok (.invokevirtual 122, 3) := by decide +kernel
theorem dL_law_987 : decode cL_law 987 = .ok (.aload_n 2, 1) := by decide +kernel
theorem dL_law_988 : decode cL_law 988 = .ok (.aload_n 0, 1) := by decide +kernel
theorem dL_law_989 : decode cL_law 989 = .ok (.iload_n 3, 1) := by decide +kernel
theorem dL_law_990 : decode cL_law 990 = .ok (.iconst 1, 1) := by decide +kernel
theorem dL_law_991 : decode cL_law 991 = .ok (.iadd, 1) := by decide +kernel
theorem dL_law_992 : decode cL_law 992 = .ok (.iaload, 1) := by decide +kernel
theorem dL_law_993 : decode cL_law 993 = .ok (.invokevirtual 125, 3) := by decide +kernel
theorem dL_law_996 : decode cL_law 996 = .ok (.if_icmp .eq 224, 3) := by decide +kernel
theorem dL_law_999 : decode cL_law 999 = .ok (.iconst 0, 1) := by decide +kernel
theorem dL_law_1000 : decode cL_law 1000 = .ok (.ireturn, 1) := by decide +kernel
theorem dL_law_1001 : decode cL_law 1001 = .ok (.aload_n 1, 1) := by decide +kernel
theorem dL_law_1002 : decode cL_law 1002 = .ok (.aload_n 0, 1) := by decide +kernel
theorem dL_law_1003 : decode cL_law 1003 = .ok (.iload_n 3, 1) := by decide +kernel
theorem dL_law_1004 : decode cL_law 1004 = .ok (.iconst 1, 1) := by decide +kernel
theorem dL_law_1005 : decode cL_law 1005 = .ok (.iadd, 1) := by decide +kernel
theorem dL_law_1006 : decode cL_law 1006 = .ok (.iaload, 1) := by decide +kernel
theorem dL_law_1007 : decode cL_law 1007 = .ok (.aload_n 0, 1) := by decide +kernel
theorem dL_law_1008 : decode cL_law 1008 = .ok (.iload_n 3, 1) := by decide +kernel
theorem dL_law_1009 : decode cL_law 1009 = .ok (.iconst 2, 1) := by decide +kernel
theorem dL_law_1010 : decode cL_law 1010 = .ok (.iadd, 1) := by decide +kernel
theorem dL_law_1011 : decode cL_law 1011 = .ok (.iaload, 1) := by decide +kernel
theorem dL_law_1012 : decode cL_law 1012 = .ok (.aload_n 0, 1) := by decide +kernel
theorem dL_law_1013 : decode cL_law 1013 = .ok (.iload_n 3, 1) := by decide +kernel
theorem dL_law_1014 : decode cL_law 1014 = .ok (.iconst 3, 1) := by decide +kernel
theorem dL_law_1015 : decode cL_law 1015 = .ok (.iadd, 1) := by decide +kernel
theorem dL_law_1016 : decode cL_law 1016 = .ok (.iaload, 1) := by decide +kernel
theorem dL_law_1017 : decode cL_law 1017 = .ok (.aload_n 0, 1) := by decide +kernel
theorem dL_law_1018 : decode cL_law 1018 = .ok (.iload_n 3, 1) := by decide +kernel
theorem dL_law_1019 : decode cL_law 1019 = .ok (.iconst 4, 1) := by decide +kernel
theorem dL_law_1020 : decode cL_law 1020 = .ok (.iadd, 1) := by decide +kernel
theorem dL_law_1021 : decode cL_law 1021 = .ok (.iaload, 1) := by decide +kernel
theorem dL_law_1022 : decode cL_law 1022 = .ok (.invokevirtual 126, 3) := by decide +kernel
theorem dL_law_1025 : decode cL_law 1025 = .ok (.aload_n 2, 1) := by decide +kernel
theorem dL_law_1026 : decode cL_law 1026 = .ok (.aload_n 0, 1) := by decide +kernel
theorem dL_law_1027 : decode cL_law 1027 = .ok (.iload_n 3, 1) := by decide +kernel
theorem dL_law_1028 : decode cL_law 1028 = .ok (.iconst 1, 1) := by decide +kernel
theorem dL_law_1029 : decode cL_law 1029 = .ok (.iadd, 1) := by decide +kernel
theorem dL_law_1030 : decode cL_law 1030 = .ok (.iaload, 1) := by decide +kernel
theorem dL_law_1031 : decode cL_law 1031 = .ok (.aload_n 0, 1) := by decide +kernel
theorem dL_law_1032 : decode cL_law 1032 = .ok (.iload_n 3, 1) := by decide +kernel
theorem dL_law_1033 : decode cL_law 1033 = .ok (.iconst 2, 1) := by decide +kernel
theorem dL_law_1034 : decode cL_law 1034 = .ok (.iadd, 1) := by decide +kernel
theorem dL_law_1035 : decode cL_law 1035 = .ok (.iaload, 1) := by decide +kernel
theorem dL_law_1036 : decode cL_law 1036 = .ok (.aload_n 0, 1) := by decide +kernel
theorem dL_law_1037 : decode cL_law 1037 = .ok (.iload_n 3, 1) := by decide +kernel
theorem dL_law_1038 : decode cL_law 1038 = .ok (.iconst 3, 1) := by decide +kernel
theorem dL_law_1039 : decode cL_law 1039 = .ok (.iadd, 1) := by decide +kernel
theorem dL_law_1040 : decode cL_law 1040 = .ok (.iaload, 1) := by decide +kernel
theorem dL_law_1041 : decode cL_law 1041 = .ok (.aload_n 0, 1) := by decide +kernel
theorem dL_law_1042 : decode cL_law 1042 = .ok (.iload_n 3, 1) := by decide +kernel
theorem dL_law_1043 : decode cL_law 1043 = .ok (.iconst 4, 1) := by decide +kernel
theorem dL_law_1044 : decode cL_law 1044 = .ok (.iadd, 1) := by decide +kernel
theorem dL_law_1045 : decode cL_law 1045 = .ok (.iaload, 1) := by decide +kernel
theorem dL_law_1046 : decode cL_law 1046 = .ok (.invokevirtual 130, 3) := by decide +kernel
theorem dL_law_1049 : decode cL_law 1049 = .ok (.if_icmp .eq 171, 3) := by decide +kernel
theorem dL_law_1052 : decode cL_law 1052 = .ok (.iconst 0, 1) := by decide +kernel
theorem dL_law_1053 : decode cL_law 1053 = .ok (.ireturn, 1) := by decide +kernel
theorem dL_law_1054 : decode cL_law 1054 = .ok (.aload_n 1, 1) := by decide +kernel
theorem dL_law_1055 : decode cL_law 1055 = .ok (.aload_n 0, 1) := by decide +kernel
theorem dL_law_1056 : decode cL_law 1056 = .ok (.iload_n 3, 1) := by decide +kernel
theorem dL_law_1057 : decode cL_law 1057 = .ok (.iconst 1, 1) := by decide +kernel
theorem dL_law_1058 : decode cL_law 1058 = .ok (.iadd, 1) := by decide +kernel
theorem dL_law_1059 : decode cL_law 1059 = .ok (.iaload, 1) := by decide +kernel
theorem dL_law_1060 : decode cL_law 1060 = .ok (.aload_n 0, 1) := by decide +kernel
theorem dL_law_1061 : decode cL_law 1061 = .ok (.iload_n 3, 1) := by decide +kernel
theorem dL_law_1062 : decode cL_law 1062 = .ok (.iconst 2, 1) := by decide +kernel
theorem dL_law_1063 : decode cL_law 1063 = .ok (.iadd, 1) := by decide +kernel
theorem dL_law_1064 : decode cL_law 1064 = .ok (.iaload, 1) := by decide +kernel
theorem dL_law_1065 : decode cL_law 1065 = .ok (.aload_n 0, 1) := by decide +kernel
theorem dL_law_1066 : decode cL_law 1066 = .ok (.iload_n 3, 1) := by decide +kernel
theorem dL_law_1067 : decode cL_law 1067 = .ok (.iconst 3, 1) := by decide +kernel
theorem dL_law_1068 : decode cL_law 1068 = .ok (.iadd, 1) := by decide +kernel
theorem dL_law_1069 : decode cL_law 1069 = .ok (.iaload, 1) := by decide +kernel
theorem dL_law_1070 : decode cL_law 1070 = .ok (.invokevirtual 131, 3) := by decide +kernel
theorem dL_law_1073 : decode cL_law 1073 = .ok (.aload_n 2, 1) := by decide +kernel
theorem dL_law_1074 : decode cL_law 1074 = .ok (.aload_n 0, 1) := by decide +kernel
theorem dL_law_1075 : decode cL_law 1075 = .ok (.iload_n 3, 1) := by decide +kernel
theorem dL_law_1076 : decode cL_law 1076 = .ok (.iconst 1, 1) := by decide +kernel
theorem dL_law_1077 : decode cL_law 1077 = .ok (.iadd, 1) := by decide +kernel
theorem dL_law_1078 : decode cL_law 1078 = .ok (.iaload, 1) := by decide +kernel
theorem dL_law_1079 : decode cL_law 1079 = .ok (.aload_n 0, 1) := by decide +kernel
theorem dL_law_1080 : decode cL_law 1080 = .ok (.iload_n 3, 1) := by decide +kernel
theorem dL_law_1081 : decode cL_law 1081 = .ok (.iconst 2, 1) := by decide +kernel
theorem dL_law_1082 : decode cL_law 1082 = .ok (.iadd, 1) := by decide +kernel
theorem dL_law_1083 : decode cL_law 1083 = .ok (.iaload, 1) := by decide +kernel
theorem dL_law_1084 : decode cL_law 1084 = .ok (.aload_n 0, 1) := by decide +kernel
theorem dL_law_1085 : decode cL_law 1085 = .ok (.iload_n 3, 1) := by decide +kernel
theorem dL_law_1086 : decode cL_law 1086 = .ok (.iconst 3, 1) := by decide +kernel
theorem dL_law_1087 : decode cL_law 1087 = .ok (.iadd, 1) := by decide +kernel
theorem dL_law_1088 : decode cL_law 1088 = .ok (.iaload, 1) := by decide +kernel
theorem dL_law_1089 : decode cL_law 1089 = .ok (.invokevirtual 134, 3) := by decide +kernel
theorem dL_law_1092 : decode cL_law 1092 = .ok (.if_icmp .eq 128, 3) := by decide +kernel
theorem dL_law_1095 : decode cL_law 1095 = .ok (.iconst 0, 1) := by decide +kernel
theorem dL_law_1096 : decode cL_law 1096 = .ok (.ireturn, 1) := by decide +kernel
theorem dL_law_1097 : decode cL_law 1097 = .ok (.aload_n 1, 1) := by decide +kernel
theorem dL_law_1098 : decode cL_law 1098 = .ok (.aload_n 0, 1) := by decide +kernel
theorem dL_law_1099 : decode cL_law 1099 = .ok (.iload_n 3, 1) := by decide +kernel
theorem dL_law_1100 : decode cL_law 1100 = .ok (.iconst 1, 1) := by decide +kernel
theorem dL_law_1101 : decode cL_law 1101 = .ok (.iadd, 1) := by decide +kernel
theorem dL_law_1102 : decode cL_law 1102 = .ok (.iaload, 1) := by decide +kernel
theorem dL_law_1103 : decode cL_law 1103 = .ok (.aload_n 0, 1) := by decide +kernel
theorem dL_law_1104 : decode cL_law 1104 = .ok (.iload_n 3, 1) := by decide +kernel
theorem dL_law_1105 : decode cL_law 1105 = .ok (.iconst 2, 1) := by decide +kernel
theorem dL_law_1106 : decode cL_law 1106 = .ok (.iadd, 1) := by decide +kernel
theorem dL_law_1107 : decode cL_law 1107 = .ok (.iaload, 1) := by decide +kernel
theorem dL_law_1108 : decode cL_law 1108 = .ok (.aload_n 0, 1) := by decide +kernel
theorem dL_law_1109 : decode cL_law 1109 = .ok (.iload_n 3, 1) := by decide +kernel
theorem dL_law_1110 : decode cL_law 1110 = .ok (.iconst 3, 1) := by decide +kernel
theorem dL_law_1111 : decode cL_law 1111 = .ok (.iadd, 1) := by decide +kernel
theorem dL_law_1112 : decode cL_law 1112 = .ok (.iaload, 1) := by decide +kernel
theorem dL_law_1113 : decode cL_law 1113 = .ok (.aload_n 0, 1) := by decide +kernel
theorem dL_law_1114 : decode cL_law 1114 = .ok (.iload_n 3, 1) := by decide +kernel
theorem dL_law_1115 : decode cL_law 1115 = .ok (.iconst 4, 1) := by decide +kernel
theorem dL_law_1116 : decode cL_law 1116 = .ok (.iadd, 1) := by decide +kernel
theorem dL_law_1117 : decode cL_law 1117 = .ok (.iaload, 1) := by decide +kernel
theorem dL_law_1118 : decode cL_law 1118 = .ok (.aload_n 0, 1) := by decide +kernel
theorem dL_law_1119 : decode cL_law 1119 = .ok (.iload_n 3, 1) := by decide +kernel
theorem dL_law_1120 : decode cL_law 1120 = .ok (.iconst 5, 1) := by decide +kernel
theorem dL_law_1121 : decode cL_law 1121 = .ok (.iadd, 1) := by decide +kernel
theorem dL_law_1122 : decode cL_law 1122 = .ok (.iaload, 1) := by decide +kernel
theorem dL_law_1123 : decode cL_law 1123 = .ok (.invokevirtual 135, 3) := by decide +kernel
theorem dL_law_1126 : decode cL_law 1126 = .ok (.aload_n 2, 1) := by decide +kernel
theorem dL_law_1127 : decode cL_law 1127 = .ok (.aload_n 0, 1) := by decide +kernel
theorem dL_law_1128 : decode cL_law 1128 = .ok (.iload_n 3, 1) := by decide +kernel
theorem dL_law_1129 : decode cL_law 1129 = .ok (.iconst 1, 1) := by decide +kernel
theorem dL_law_1130 : decode cL_law 1130 = .ok (.iadd, 1) := by decide +kernel
theorem dL_law_1131 : decode cL_law 1131 = .ok (.iaload, 1) := by decide +kernel
theorem dL_law_1132 : decode cL_law 1132 = .ok (.aload_n 0, 1) := by decide +kernel
theorem dL_law_1133 : decode cL_law 1133 = .ok (.iload_n 3, 1) := by decide +kernel
theorem dL_law_1134 : decode cL_law 1134 = .ok (.iconst 2, 1) := by decide +kernel
theorem dL_law_1135 : decode cL_law 1135 = .ok (.iadd, 1) := by decide +kernel
theorem dL_law_1136 : decode cL_law 1136 = .ok (.iaload, 1) := by decide +kernel
theorem dL_law_1137 : decode cL_law 1137 = .ok (.aload_n 0, 1) := by decide +kernel
theorem dL_law_1138 : decode cL_law 1138 = .ok (.iload_n 3, 1) := by decide +kernel
theorem dL_law_1139 : decode cL_law 1139 = .ok (.iconst 3, 1) := by decide +kernel
theorem dL_law_1140 : decode cL_law 1140 = .ok (.iadd, 1) := by decide +kernel
theorem dL_law_1141 : decode cL_law 1141 = .ok (.iaload, 1) := by decide +kernel
theorem dL_law_1142 : decode cL_law 1142 = .ok (.aload_n 0, 1) := by decide +kernel
theorem dL_law_1143 : decode cL_law 1143 = .ok (.iload_n 3, 1) := by decide +kernel
theorem dL_law_1144 : decode cL_law 1144 = .ok (.iconst 4, 1) := by decide +kernel
theorem dL_law_1145 : decode cL_law 1145 = .ok (.iadd, 1) := by decide +kernel
theorem dL_law_1146 : decode cL_law 1146 = .ok (.iaload, 1) := by decide +kernel
theorem dL_law_1147 : decode cL_law 1147 = .ok (.aload_n 0, 1) := by decide +kernel
theorem dL_law_1148 : decode cL_law 1148 = .ok (.iload_n 3, 1) := by decide +kernel
theorem dL_law_1149 : decode cL_law 1149 = .ok (.iconst 5, 1) := by decide +kernel
theorem dL_law_1150 : decode cL_law 1150 = .ok (.iadd, 1) := by decide +kernel
theorem dL_law_1151 : decode cL_law 1151 = .ok (.iaload, 1) := by decide +kernel
theorem dL_law_1152 : decode cL_law 1152 = .ok (.invokevirtual 138, 3) := by decide +kernel
theorem dL_law_1155 : decode cL_law 1155 = .ok (.if_icmp .eq 65, 3) := by decide +kernel
theorem dL_law_1158 : decode cL_law 1158 = .ok (.iconst 0, 1) := by decide +kernel
theorem dL_law_1159 : decode cL_law 1159 = .ok (.ireturn, 1) := by decide +kernel
theorem dL_law_1160 : decode cL_law 1160 = .ok (.aload_n 1, 1) := by decide +kernel
theorem dL_law_1161 : decode cL_law 1161 = .ok (.aload_n 0, 1) := by decide +kernel
theorem dL_law_1162 : decode cL_law 1162 = .ok (.iload_n 3, 1) := by decide +kernel
theorem dL_law_1163 : decode cL_law 1163 = .ok (.iconst 1, 1) := by decide +kernel
theorem dL_law_1164 : decode cL_law 1164 = .ok (.iadd, 1) := by decide +kernel
theorem dL_law_1165 : decode cL_law 1165 = .ok (.iaload, 1) := by decide +kernel
theorem dL_law_1166 : decode cL_law 1166 = .ok (.invokevirtual 139, 3) := by decide +kernel
theorem dL_law_1169 : decode cL_law 1169 = .ok (.aload_n 2, 1) := by decide +kernel
theorem dL_law_1170 : decode cL_law 1170 = .ok (.aload_n 0, 1) := by decide +kernel
theorem dL_law_1171 : decode cL_law 1171 = .ok (.iload_n 3, 1) := by decide +kernel
theorem dL_law_1172 : decode cL_law 1172 = .ok (.iconst 1, 1) := by decide +kernel
theorem dL_law_1173 : decode cL_law 1173 = .ok (.iadd, 1) := by decide +kernel
theorem dL_law_1174 : decode cL_law 1174 = .ok (.iaload, 1) := by decide +kernel
theorem dL_law_1175 : decode cL_law 1175 = .ok (.invokevirtual 142, 3) := by decide +kernel
theorem dL_law_1178 : decode cL_law 1178 = .ok (.if_icmp .eq 42, 3) := by decide +kernel
theorem dL_law_1181 : decode cL_law 1181 = .ok (.iconst 0, 1) := by decide +kernel
theorem dL_law_1182 : decode cL_law 1182 = .ok (.ireturn, 1) := by decide +kernel
theorem dL_law_1183 : decode cL_law 1183 = .ok (.aload_n 1, 1) := by decide +kernel
theorem dL_law_1184 : decode cL_law 1184 = .ok (.aload_n 0, 1) := by decide +kernel
theorem dL_law_1185 : decode cL_law 1185 = .ok (.iload_n 3, 1) := by decide +kernel
theorem dL_law_1186 : decode cL_law 1186 = .ok (.iconst 1, 1) := by decide +kernel
theorem dL_law_1187 : decode cL_law 1187 = .ok (.iadd, 1) := by decide +kernel
theorem dL_law_1188 : decode cL_law 1188 = .ok (.iaload, 1) := by decide +kernel
theorem dL_law_1189 : decode cL_law 1189 = .ok (.invokevirtual 143, 3) := by decide +kernel
theorem dL_law_1192 : decode cL_law 1192 = .ok (.aload_n 2, 1) := by decide +kernel
theorem dL_law_1193 : decode cL_law 1193 = .ok (.aload_n 0, 1) := by decide +kernel
theorem dL_law_1194 : decode cL_law 1194 = .ok (.iload_n 3, 1) := by decide +kernel
theorem dL_law_1195 : decode cL_law 1195 = .ok (.iconst 1, 1) := by decide +kernel
theorem dL_law_1196 : decode cL_law 1196 = .ok (.iadd, 1) := by decide +kernel
theorem dL_law_1197 : decode cL_law 1197 = .ok (.iaload, 1) := by decide +kernel
theorem dL_law_1198 : decode cL_law 1198 = .ok (.invokevirtual 146, 3) := by decide +kernel
theorem dL_law_1201 : decode cL_law 1201 = .ok (.if_icmp .eq 19, 3) := by decide +kernel
theorem dL_law_1204 : decode cL_law 1204 = .ok (.iconst 0, 1) := by decide +kernel
theorem dL_law_1205 : decode cL_law 1205 = .ok (.ireturn, 1) := by decide +kernel
theorem dL_law_1206 : decode cL_law 1206 = .ok (.aload_n 1, 1) := by decide +kernel
theorem dL_law_1207 : decode cL_law 1207 = .ok (.invokevirtual 147, 3) := by decide +kernel
theorem dL_law_1210 : decode cL_law 1210 = .ok (.aload_n 2, 1) := by decide +kernel
theorem dL_law_1211 : decode cL_law 1211 = .ok (.invokevirtual 151, 3) := by decide +kernel
theorem dL_law_1214 : decode cL_law 1214 = .ok (.lcmp, 1) := by decide +kernel
theorem dL_law_1215 : decode cL_law 1215 = .ok (.ifCond .eq 5, 3) := by decide +kernel
theorem dL_law_1218 : decode cL_law 1218 = .ok (.iconst 0, 1) := by decide +kernel
theorem dL_law_1219 : decode cL_law 1219 = .ok (.ireturn, 1) := by decide +kernel
theorem dL_law_1220 : decode cL_law 1220 = .ok (.iinc 3 6, 3) := by decide +kernel
theorem dL_law_1223 : decode cL_law 1223 = .ok (.goto (-1205), 3) := by decide +kernel
theorem dL_law_1226 : decode cL_law 1226 = .ok (.iconst 1, 1) := by decide +kernel
theorem dL_law_1227 : decode cL_law 1227 = .ok (.ireturn, 1) := by decide +kernel
end
section
/-! the memory: all numbers of both systems by a place, all rows by a number; the cells that hold them -/
abbrev Mem : Type := (Nat → Int32) × (Nat → Nat → Int32)
def sv (M : Mem) (k : Nat) (x : Int32) : Mem := (va_up M.1 k x, M.2)
def sa (M : Mem) (a i : Nat) (x : Int32) : Mem := (M.1, va_up M.2 a (upd (M.2 a) i x))
def sr (M : Mem) (a : Nat) (f : Nat → Int32) : Mem := (M.1, va_up M.2 a f)
def alL : List Nat := [36, 36, 10, 10, 10, 10, 10, 10, 10, 10, 10, 10, 40, 40, 10, 10, 10, 1024, 40, 40, 40, 40, 36, 36, 10, 10, 10, 10, 10, 2, 80, 2, 8, 10, 10, 1024, 10, 4, 4, 4, 160, 40]
def al (a : Nat) : Nat := alL.getD a 0
def ak (a : Nat) : Nat := if a = 17 then 1 else if a = 35 then 2 else if a = 37 then 2 else 0
def lawE (q : Nat → Nat) (M : Mem) (j : Nat) : va_E := .inr (2, [.ref (q (12 + j)), .int (M.1 (10 + 6 * j)), .int (M.1 (10 + 6 * j + 1)), .int (M.1 (10 + 6 * j + 2)), .int (M.1 (10 + 6 * j + 3)), .int (M.1 (10 + 6 * j + 4)), .int (M.1 (10 + 6 * j + 5))])
def sheetE (q : Nat → Nat) (M : Mem) (j : Nat) : va_E := .inr (4, [.ref (q (18 + j)), .int (M.1 (22 + 3 * j)), .int (M.1 (22 + 3 * j + 1)), .int (M.1 (22 + 3 * j + 2))])
def oe (q : Nat → Nat) (cy : Nat → ClassId) (M : Mem) (i : Nat) : va_E := match i with
  | 0 => .inr (6, [.ref (q 51), .ref (q 52), .ref (q 53), .ref (q 54), .ref (q 62), .ref (q 55), .ref (q 56), .int (M.1 7)])
  | 1 => .inr (3, [.ref (q 0), .ref (q 1)])
  | 2 => .inr (5, [.ref (q 2), .ref (q 3), .ref (q 4), .ref (q 5), .ref (q 6), .ref (q 7), .ref (q 8), .ref (q 9), .ref (q 10), .ref (q 11), .int (M.1 0), .int (M.1 1), .int (M.1 2)])
  | 3 => lawE q M 0
  | 4 => lawE q M 1
  | 5 => .inr (1, [.ref (q 52), .int (M.1 3), .int (M.1 4), .int (M.1 5)])
  | 6 => .inr (0, [.ref (q 52), .ref (q 14), .ref (q 15), .ref (q 16), .ref (q 17), .int (M.1 6)])
  | 7 => sheetE q M 0
  | 8 => sheetE q M 1
  | 9 => sheetE q M 2
  | 10 => sheetE q M 3
  | 11 => .inr (7, [.ref (q 22), .ref (q 23), .int (M.1 40), .ref (q 24), .ref (q 25), .ref (q 26), .ref (q 27), .ref (q 28), .int (M.1 41), .int (M.1 42), .ref (q 29), .ref (q 30), .ref (q 31), .ref (q 32), .ref (q 33), .int (M.1 43), .int (M.1 44), .int (M.1 45), .int (M.1 46), .int (M.1 47), .ref (q 34), .ref (q 35), .ref (q 36), .ref (q 37), .ref (q 38), .ref (q 39), .ref (q 40), .ref (q 41), .int (M.1 48)])
  | _ => .inl (cy 3, 4, .inr (.inr (.inr (.inr (fun k => some (q (57 + k)))))))
def ce (q : Nat → Nat) (cy : Nat → ClassId) (M : Mem) (i : Nat) : va_E := if i < 50 then .inl (cy (ak i), al i, .inl (M.2 i)) else oe q cy M (i - 50)
def wl (q : Nat → Nat) (cy : Nat → ClassId) (Ls : List Nat) (M : Mem) : va_W := Ls.map (fun i => (q i, ce q cy M i))
def AA (q : Nat → Nat) (Ls : List Nat) : Nat → Prop := fun a => ∃ i, i ∈ Ls ∧ a = q i
abbrev tyL (cy : Nat → ClassId) : List (ClassId × FieldType) := [(cy 0, .int), (cy 1, .byte), (cy 2, .boolean), (cy 3, .object "HeardWords$Sheet")]
abbrev LsR : List Nat := [0, 1, 51]
abbrev LsF : List Nat := [0, 1, 2, 3, 4, 5, 6, 7, 8, 9, 10, 11, 12, 13, 14, 15, 16, 17, 18, 19, 20, 21, 22, 23, 24, 25, 26, 27, 28, 29, 30, 31, 32, 33, 34, 35, 36, 37, 38, 39, 40, 41, 50, 51, 52, 53, 54, 55, 56, 57, 58, 59, 60, 61, 62]
/-- no cell stands twice in the list -/
def ND (Ls : List Nat) : Prop := ∀ i, i < Ls.length → ∀ j, j < Ls.length → Ls[i]? = Ls[j]? → i = j
theorem ND.eq {Ls : List Nat} (h : ND Ls) {i j x : Nat} (hi : Ls[i]? = some x) (hj : Ls[j]? = some x) : i = j := h i (List.getElem?_eq_some_iff.mp hi).1 j (List.getElem?_eq_some_iff.mp hj).1 (hi.trans hj.symm)
theorem ND_R : ND LsR := by unfold ND; decide +kernel
theorem ND_F : ND LsF := by unfold ND; decide +kernel
theorem wl_at (q : Nat → Nat) (cy : Nat → ClassId) (Ls : List Nat) (M : Mem) (k : Nat) : (wl q cy Ls M)[k]? = (Ls[k]?).map (fun i => (q i, ce q cy M i)) := by
  unfold wl
  rw [List.getElem?_map]
theorem wl_get {q : Nat → Nat} {cy : Nat → ClassId} {Ls : List Nat} {M : Mem} {i : Nat} (h : i ∈ Ls) : ∃ k : Nat, Ls[k]? = some i ∧ (wl q cy Ls M)[k]? = some (q i, ce q cy M i) := by
  obtain ⟨k, hk⟩ := List.getElem?_of_mem h
  exact ⟨k, hk, by rw [wl_at, hk]; rfl⟩
theorem wl_set {q : Nat → Nat} {cy : Nat → ClassId} {Ls : List Nat} {M M' : Mem} {i k : Nat} {e : va_E} (hn : ND Ls) (hk : Ls[k]? = some i) (h1 : ce q cy M' i = e) (h2 : ∀ j, j ≠ i → ce q cy M' j = ce q cy M j) : (wl q cy Ls M).set k (q i, e) = wl q cy Ls M' := by
  apply List.ext_getElem?
  intro n
  rw [wl_at]
  by_cases hnk : k = n
  · subst hnk
    have hl : k < (wl q cy Ls M).length := by unfold wl; rw [List.length_map]; exact (List.getElem?_eq_some_iff.mp hk).1
    rw [List.getElem?_set_self hl, hk]
    simp only [Option.map_some, h1]
  · rw [List.getElem?_set_ne hnk, wl_at]
    cases hj : Ls[n]? with
    | none => rfl
    | some j =>
      have hji : j ≠ i := by
        intro e
        subst e
        exact hnk (hn.eq hk hj)
      simp only [Option.map_some, h2 j hji]
theorem wl_D {q : Nat → Nat} {cy : Nat → ClassId} {Ls : List Nat} (M : Mem) {A : Nat → Prop} (hn : ND Ls) (hq : ∀ i, i ∈ Ls → ∀ j, j ∈ Ls → q i = q j → i = j) (hA : ∀ a, AA q Ls a → A a) : va_D A (wl q cy Ls M) := by
  have key : ∀ (k : Nat) (x : Nat × va_E), (wl q cy Ls M)[k]? = some x → ∃ i, Ls[k]? = some i ∧ x.1 = q i := by
    intro k x h
    rw [wl_at] at h
    cases hj : Ls[k]? with
    | none => rw [hj] at h; cases h
    | some i => rw [hj] at h; cases h; exact ⟨i, rfl, rfl⟩
  refine ⟨fun i j x y hx hy hxy => ?_, fun k x hx => ?_⟩
  · obtain ⟨a, ha, ea⟩ := key i x hx
    obtain ⟨b, hb, eb⟩ := key j y hy
    have hab : a = b := hq a (List.mem_of_getElem? ha) b (List.mem_of_getElem? hb) (ea.symm.trans (hxy.trans eb))
    subst hab
    exact hn.eq ha hb
  · obtain ⟨a, ha, ea⟩ := key k x hx
    exact hA _ ⟨a, List.mem_of_getElem? ha, ea⟩
theorem ce_a {q : Nat → Nat} {cy : Nat → ClassId} {M : Mem} {a : Nat} (h : a < 50) : ce q cy M a = .inl (cy (ak a), al a, .inl (M.2 a)) := by unfold ce; rw [if_pos h]
theorem ce_sr {q : Nat → Nat} {cy : Nat → ClassId} {M : Mem} {a : Nat} {f : Nat → Int32} (j : Nat) (h : j ≠ a) : ce q cy (sr M a f) j = ce q cy M j := by
  unfold ce
  by_cases hj : j < 50
  · rw [if_pos hj, if_pos hj]
    simp only [sr, va_up, if_neg h]
  · rw [if_neg hj, if_neg hj]
    unfold oe lawE sheetE sr
    rfl
theorem ce_sv {q : Nat → Nat} {cy : Nat → ClassId} {M : Mem} {k : Nat} {x : Int32} (j : Nat) (h : oe q cy (sv M k x) (j - 50) = oe q cy M (j - 50)) : ce q cy (sv M k x) j = ce q cy M j := by
  unfold ce
  by_cases hj : j < 50
  · rw [if_pos hj, if_pos hj]
    rfl
  · rw [if_neg hj, if_neg hj, h]
/-- which object holds the number at a place -/
def ow (k : Nat) : Nat := if k < 3 then 52 else if k < 6 then 55 else if k = 6 then 56 else if k = 7 then 50 else if k < 10 then 99 else if k < 16 then 53 else if k < 22 then 54 else if k < 25 then 57 else if k < 28 then 58 else if k < 31 then 59 else if k < 34 then 60 else if k < 40 then 99 else if k < 49 then 61 else 99
theorem up_ow {M : Mem} {k n o : Nat} {x : Int32} (hn : ow n = o) (hk : ow k ≠ o) : va_up M.1 k x n = M.1 n := by
  unfold va_up
  rw [if_neg (fun e => hk (by rw [← e]; exact hn))]
set_option maxHeartbeats 4000000 in
theorem ce_sv_ow {q : Nat → Nat} {cy : Nat → ClassId} {M : Mem} {k : Nat} {x : Int32} (j : Nat) (h : j ≠ ow k) (hj : 50 ≤ j) : oe q cy (sv M k x) (j - 50) = oe q cy M (j - 50) := by
  obtain ⟨i, rfl⟩ : ∃ i, j = i + 50 := ⟨j - 50, by omega⟩
  rw [Nat.add_sub_cancel]
  unfold oe lawE sheetE sv
  match i, h with
  | 0, h => simp only [up_ow (n := 7) (o := 50) rfl (Ne.symm h)]
  | 1, h => rfl
  | 2, h => simp only [up_ow (n := 0) (o := 52) rfl (Ne.symm h), up_ow (n := 1) (o := 52) rfl (Ne.symm h), up_ow (n := 2) (o := 52) rfl (Ne.symm h)]
  | 3, h => simp only [Nat.mul_zero, Nat.add_zero, Nat.reduceAdd, up_ow (n := 10) (o := 53) rfl (Ne.symm h), up_ow (n := 11) (o := 53) rfl (Ne.symm h), up_ow (n := 12) (o := 53) rfl (Ne.symm h), up_ow (n := 13) (o := 53) rfl (Ne.symm h), up_ow (n := 14) (o := 53) rfl (Ne.symm h), up_ow (n := 15) (o := 53) rfl (Ne.symm h)]
  | 4, h => simp only [Nat.mul_one, Nat.reduceAdd, Nat.reduceMul, up_ow (n := 16) (o := 54) rfl (Ne.symm h), up_ow (n := 17) (o := 54) rfl (Ne.symm h), up_ow (n := 18) (o := 54) rfl (Ne.symm h), up_ow (n := 19) (o := 54) rfl (Ne.symm h), up_ow (n := 20) (o := 54) rfl (Ne.symm h), up_ow (n := 21) (o := 54) rfl (Ne.symm h)]
  | 5, h => simp only [up_ow (n := 3) (o := 55) rfl (Ne.symm h), up_ow (n := 4) (o := 55) rfl (Ne.symm h), up_ow (n := 5) (o := 55) rfl (Ne.symm h)]
  | 6, h => simp only [up_ow (n := 6) (o := 56) rfl (Ne.symm h)]
  | 7, h => simp only [Nat.mul_zero, Nat.add_zero, Nat.reduceAdd, up_ow (n := 22) (o := 57) rfl (Ne.symm h), up_ow (n := 23) (o := 57) rfl (Ne.symm h), up_ow (n := 24) (o := 57) rfl (Ne.symm h)]
  | 8, h => simp only [Nat.mul_one, Nat.reduceAdd, Nat.reduceMul, up_ow (n := 25) (o := 58) rfl (Ne.symm h), up_ow (n := 26) (o := 58) rfl (Ne.symm h), up_ow (n := 27) (o := 58) rfl (Ne.symm h)]
  | 9, h => simp only [Nat.reduceAdd, Nat.reduceMul, up_ow (n := 28) (o := 59) rfl (Ne.symm h), up_ow (n := 29) (o := 59) rfl (Ne.symm h), up_ow (n := 30) (o := 59) rfl (Ne.symm h)]
  | 10, h => simp only [Nat.reduceAdd, Nat.reduceMul, up_ow (n := 31) (o := 60) rfl (Ne.symm h), up_ow (n := 32) (o := 60) rfl (Ne.symm h), up_ow (n := 33) (o := 60) rfl (Ne.symm h)]
  | 11, h => simp only [up_ow (n := 40) (o := 61) rfl (Ne.symm h), up_ow (n := 41) (o := 61) rfl (Ne.symm h), up_ow (n := 42) (o := 61) rfl (Ne.symm h), up_ow (n := 43) (o := 61) rfl (Ne.symm h), up_ow (n := 44) (o := 61) rfl (Ne.symm h), up_ow (n := 45) (o := 61) rfl (Ne.symm h), up_ow (n := 46) (o := 61) rfl (Ne.symm h), up_ow (n := 47) (o := 61) rfl (Ne.symm h), up_ow (n := 48) (o := 61) rfl (Ne.symm h)]
  | n + 12, h => rfl
theorem ce_svN {q : Nat → Nat} {cy : Nat → ClassId} {M : Mem} {k : Nat} {x : Int32} (j : Nat) (h : j ≠ ow k) : ce q cy (sv M k x) j = ce q cy M j := by
  by_cases hj : j < 50
  · unfold ce
    rw [if_pos hj, if_pos hj]
    rfl
  · exact ce_sv j (ce_sv_ow j h (by omega))
end
section
/-! the walk over the memory: words, contract, get, put, rows, calls, ends -/
def TB : List Cond := lw_tbl.filter goodWord
theorem TB_good {w : Cond} (h : w ∈ TB) : goodWord w = true := (List.mem_filter.mp h).2
theorem TB_of {w : Cond} (h : w ∈ tables_1) (g : goodWord w = true) : w ∈ TB := List.mem_filter.mpr ⟨List.mem_append_right _ h, g⟩
theorem TB_sel {w : Cond} (h : w ∈ k2_sels lw_privs) (g : goodWord w = true) : w ∈ TB := List.mem_filter.mpr ⟨List.mem_append_left _ h, g⟩
theorem TB_in {w : Cond} (h : w ∈ TB) : w ∈ lw_tbl := (List.mem_filter.mp h).1
def nwF : List (String × Nat × String × String × String × String) := [("HeardWords$AtOnce", 59, "HeardWords$Words", "kind", "[I", "HeardWords"), ("HeardWords$Hearing", 37, "HeardWords$Words", "kind", "[I", "HeardWords"), ("HeardWords", 111, "HeardWords$Words", "kind", "[I", "HeardWords"), ("HeardWords$Hearing", 41, "HeardWords$Words", "group", "[I", "HeardWords"), ("HeardWords", 114, "HeardWords$Words", "group", "[I", "HeardWords"), ("HeardWords$AtOnce", 44, "HeardWords$Words", "groupSize", "[I", "HeardWords"), ("HeardWords$Hearing", 88, "HeardWords$Words", "groupSize", "[I", "HeardWords"), ("HeardWords", 117, "HeardWords$Words", "town", "[I", "HeardWords"), ("HeardWords", 120, "HeardWords$Words", "hour", "[I", "HeardWords"), ("HeardWords$AtOnce", 56, "HeardWords$Words", "about", "[I", "HeardWords"), ("HeardWords$Hearing", 44, "HeardWords$Words", "about", "[I", "HeardWords"), ("HeardWords", 123, "HeardWords$Words", "about", "[I", "HeardWords"), ("HeardWords$Hearing", 78, "HeardWords$Words", "foes", "[I", "HeardWords"), ("HeardWords$AtOnce", 69, "HeardWords$Words", "undoes", "[I", "HeardWords"), ("HeardWords$Hearing", 91, "HeardWords$Words", "undoes", "[I", "HeardWords"), ("HeardWords$Hearing", 97, "HeardWords$Words", "undoers", "[I", "HeardWords"), ("HeardWords$AtOnce", 39, "HeardWords$Words", "size", "I", "HeardWords"), ("HeardWords$Hearing", 28, "HeardWords$Words", "size", "I", "HeardWords"), ("HeardWords", 80, "HeardWords$Words", "size", "I", "HeardWords"), ("HeardWords", 126, "HeardWords$Words", "kept", "I", "HeardWords"), ("HeardWords", 129, "HeardWords$Words", "possible", "I", "HeardWords"), ("HeardWords", 140, "HeardWords$Law", "size", "I", "HeardWords"), ("HeardWords", 148, "HeardWords$Law", "firstFault", "I", "HeardWords"), ("HeardWords$AtOnce", 47, "HeardWords$Law", "enough", "I", "HeardWords"), ("HeardWords$Hearing", 75, "HeardWords$Law", "enough", "I", "HeardWords"), ("HeardWords", 151, "HeardWords$Law", "enough", "I", "HeardWords"), ("HeardWords$AtOnce", 62, "HeardWords$Law", "contradiction", "I", "HeardWords"), ("HeardWords$Hearing", 85, "HeardWords$Law", "contradiction", "I", "HeardWords"), ("HeardWords", 154, "HeardWords$Law", "contradiction", "I", "HeardWords"), ("HeardWords$Hearing", 100, "HeardWords$Law", "elsewhere", "I", "HeardWords"), ("HeardWords", 157, "HeardWords$Law", "elsewhere", "I", "HeardWords"), ("HeardWords$Hearing", 70, "HeardWords$Law", "partial", "I", "HeardWords"), ("HeardWords", 160, "HeardWords$Law", "partial", "I", "HeardWords"), ("HeardWords", 243, "HeardWords$Hearing", "stand", "I", "HeardWords"), ("HeardWords", 100, "HeardWords$Sheet", "items", "[I", "HeardWords"), ("HeardWords", 91, "HeardWords$Sheet", "lost", "Z", "HeardWords"), ("HeardWords", 260, "HeardWords$Sheet", "form", "I", "HeardWords"), ("HeardWords", 99, "HeardWords$Sheet", "size", "I", "HeardWords")]
def nwM : List (String × Nat × MethodName × String) := [("HeardWords", 18, ⟨"HeardWords$Words", "<init>", "()V"⟩, "HeardWords"), ("HeardWords", 25, ⟨"HeardWords$Law", "<init>", "()V"⟩, "HeardWords"), ("HeardWords", 59, ⟨"HeardWords$Sheet", "<init>", "()V"⟩, "HeardWords"), ("HeardWords", 194, ⟨"HeardWords$Hearing", "ordersWith", "(LHeardWords$Law;III)I"⟩, "HeardWords")]
/-- where things are: addresses of the cells, numbers of the classes, slots, array classes, the cells that are there, the texts and their rows -/
abbrev GT : Type := (Nat → Nat) × (Nat → ClassId) × (Nat → Nat → Nat) × (Nat → ClassId) × List Nat × (Nat → Nat) × (Nat → Nat)
abbrev gL (G : GT) : List Nat := G.2.2.2.2.1
abbrev gD (G : GT) : va_G := (G.2.1, G.2.2.1)
abbrev gY (G : GT) : Nat → ClassId := G.2.2.2.1
def AG (G : GT) : Nat → Prop := AA G.1 (gL G)
def KK (G : GT) (U : State) : Prop := va_K (gD G) vwCl (tyL (gY G)) U ∧ (∀ x ∈ nwF, va_Nw (.fieldLinkNest x.1 x.2.1 x.2.2.1 x.2.2.2.1 x.2.2.2.2.1 x.2.2.2.2.2) U) ∧ (∀ x ∈ nwM, va_Nw (.methodLinkNest x.1 x.2.1 x.2.2.1 x.2.2.2) U) ∧ ND (gL G) ∧ (∀ i, i ∈ gL G → ∀ j, j ∈ gL G → G.1 i = G.1 j → i = j)
def strB : List (List Int32) := [[103, 99, 101, 112], [49, 48, 48, 48], [52, 50, 49, 49]]
def SG (G : GT) (U : State) (H : Heap) : Prop := vk_S 3 [4, 4, 4] strB G.2.2.2.2.2.1 G.2.2.2.2.2.2 (AG G) U H ∧ va_Z "java/lang/String" "COMPACT_STRINGS" "Z" (.int 1) (AG G) U H ∧ vk_R "HeardWords$Law" 49 "gcep" (G.2.2.2.2.2.1 0) U ∧ vk_R "HeardWords$Law" 64 "1000" (G.2.2.2.2.2.1 1) U ∧ vk_R "HeardWords$Law" 70 "4211" (G.2.2.2.2.2.1 2) U
def PP (G : GT) (M : Mem) (H : Heap) : Prop := va_P (gD G) vwCl (wl G.1 (gY G) (gL G) M) H
theorem KK.warm {G : GT} {s U : State} (hW : s.WarmedH U.vm) (h : KK G s) : KK G U := ⟨va_K.moved hW.alike h.1, fun x hx => va_Nw.warmF hW (h.2.1 x hx), fun x hx => va_Nw.warmM hW (h.2.2.1 x hx), h.2.2.2⟩
theorem KK.same {G : GT} {u U : State} (hv : u.vm = U.vm) (h : KK G u) : KK G U := ⟨va_K.moved (by rw [hv]; exact Vm.Alike.refl _) h.1, fun x hx => va_Nw.same rfl hv (h.2.1 x hx), fun x hx => va_Nw.same rfl hv (h.2.2.1 x hx), h.2.2.2⟩
theorem SG.warm {G : GT} {s U : State} {H : Heap} (hW : s.WarmedH U.vm) (h : SG G s H) : SG G U H := ⟨h.1.moved hW.alike, h.2.1.moved hW.alike, h.2.2.1.warm hW, h.2.2.2.1.warm hW, h.2.2.2.2.warm hW⟩
theorem SG.same {G : GT} {u U : State} {H : Heap} (hv : u.vm = U.vm) (h : SG G u H) : SG G U H := ⟨h.1.moved (by rw [hv]; exact Vm.Alike.refl _), h.2.1.moved (by rw [hv]; exact Vm.Alike.refl _), h.2.2.1.same hv.symm, h.2.2.2.1.same hv.symm, h.2.2.2.2.same hv.symm⟩
theorem SG.kept {G : GT} {U : State} {H H1 : Heap} (h : SG G U H) (hq : ∀ a : Nat, a < H.size → ¬ AG G a → H1[a]? = H[a]?) : SG G U H1 := ⟨h.1.kept hq, h.2.1.kept hq, h.2.2⟩
def QV (G : GT) (v : Option Value) (M : Mem) : Array Value → State → Outcome → State → Prop := fun _ st oc t => oc = .returned v ∧ PP G M t.heap ∧ va_F (AG G) st t
def PR (G : GT) (av : List Value) (M : Mem) : Array Value → State → Prop := va_Pc av (fun U => KK G U ∧ SG G U U.heap ∧ PP G M U.heap)
abbrev RM (fr lo : Nat) : Room := { frames := fr, cells := 0, slots := 0, locals := lo }
def MetG (l : Launch) (G : GT) (y : MethodName) (cc : ByteArray) (nL : Nat) (ret : Option FieldType) (fr lo : Nat) (av : List Value) (M : Mem) (v : Option Value) (M' : Mem) : Prop :=
  Met l y (.code y cc nL ret :: TB) (RM fr lo) (PR G av M) (QV G v M') 0 0 (AG G)
theorem PR_blind (G : GT) (av : List Value) (M : Mem) : FrameBlind (PR G av M) := by
  intro a U g mk h
  obtain ⟨h1, h2, h3, h4⟩ := h
  exact ⟨h1, h2.same rfl, h3.same rfl, h4⟩
/-- what stays the same on a walk -/
def SX (p : Program) (m : MethodId) (c : Code) (s : State) (args : Array Value) (cc : ByteArray) (nL : Nat) (own : String) (G : GT) (A : Nat → Prop) : Prop := CallFix p m c cc nL s args TB own ∧ KK G s ∧ SG G s s.heap ∧ (∀ a, AG G a → A a)
/-- what moves -/
def ST (G : GT) (A : Nat → Prop) (s : State) (M : Mem) (H : Heap) (locs : List Loc) : Prop := PP G M H ∧ va_S A s.heap H locs
theorem PP.at {G : GT} {M : Mem} {H : Heap} (h : PP G M H) {i : Nat} (hi : i ∈ gL G) : ∃ k : Nat, (gL G)[k]? = some i ∧ (wl G.1 (gY G) (gL G) M)[k]? = some (G.1 i, ce G.1 (gY G) M i) := wl_get hi
section WK
variable {p : Program} {l : Launch} {e : Env} {R : Room} {s : State} {m : MethodId} {args : Array Value} {below : List Frame} {meth : Method} {c : Code} {H : Heap} {locs : List Loc} {cells slots : Nat} {Q : State → Prop} {pc : Nat} {ls : Array Slot} {rest : List Value} {cc : ByteArray} {nL : Nat} {own : String} {G : GT} {A : Nat → Prop} {M M' : Mem}
theorem gx (hC : SX p m c s args cc nL own G A) (hS : ST G A s M H locs) {C : String} {T : u_T} {N ci idx i k : Nat} {fs : List Value} {v : Value} (hi : i ∈ gL G) (he : ce G.1 (gY G) M i = .inr (ci, fs)) (hcl : vwCl[ci]? = some (C, T, N)) (hin : ∀ w ∈ u_ws C T N, w ∈ TB) (hk : k < N) (hT : (T k).1 = C) (hv : fs[k]? = some v) (hlink : .fieldLink own idx C (T k).2.1 (T k).2.2.1 ∈ TB) (hdg : decode cc pc = .ok (.getfield idx, 3)) (kk : W p l e R s m args below meth c H locs cells slots Q (F0 m (pc + 3) ls (v :: rest))) : W p l e R s m args below meth c H locs cells slots Q (F0 m pc ls (.ref (G.1 i) :: rest)) := by
  obtain ⟨⟨hx, hb, hml, hown, hts⟩, hK, -, -⟩ := hC
  obtain ⟨j, hj, hw⟩ := hS.1.at hi
  rw [he] at hw
  exact va_get hx hb hts hin hown hK.1 hS.1 j hw hcl k hk (hts _ hlink) (fun x h => by rw [hT] at h; exact h) hv hdg kk
theorem gxN (hC : SX p m c s args cc nL own G A) (hS : ST G A s M H locs) {C host : String} {T : u_T} {N ci idx i k : Nat} {fs : List Value} {v : Value} (hi : i ∈ gL G) (he : ce G.1 (gY G) M i = .inr (ci, fs)) (hcl : vwCl[ci]? = some (C, T, N)) (hin : ∀ w ∈ u_ws C T N, w ∈ TB) (hk : k < N) (hT : (T k).1 = C) (hv : fs[k]? = some v) (hlink : (own, idx, C, (T k).2.1, (T k).2.2.1, host) ∈ nwF) (hdg : decode cc pc = .ok (.getfield idx, 3)) (kk : W p l e R s m args below meth c H locs cells slots Q (F0 m (pc + 3) ls (v :: rest))) : W p l e R s m args below meth c H locs cells slots Q (F0 m pc ls (.ref (G.1 i) :: rest)) := by
  obtain ⟨⟨hx, hb, hml, hown, hts⟩, hK, -, -⟩ := hC
  obtain ⟨j, hj, hw⟩ := hS.1.at hi
  rw [he] at hw
  exact va_getN hx hb hts hin hown hK.1 hS.1 j hw hcl k hk (va_Nw.use rfl (hK.2.1 _ hlink)) (fun x h => by rw [hT] at h; exact h) hv hdg kk
theorem px (hC : SX p m c s args cc nL own G A) (hS : ST G A s M H locs) {C : String} {T : u_T} {ty0 : Nat → FieldType} {ty : FieldType} {N ci idx i k n : Nat} {fs : List Value} {x : Int32} (hi : i ∈ gL G) (he : ce G.1 (gY G) M i = .inr (ci, fs)) (hcl : vwCl[ci]? = some (C, T, N)) (hin : ∀ w ∈ u_ws C T N, w ∈ TB) (hty : ∀ k, k < N → parseFieldDescriptor (T k).2.2.1 = some (ty0 k)) (hnm : ∀ a, a < N → ∀ b, b < N → a ≠ b → (T a).2.1 ≠ (T b).2.1) (hk : k < N) (hT : (T k).1 = C) (hfin : (T k).2.2.2 = false) (hd : parseFieldDescriptor (T k).2.2.1 = some ty) (hn : narrow ty (.int x) = .int x) (hfit : fits ty (.int x) = true) (hl : k < fs.length) (how : ow n = i) (hset : ce G.1 (gY G) (sv M n x) i = .inr (ci, fs.set k (.int x))) (hlink : .fieldLink own idx C (T k).2.1 (T k).2.2.1 ∈ TB) (hdg : decode cc pc = .ok (.putfield idx, 3)) (kk : ∀ (H1 : Heap) (locs1 : List Loc), ST G A s (sv M n x) H1 locs1 → W p l e R s m args below meth c H1 locs1 cells slots Q (F0 m (pc + 3) ls rest)) : W p l e R s m args below meth c H locs cells slots Q (F0 m pc ls (.int x :: .ref (G.1 i) :: rest)) := by
  obtain ⟨⟨hx, hb, hml, hown, hts⟩, hK, -, hA⟩ := hC
  obtain ⟨j, hj, hw⟩ := hS.1.at hi
  rw [he] at hw
  refine va_put hx hb hts hin ty0 hty hnm hown hK.1 hS.1 (wl_D M hK.2.2.2.1 hK.2.2.2.2 hA) hS.2 j hw hcl k hk (hts _ hlink) (fun x h => by rw [hT] at h; exact h) hfin hd hn hfit hl hdg (fun H1 locs1 hP hD hS1 => ?_)
  rw [wl_set hK.2.2.2.1 hj hset (fun j' hj' => ce_svN j' (by rw [how]; exact hj'))] at hP
  exact kk H1 locs1 ⟨hP, hS1⟩
theorem pxN (hC : SX p m c s args cc nL own G A) (hS : ST G A s M H locs) {C host : String} {T : u_T} {ty0 : Nat → FieldType} {ty : FieldType} {N ci idx i k n : Nat} {fs : List Value} {x : Int32} (hi : i ∈ gL G) (he : ce G.1 (gY G) M i = .inr (ci, fs)) (hcl : vwCl[ci]? = some (C, T, N)) (hin : ∀ w ∈ u_ws C T N, w ∈ TB) (hty : ∀ k, k < N → parseFieldDescriptor (T k).2.2.1 = some (ty0 k)) (hnm : ∀ a, a < N → ∀ b, b < N → a ≠ b → (T a).2.1 ≠ (T b).2.1) (hk : k < N) (hT : (T k).1 = C) (hfin : (T k).2.2.2 = false) (hd : parseFieldDescriptor (T k).2.2.1 = some ty) (hn : narrow ty (.int x) = .int x) (hfit : fits ty (.int x) = true) (hl : k < fs.length) (how : ow n = i) (hset : ce G.1 (gY G) (sv M n x) i = .inr (ci, fs.set k (.int x))) (hlink : (own, idx, C, (T k).2.1, (T k).2.2.1, host) ∈ nwF) (hdg : decode cc pc = .ok (.putfield idx, 3)) (kk : ∀ (H1 : Heap) (locs1 : List Loc), ST G A s (sv M n x) H1 locs1 → W p l e R s m args below meth c H1 locs1 cells slots Q (F0 m (pc + 3) ls rest)) : W p l e R s m args below meth c H locs cells slots Q (F0 m pc ls (.int x :: .ref (G.1 i) :: rest)) := by
  obtain ⟨⟨hx, hb, hml, hown, hts⟩, hK, -, hA⟩ := hC
  obtain ⟨j, hj, hw⟩ := hS.1.at hi
  rw [he] at hw
  refine va_putN hx hb hts hin ty0 hty hnm hown hK.1 hS.1 (wl_D M hK.2.2.2.1 hK.2.2.2.2 hA) hS.2 j hw hcl k hk (va_Nw.use rfl (hK.2.1 _ hlink)) (fun x h => by rw [hT] at h; exact h) hfin hd hn hfit hl hdg (fun H1 locs1 hP hD hS1 => ?_)
  rw [wl_set hK.2.2.2.1 hj hset (fun j' hj' => ce_svN j' (by rw [how]; exact hj'))] at hP
  exact kk H1 locs1 ⟨hP, hS1⟩
/-- is the place in the row -/
def ix (i : Int32) (n : Nat) : Bool := !(decide (i < 0)) && decide (i.toNatClampNeg < n)
theorem ix_in {i : Int32} {n : Nat} (h : ix i n = true) : vp_in i n := by
  unfold ix at h
  simp only [Bool.and_eq_true, Bool.not_eq_true', decide_eq_false_iff_not, decide_eq_true_eq] at h
  intro h2
  rcases h2 with h2 | h2
  · exact h.1 h2
  · exact absurd h.2 (by omega)
theorem ald (hC : SX p m c s args cc nL own G A) (hS : ST G A s M H locs) {a : Nat} {i : Int32} (hi : a ∈ gL G) (ha : a < 50) (hkd : ak a = 0) (hin : ix i (al a) = true) (hdg : decode cc pc = .ok (.iaload, 1)) (kk : W p l e R s m args below meth c H locs cells slots Q (F0 m (pc + 1) ls (.int (M.2 a i.toNatClampNeg) :: rest))) : W p l e R s m args below meth c H locs cells slots Q (F0 m pc ls (.int i :: .ref (G.1 a) :: rest)) := by
  obtain ⟨⟨hx, hb, hml, hown, hts⟩, hK, -, -⟩ := hC
  obtain ⟨j, hj, hw⟩ := hS.1.at hi
  rw [ce_a ha, hkd] at hw
  exact va_iald hx hb hK.1 hS.1 j 0 hw rfl (ix_in hin) hdg kk
theorem bld (hC : SX p m c s args cc nL own G A) (hS : ST G A s M H locs) {a : Nat} {i : Int32} (hi : a ∈ gL G) (ha : a < 50) (hkd : ak a = 1) (hin : ix i (al a) = true) (hdg : decode cc pc = .ok (.baload, 1)) (kk : W p l e R s m args below meth c H locs cells slots Q (F0 m (pc + 1) ls (.int (M.2 a i.toNatClampNeg) :: rest))) : W p l e R s m args below meth c H locs cells slots Q (F0 m pc ls (.int i :: .ref (G.1 a) :: rest)) := by
  obtain ⟨⟨hx, hb, hml, hown, hts⟩, hK, -, -⟩ := hC
  obtain ⟨j, hj, hw⟩ := hS.1.at hi
  rw [ce_a ha, hkd] at hw
  exact va_bald hx hb hK.1 hS.1 j 1 hw rfl (ix_in hin) hdg kk
theorem zld (hC : SX p m c s args cc nL own G A) (hS : ST G A s M H locs) {a : Nat} {i : Int32} (hi : a ∈ gL G) (ha : a < 50) (hkd : ak a = 2) (hin : ix i (al a) = true) (hdg : decode cc pc = .ok (.baload, 1)) (kk : W p l e R s m args below meth c H locs cells slots Q (F0 m (pc + 1) ls (.int (M.2 a i.toNatClampNeg) :: rest))) : W p l e R s m args below meth c H locs cells slots Q (F0 m pc ls (.int i :: .ref (G.1 a) :: rest)) := by
  obtain ⟨⟨hx, hb, hml, hown, hts⟩, hK, -, -⟩ := hC
  obtain ⟨j, hj, hw⟩ := hS.1.at hi
  rw [ce_a ha, hkd] at hw
  exact va_zald hx hb hK.1 hS.1 j 2 hw rfl (ix_in hin) hdg kk
theorem ast (hC : SX p m c s args cc nL own G A) (hS : ST G A s M H locs) {a : Nat} {i x : Int32} (hi : a ∈ gL G) (ha : a < 50) (hkd : ak a = 0) (hin : ix i (al a) = true) (hdg : decode cc pc = .ok (.iastore, 1)) (kk : ∀ (H1 : Heap) (locs1 : List Loc), ST G A s (sa M a i.toNatClampNeg x) H1 locs1 → W p l e R s m args below meth c H1 locs1 cells slots Q (F0 m (pc + 1) ls rest)) : W p l e R s m args below meth c H locs cells slots Q (F0 m pc ls (.int x :: .int i :: .ref (G.1 a) :: rest)) := by
  obtain ⟨⟨hx, hb, hml, hown, hts⟩, hK, -, hA⟩ := hC
  obtain ⟨j, hj, hw⟩ := hS.1.at hi
  rw [ce_a ha, hkd] at hw
  refine va_iast hx hb hK.1 hS.1 (wl_D M hK.2.2.2.1 hK.2.2.2.2 hA) hS.2 j 0 hw rfl (ix_in hin) hdg (fun H1 locs1 hP hD hS1 => ?_)
  rw [wl_set (M' := sa M a i.toNatClampNeg x) hK.2.2.2.1 hj (by rw [ce_a ha, hkd]; simp only [sa, va_up, if_true]) (fun j' hj' => ce_sr (f := upd (M.2 a) i.toNatClampNeg x) j' hj')] at hP
  exact kk H1 locs1 ⟨hP, hS1⟩
theorem bst (hC : SX p m c s args cc nL own G A) (hS : ST G A s M H locs) {a : Nat} {i x : Int32} (hi : a ∈ gL G) (ha : a < 50) (hkd : ak a = 1) (hin : ix i (al a) = true) (hdg : decode cc pc = .ok (.bastore, 1)) (kk : ∀ (H1 : Heap) (locs1 : List Loc), ST G A s (sa M a i.toNatClampNeg (vp_nar .byte x)) H1 locs1 → W p l e R s m args below meth c H1 locs1 cells slots Q (F0 m (pc + 1) ls rest)) : W p l e R s m args below meth c H locs cells slots Q (F0 m pc ls (.int x :: .int i :: .ref (G.1 a) :: rest)) := by
  obtain ⟨⟨hx, hb, hml, hown, hts⟩, hK, -, hA⟩ := hC
  obtain ⟨j, hj, hw⟩ := hS.1.at hi
  rw [ce_a ha, hkd] at hw
  refine va_bast hx hb hK.1 hS.1 (wl_D M hK.2.2.2.1 hK.2.2.2.2 hA) hS.2 j 1 hw rfl (ix_in hin) hdg (fun H1 locs1 hP hD hS1 => ?_)
  rw [wl_set (M' := sa M a i.toNatClampNeg (vp_nar .byte x)) hK.2.2.2.1 hj (by rw [ce_a ha, hkd]; simp only [sa, va_up, if_true]) (fun j' hj' => ce_sr (f := upd (M.2 a) i.toNatClampNeg (vp_nar .byte x)) j' hj')] at hP
  exact kk H1 locs1 ⟨hP, hS1⟩
theorem zst (hC : SX p m c s args cc nL own G A) (hS : ST G A s M H locs) {a : Nat} {i x : Int32} (hi : a ∈ gL G) (ha : a < 50) (hkd : ak a = 2) (hin : ix i (al a) = true) (hdg : decode cc pc = .ok (.bastore, 1)) (kk : ∀ (H1 : Heap) (locs1 : List Loc), ST G A s (sa M a i.toNatClampNeg (vp_nar .boolean x)) H1 locs1 → W p l e R s m args below meth c H1 locs1 cells slots Q (F0 m (pc + 1) ls rest)) : W p l e R s m args below meth c H locs cells slots Q (F0 m pc ls (.int x :: .int i :: .ref (G.1 a) :: rest)) := by
  obtain ⟨⟨hx, hb, hml, hown, hts⟩, hK, -, hA⟩ := hC
  obtain ⟨j, hj, hw⟩ := hS.1.at hi
  rw [ce_a ha, hkd] at hw
  refine va_zast hx hb hK.1 hS.1 (wl_D M hK.2.2.2.1 hK.2.2.2.2 hA) hS.2 j 2 hw rfl (ix_in hin) hdg (fun H1 locs1 hP hD hS1 => ?_)
  rw [wl_set (M' := sa M a i.toNatClampNeg (vp_nar .boolean x)) hK.2.2.2.1 hj (by rw [ce_a ha, hkd]; simp only [sa, va_up, if_true]) (fun j' hj' => ce_sr (f := upd (M.2 a) i.toNatClampNeg (vp_nar .boolean x)) j' hj')] at hP
  exact kk H1 locs1 ⟨hP, hS1⟩
/-- a sheet out of the row of sheets -/
theorem shl_ (hC : SX p m c s args cc nL own G A) (hS : ST G A s M H locs) {i : Int32} (hi : 62 ∈ gL G) (hin : ix i 4 = true) (hdg : decode cc pc = .ok (.aaload, 1)) (kk : W p l e R s m args below meth c H locs cells slots Q (F0 m (pc + 1) ls (.ref (G.1 (57 + i.toNatClampNeg)) :: rest))) : W p l e R s m args below meth c H locs cells slots Q (F0 m pc ls (.int i :: .ref (G.1 62) :: rest)) := by
  obtain ⟨⟨hx, hb, hml, hown, hts⟩, hK, -, -⟩ := hC
  obtain ⟨j, hj, hw⟩ := hS.1.at hi
  exact va_aldq (C := "HeardWords$Sheet") (n := 4) (f := fun k => some (G.1 (57 + k))) hx hb hK.1 hS.1 j 3 hw rfl (ix_in hin) hdg kk
/-- behind a call -/
theorem rung {a : Array Value} {st0 : List Value} {v : Option Value} (hA : ∀ x, AG G x → A x) (hr : va_Run p l e R s m args below meth c H locs cells slots 0 0 (F0 m pc ls st0) rest (QV G v M' a) (AG G)) (hS : ST G A s M H locs) (kk : ∀ (H1 : Heap) (locs1 : List Loc), ST G A s M' H1 locs1 → W p l e R s m args below meth c H1 locs1 cells slots Q (F0 m (pc + 3) ls (v.toList ++ rest))) : W p l e R s m args below meth c H locs cells slots Q (F0 m pc ls st0) := by
  intro T hT X
  obtain ⟨v', st₀, t, T', L, h0, X', hL, e1, e2, ⟨hv, hP, hz, hk⟩, st⟩ := hr T hT X
  cases hv
  rw [h0] at hz hk
  obtain ⟨t2, a1, b1⟩ := kk t.heap (locs ++ L) ⟨hP, Nat.le_trans hS.2.1 hz, fun q h1 h2 => by rw [hk q (Nat.lt_of_lt_of_le h1 hS.2.1) (fun z => h2 (hA q z))]; exact hS.2.2.1 q h1 h2, fun q hq => by
      rcases List.mem_append.mp hq with h | h
      · exact hS.2.2.2 q h
      · exact hA _ (hL q h)⟩ T' e1 X'
  exact ⟨t2, st t2 a1, b1⟩
theorem gin {own C : String} {idx : Nat} {y : MethodName} {bytes : ByteArray} {n : Nat} {ret : Option FieldType} (h : .code y bytes n ret ∈ TB) : GoodIn TB (.code y bytes n ret :: TB) := by
  intro w hw
  rcases List.mem_cons.mp hw with rfl | hw
  · exact ⟨h, good_of_word (TB_good h)⟩
  · exact ⟨hw, good_of_word (TB_good hw)⟩
theorem preV_of (hC : SX p m c s args cc nL own G A) (hS : ST G A s M H locs) (hA : A = AG G) {av : List Value} : ∀ U : State, U.heap = H → s.WarmedH U.vm → PR G av M av.toArray U := by
  intro U hU hW
  subst hA
  refine ⟨rfl, hC.2.1.warm hW, ?_, by rw [hU]; exact hS.1⟩
  rw [hU]
  exact (hC.2.2.1.warm hW).kept (fun a h1 h2 => hS.2.2.1 a h1 h2)
/-- invokevirtual -/
theorem cV (hC : SX p m c s args cc nL own G (AG G)) (hS : ST G (AG G) s M H locs) {C : String} {T : u_T} {y : MethodName} {bytes : ByteArray} {maxL fr lo n idx ci i N : Nat} {ret : Option FieldType} {As fs : List Value} {v : Option Value} (hi : i ∈ gL G) (he : ce G.1 (gY G) M i = .inr (ci, fs)) (hcl : vwCl[ci]? = some (C, T, N)) (hM : MetG l G y bytes maxL ret fr lo (.ref (G.1 i) :: As) M v M') (hcode : .code y bytes maxL ret ∈ TB) (hml : .methodLink own idx y ∈ TB) (him : .instanceMethod y ∈ TB) (hse : .selects C y y ∈ TB) (hini : .initialized C ∈ TB) (hd : y.cls = C ∧ y.cls ≠ "java/lang/invoke/MethodHandle" ∧ y.cls ≠ "java/lang/invoke/VarHandle" ∧ (parseMethodDescriptor y.desc).map (fun d => d.parameters.length) = some n) (hR : fr + 1 ≤ R.frames ∧ 8 + (maxL + 11) + lo ≤ R.locals) (hn : As.length = n) (hsize : ls.size = nL) (hW : (rest.map fun v => v.category).sum ≤ 8) (hdg : decode cc pc = .ok (.invokevirtual idx, 3)) (hf : cells + 0 ≤ R.cells ∧ slots + 0 ≤ R.slots) (kk : ∀ (H1 : Heap) (locs1 : List Loc), ST G (AG G) s M' H1 locs1 → W p l e R s m args below meth c H1 locs1 cells slots Q (F0 m (pc + 3) ls (v.toList ++ rest))) : W p l e R s m args below meth c H locs cells slots Q (F0 m pc ls (As.reverse ++ .ref (G.1 i) :: rest)) := by
  obtain ⟨j, hj, hw⟩ := hS.1.at hi
  rw [he] at hw
  have hg : GoodIn TB (wsV own idx C y (.code y bytes maxL ret :: TB)) := by
    intro w hw
    rcases List.mem_append.mp hw with h | h
    · have hT : w ∈ TB := by
        simp only [List.mem_cons, List.not_mem_nil, or_false] at h
        rcases h with rfl | rfl | rfl | rfl
        · exact hml
        · exact him
        · exact hse
        · exact hini
      exact ⟨hT, good_of_word (TB_good hT)⟩
    · exact gin (own := own) (C := C) (idx := idx) hcode w h
  exact rung (fun _ h => h) (va_runV (g := F0 m pc ls (As.reverse ++ .ref (G.1 i) :: rest)) hC.1 hM (cwV n hC.1.2.2.2.2 hg rfl rfl rfl hd hR) ⟨PR_blind _ _ _, va_recv hC.2.1.1 hS.1 hcl hw, preV_of hC hS rfl⟩ rfl hn hsize rfl (lv_room hW) hdg hf) hS kk
/-- invokevirtual of a nest mate's private method -/
theorem cVN (hC : SX p m c s args cc nL own G (AG G)) (hS : ST G (AG G) s M H locs) {C host : String} {T : u_T} {y : MethodName} {bytes : ByteArray} {maxL fr lo n idx ci i N : Nat} {ret : Option FieldType} {As fs : List Value} {v : Option Value} (hi : i ∈ gL G) (he : ce G.1 (gY G) M i = .inr (ci, fs)) (hcl : vwCl[ci]? = some (C, T, N)) (hM : MetG l G y bytes maxL ret fr lo (.ref (G.1 i) :: As) M v M') (hcode : .code y bytes maxL ret ∈ TB) (hml : (own, idx, y, host) ∈ nwM) (him : .instanceMethod y ∈ TB) (hse : .selects C y y ∈ TB) (hini : .initialized y.cls ∈ TB) (hd : y.cls ≠ "java/lang/invoke/MethodHandle" ∧ y.cls ≠ "java/lang/invoke/VarHandle" ∧ (parseMethodDescriptor y.desc).map (fun d => d.parameters.length) = some n) (hR : fr + 1 ≤ R.frames ∧ 8 + (maxL + 11) + lo ≤ R.locals) (hn : As.length = n) (hsize : ls.size = nL) (hW : (rest.map fun v => v.category).sum ≤ 8) (hdg : decode cc pc = .ok (.invokevirtual idx, 3)) (hf : cells + 0 ≤ R.cells ∧ slots + 0 ≤ R.slots) (kk : ∀ (H1 : Heap) (locs1 : List Loc), ST G (AG G) s M' H1 locs1 → W p l e R s m args below meth c H1 locs1 cells slots Q (F0 m (pc + 3) ls (v.toList ++ rest))) : W p l e R s m args below meth c H locs cells slots Q (F0 m pc ls (As.reverse ++ .ref (G.1 i) :: rest)) := by
  obtain ⟨j, hj, hw⟩ := hS.1.at hi
  rw [he] at hw
  have hts := hC.1.2.2.2.2
  exact rung (fun _ h => h) (va_runVN (g := F0 m pc ls (As.reverse ++ .ref (G.1 i) :: rest)) hC.1 hM ⟨va_cnB n hts (gin (own := own) (C := C) (idx := idx) hcode) rfl rfl rfl (hC.2.1.2.2.1 _ hml) (hts _ hini) hd hR, hts _ him, hts _ hse⟩ ⟨PR_blind _ _ _, va_recv hC.2.1.1 hS.1 hcl hw, preV_of hC hS rfl⟩ rfl hn hsize rfl (lv_room hW) hdg hf) hS kk
/-- invokestatic -/
theorem cS (hC : SX p m c s args cc nL own G (AG G)) (hS : ST G (AG G) s M H locs) {y : MethodName} {bytes : ByteArray} {maxL fr lo n idx : Nat} {ret : Option FieldType} {As : List Value} {v : Option Value} (hM : MetG l G y bytes maxL ret fr lo As M v M') (hcode : .code y bytes maxL ret ∈ TB) (hml : .methodLink own idx y ∈ TB) (hst : .static y ∈ TB) (hini : .initialized y.cls ∈ TB) (hd : y.cls ≠ "java/lang/invoke/MethodHandle" ∧ y.cls ≠ "java/lang/invoke/VarHandle" ∧ (parseMethodDescriptor y.desc).map (fun d => d.parameters.length) = some n) (hR : fr + 1 ≤ R.frames ∧ 8 + (maxL + 11) + lo ≤ R.locals) (hn : As.length = n) (hsize : ls.size = nL) (hW : (rest.map fun v => v.category).sum ≤ 8) (hdg : decode cc pc = .ok (.invokestatic idx, 3)) (hf : cells + 0 ≤ R.cells ∧ slots + 0 ≤ R.slots) (kk : ∀ (H1 : Heap) (locs1 : List Loc), ST G (AG G) s M' H1 locs1 → W p l e R s m args below meth c H1 locs1 cells slots Q (F0 m (pc + 3) ls (v.toList ++ rest))) : W p l e R s m args below meth c H locs cells slots Q (F0 m pc ls (As.reverse ++ rest)) := by
  have hts := hC.1.2.2.2.2
  exact rung (fun _ h => h) (va_runS (g := F0 m pc ls (As.reverse ++ rest)) hC.1 hM ⟨callB_of n hts (gin (own := own) (C := own) (idx := idx) hcode) rfl rfl rfl (hts _ hini) (hts _ hml) hd hR, hts _ hst⟩ ⟨PR_blind _ _ _, preV_of hC hS rfl⟩ rfl hn hsize rfl (lv_room hW) hdg hf) hS kk
/-- ends -/
theorem endQ (hS : ST G (AG G) s M H locs) {v : Option Value} : ∀ t : State, t.heap = H → s.WarmedH t.vm → QV G v M args s (.returned v) t := fun t ht _ => ⟨rfl, by rw [ht]; exact hS.1, hS.2.F ht⟩
theorem retI (hC : SX p m c s args cc nL own G (AG G)) (hS : ST G (AG G) s M H locs) (hr : meth.sig.returnType = some .int) (hlk : meth.locks = false) {x r : Int32} {M0 : Mem} (hF : some (x, M) = some (r, M0)) (hdg : decode cc pc = .ok (.ireturn, 1)) : W p l e R s m args below meth c H locs cells slots (MQ below (QV G (some (.int r)) M0) args s cells slots (AG G)) (F0 m pc ls [.int x]) := by
  cases hF
  exact W.iret hC.1.1 hC.1.2.1 hr (endQ hS) hS.2.2.2 hdg hlk
theorem retZ (hC : SX p m c s args cc nL own G (AG G)) (hS : ST G (AG G) s M H locs) (hr : meth.sig.returnType = some .boolean) (hlk : meth.locks = false) {x r : Int32} {M0 : Mem} (hn : narrow .boolean (.int x) = .int x) (hF : some (x, M) = some (r, M0)) (hdg : decode cc pc = .ok (.ireturn, 1)) : W p l e R s m args below meth c H locs cells slots (MQ below (QV G (some (.int r)) M0) args s cells slots (AG G)) (F0 m pc ls [.int x]) := by
  cases hF
  exact W.zret hC.1.1 hC.1.2.1 hr hn (endQ hS) hS.2.2.2 hdg hlk
theorem retL (hC : SX p m c s args cc nL own G (AG G)) (hS : ST G (AG G) s M H locs) (hr : meth.sig.returnType = some .long) (hlk : meth.locks = false) {x r : Int64} {M0 : Mem} (hF : some (x, M) = some (r, M0)) (hdg : decode cc pc = .ok (.lreturn, 1)) : W p l e R s m args below meth c H locs cells slots (MQ below (QV G (some (.long r)) M0) args s cells slots (AG G)) (F0 m pc ls [.long x]) := by
  cases hF
  exact W.lret hC.1.1 hC.1.2.1 hr (endQ hS) hS.2.2.2 hdg hlk
theorem retV (hC : SX p m c s args cc nL own G (AG G)) (hS : ST G (AG G) s M H locs) (hr : meth.sig.returnType = none) (hlk : meth.locks = false) {M0 : Mem} (hF : some M = some M0) (hdg : decode cc pc = .ok (.return_, 1)) : W p l e R s m args below meth c H locs cells slots (MQ below (QV G none M0) args s cells slots (AG G)) (F0 m pc ls []) := by
  cases hF
  exact W.vret hC.1.1 hC.1.2.1 hr (endQ hS) hS.2.2.2 hdg hlk
/-- a reference's answer: the number of the object among its like -/
def rfv (G : GT) (b : Nat) (r : Option Nat) : Value := match r with
  | none => .null
  | some j => .ref (G.1 (b + j))
theorem retA (hC : SX p m c s args cc nL own G (AG G)) (hS : ST G (AG G) s M H locs) {b : Nat} {C : String} (hr : meth.sig.returnType = some (.object C)) (hlk : meth.locks = false) {x r : Option Nat} {M0 : Mem} (hF : some (x, M) = some (r, M0)) (hdg : decode cc pc = .ok (.areturn, 1)) : W p l e R s m args below meth c H locs cells slots (MQ below (QV G (some (rfv G b r)) M0) args s cells slots (AG G)) (F0 m pc ls [rfv G b x]) := by
  cases hF
  exact W.aret hC.1.1 hC.1.2.1 hr (Or.inl ⟨_, rfl⟩) (by cases x <;> simp [rfv]) (endQ hS) hS.2.2.2 hdg hlk
end WK
/-- a contract out of its body's walk -/
theorem MetG.of {l : Launch} {G : GT} {y : MethodName} {cc : ByteArray} {nL : Nat} {ret : Option FieldType} {fr lo : Nat} {av : List Value} {M : Mem} {v : Option Value} {M' : Mem} (hy : plainName y.cls = true) (hent : (lg_sl av).length ≤ nL)
    (body : ∀ p e s m args below meth c, SX p m c s args cc nL y.cls G (AG G) → meth.sig.returnType = ret → meth.locks = false → meth.name = y.name → ∀ ls, ST G (AG G) s M s.heap [] → lv_has ls nL (lv_args 0 av) → W p l e (RM fr lo) s m args below meth c s.heap [] 0 0 (MQ below (QV G v M') args s 0 0 (AG G)) (F0 m 0 ls [])) : MetG l G y cc nL ret fr lo av M v M' := by
  refine Met.ofW (cc := cc) (maxL := nL) (ret := ret) hy rfl ?_
  intro p e s m args below meth c s₁ B hml hv
  obtain ⟨rfl, hK, hG, hP⟩ := hv
  have hts := atoms_spec (ws := .code y cc nL ret :: TB) B.pre
  have hown : s.vm.findClass y.cls = some m.cls := findClass_of_methodNamed B.named
  rw [lg_entry_eq]
  exact body p e s m _ below meth c ⟨⟨B.exec, B.bytes, hml, hown, fun w h => hts w (List.mem_cons_of_mem _ h)⟩, hK, hG, fun _ h => h⟩ B.returns B.notSynchronized (name_of_methodNamed B.named B.method).1 _ ⟨hP, va_S.rf⟩ (lv_entry av hent)
/-! the words of the functions -/
def ckb {α : Type} (b : Bool) (x : Option α) : Option α := if b = true then x else none
theorem ckb_some {α : Type} {b : Bool} {x : Option α} {r : α} (h : ckb b x = some r) : b = true ∧ x = some r := by
  unfold ckb at h
  by_cases hb : b = true
  · rw [if_pos hb] at h
    exact ⟨hb, h⟩
  · rw [if_neg hb] at h
    cases h
def bd {α β : Type} (x : Option (α × Mem)) (f : α → Mem → Option β) : Option β := x.bind (fun y => f y.1 y.2)
theorem bd_some {α β : Type} {x : Option (α × Mem)} {f : α → Mem → Option β} {r : β} (h : bd x f = some r) : ∃ (a : α) (M : Mem), x = some (a, M) ∧ f a M = some r := by
  cases x with
  | none => cases h
  | some y => exact ⟨y.1, y.2, rfl, h⟩
def bdv {β : Type} (x : Option Mem) (f : Mem → Option β) : Option β := x.bind f
theorem bdv_some {β : Type} {x : Option Mem} {f : Mem → Option β} {r : β} (h : bdv x f = some r) : ∃ (M : Mem), x = some M ∧ f M = some r := by
  cases x with
  | none => cases h
  | some y => exact ⟨y, rfl, h⟩
def bdo {β : Type} (x : Option (Option Nat × Mem)) (f : Mem → Option β) (g : Nat → Mem → Option β) : Option β := match x with
  | none => none
  | some (none, M) => f M
  | some (some j, M) => g j M
theorem bdo_some {β : Type} {x : Option (Option Nat × Mem)} {f : Mem → Option β} {g : Nat → Mem → Option β} {r : β} (h : bdo x f g = some r) : (∃ M : Mem, x = some (none, M) ∧ f M = some r) ∨ ∃ (j : Nat) (M : Mem), x = some (some j, M) ∧ g j M = some r := by
  match x, h with
  | none, h => cases h
  | some (none, M), h => exact Or.inl ⟨M, rfl, h⟩
  | some (some j, M), h => exact Or.inr ⟨j, M, rfl, h⟩
/-- how often a loop may turn at most -/
def fu : Nat := 8192
end
section
/-! facts that the walks name -/
theorem subR : ∀ i ∈ LsR, i ∈ LsF := by decide
theorem mL {j : Nat} (h : j < 2) : 53 + j ∈ LsF := by
  match j, h with
  | 0, _ => decide
  | 1, _ => decide
theorem mT {j : Nat} (h : j < 2) : 12 + j ∈ LsF := by
  match j, h with
  | 0, _ => decide
  | 1, _ => decide
theorem mS {j : Nat} (h : j < 4) : 57 + j ∈ LsF := by
  match j, h with
  | 0, _ => decide
  | 1, _ => decide
  | 2, _ => decide
  | 3, _ => decide
theorem mI {j : Nat} (h : j < 4) : 18 + j ∈ LsF := by
  match j, h with
  | 0, _ => decide
  | 1, _ => decide
  | 2, _ => decide
  | 3, _ => decide
theorem kT {j : Nat} (h : j < 2) : 12 + j < 50 ∧ ak (12 + j) = 0 := by
  match j, h with
  | 0, _ => decide
  | 1, _ => decide
theorem kI {j : Nat} (h : j < 4) : 18 + j < 50 ∧ ak (18 + j) = 0 := by
  match j, h with
  | 0, _ => decide
  | 1, _ => decide
  | 2, _ => decide
  | 3, _ => decide
theorem ix4 {i : Int32} (h : ix i 4 = true) : i.toNatClampNeg < 4 := Nat.not_le.mp fun q => ix_in h (Or.inr q)
section CEX
variable {q : Nat → Nat} {cy : Nat → ClassId} {M : Mem} {x : Int32} {j : Nat}
theorem ceL (h : j < 2) : ce q cy M (53 + j) = .inr (2, [.ref (q (12 + j)), .int (M.1 (10 + 6 * j)), .int (M.1 (10 + 6 * j + 1)), .int (M.1 (10 + 6 * j + 2)), .int (M.1 (10 + 6 * j + 3)), .int (M.1 (10 + 6 * j + 4)), .int (M.1 (10 + 6 * j + 5))]) := by
  match j, h with
  | 0, _ => rfl
  | 1, _ => rfl
theorem ceS (h : j < 4) : ce q cy M (57 + j) = .inr (4, [.ref (q (18 + j)), .int (M.1 (22 + 3 * j)), .int (M.1 (22 + 3 * j + 1)), .int (M.1 (22 + 3 * j + 2))]) := by
  match j, h with
  | 0, _ => rfl
  | 1, _ => rfl
  | 2, _ => rfl
  | 3, _ => rfl
theorem owL0 (h : j < 2) : ow (10 + 6 * j) = 53 + j := by
  match j, h with
  | 0, _ => rfl
  | 1, _ => rfl
theorem owL1 (h : j < 2) : ow (10 + 6 * j + 1) = 53 + j := by
  match j, h with
  | 0, _ => rfl
  | 1, _ => rfl
theorem owL2 (h : j < 2) : ow (10 + 6 * j + 2) = 53 + j := by
  match j, h with
  | 0, _ => rfl
  | 1, _ => rfl
theorem owL3 (h : j < 2) : ow (10 + 6 * j + 3) = 53 + j := by
  match j, h with
  | 0, _ => rfl
  | 1, _ => rfl
theorem owL4 (h : j < 2) : ow (10 + 6 * j + 4) = 53 + j := by
  match j, h with
  | 0, _ => rfl
  | 1, _ => rfl
theorem owL5 (h : j < 2) : ow (10 + 6 * j + 5) = 53 + j := by
  match j, h with
  | 0, _ => rfl
  | 1, _ => rfl
theorem owS0 (h : j < 4) : ow (22 + 3 * j) = 57 + j := by
  match j, h with
  | 0, _ => rfl
  | 1, _ => rfl
  | 2, _ => rfl
  | 3, _ => rfl
theorem owS1 (h : j < 4) : ow (22 + 3 * j + 1) = 57 + j := by
  match j, h with
  | 0, _ => rfl
  | 1, _ => rfl
  | 2, _ => rfl
  | 3, _ => rfl
theorem owS2 (h : j < 4) : ow (22 + 3 * j + 2) = 57 + j := by
  match j, h with
  | 0, _ => rfl
  | 1, _ => rfl
  | 2, _ => rfl
  | 3, _ => rfl
theorem seL0 (h : j < 2) : ce q cy (sv M (10 + 6 * j) x) (53 + j) = .inr (2, [.ref (q (12 + j)), .int x, .int (M.1 (10 + 6 * j + 1)), .int (M.1 (10 + 6 * j + 2)), .int (M.1 (10 + 6 * j + 3)), .int (M.1 (10 + 6 * j + 4)), .int (M.1 (10 + 6 * j + 5))]) := by
  match j, h with
  | 0, _ => rfl
  | 1, _ => rfl
theorem seL1 (h : j < 2) : ce q cy (sv M (10 + 6 * j + 1) x) (53 + j) = .inr (2, [.ref (q (12 + j)), .int (M.1 (10 + 6 * j)), .int x, .int (M.1 (10 + 6 * j + 2)), .int (M.1 (10 + 6 * j + 3)), .int (M.1 (10 + 6 * j + 4)), .int (M.1 (10 + 6 * j + 5))]) := by
  match j, h with
  | 0, _ => rfl
  | 1, _ => rfl
theorem seL2 (h : j < 2) : ce q cy (sv M (10 + 6 * j + 2) x) (53 + j) = .inr (2, [.ref (q (12 + j)), .int (M.1 (10 + 6 * j)), .int (M.1 (10 + 6 * j + 1)), .int x, .int (M.1 (10 + 6 * j + 3)), .int (M.1 (10 + 6 * j + 4)), .int (M.1 (10 + 6 * j + 5))]) := by
  match j, h with
  | 0, _ => rfl
  | 1, _ => rfl
theorem seL3 (h : j < 2) : ce q cy (sv M (10 + 6 * j + 3) x) (53 + j) = .inr (2, [.ref (q (12 + j)), .int (M.1 (10 + 6 * j)), .int (M.1 (10 + 6 * j + 1)), .int (M.1 (10 + 6 * j + 2)), .int x, .int (M.1 (10 + 6 * j + 4)), .int (M.1 (10 + 6 * j + 5))]) := by
  match j, h with
  | 0, _ => rfl
  | 1, _ => rfl
theorem seL4 (h : j < 2) : ce q cy (sv M (10 + 6 * j + 4) x) (53 + j) = .inr (2, [.ref (q (12 + j)), .int (M.1 (10 + 6 * j)), .int (M.1 (10 + 6 * j + 1)), .int (M.1 (10 + 6 * j + 2)), .int (M.1 (10 + 6 * j + 3)), .int x, .int (M.1 (10 + 6 * j + 5))]) := by
  match j, h with
  | 0, _ => rfl
  | 1, _ => rfl
theorem seL5 (h : j < 2) : ce q cy (sv M (10 + 6 * j + 5) x) (53 + j) = .inr (2, [.ref (q (12 + j)), .int (M.1 (10 + 6 * j)), .int (M.1 (10 + 6 * j + 1)), .int (M.1 (10 + 6 * j + 2)), .int (M.1 (10 + 6 * j + 3)), .int (M.1 (10 + 6 * j + 4)), .int x]) := by
  match j, h with
  | 0, _ => rfl
  | 1, _ => rfl
theorem seS0 (h : j < 4) : ce q cy (sv M (22 + 3 * j) x) (57 + j) = .inr (4, [.ref (q (18 + j)), .int x, .int (M.1 (22 + 3 * j + 1)), .int (M.1 (22 + 3 * j + 2))]) := by
  match j, h with
  | 0, _ => rfl
  | 1, _ => rfl
  | 2, _ => rfl
  | 3, _ => rfl
theorem seS1 (h : j < 4) : ce q cy (sv M (22 + 3 * j + 1) x) (57 + j) = .inr (4, [.ref (q (18 + j)), .int (M.1 (22 + 3 * j)), .int x, .int (M.1 (22 + 3 * j + 2))]) := by
  match j, h with
  | 0, _ => rfl
  | 1, _ => rfl
  | 2, _ => rfl
  | 3, _ => rfl
theorem seS2 (h : j < 4) : ce q cy (sv M (22 + 3 * j + 2) x) (57 + j) = .inr (4, [.ref (q (18 + j)), .int (M.1 (22 + 3 * j)), .int (M.1 (22 + 3 * j + 1)), .int x]) := by
  match j, h with
  | 0, _ => rfl
  | 1, _ => rfl
  | 2, _ => rfl
  | 3, _ => rfl
end CEX
def CVt (y : MethodName) (bytes : ByteArray) (maxL : Nat) (ret : Option FieldType) (C : String) (n : Nat) : Prop := .code y bytes maxL ret ∈ TB ∧ .instanceMethod y ∈ TB ∧ .selects C y y ∈ TB ∧ .initialized C ∈ TB ∧ (y.cls = C ∧ y.cls ≠ "java/lang/invoke/MethodHandle" ∧ y.cls ≠ "java/lang/invoke/VarHandle" ∧ (parseMethodDescriptor y.desc).map (fun d => d.parameters.length) = some n)
def CSt (y : MethodName) (bytes : ByteArray) (maxL : Nat) (ret : Option FieldType) (n : Nat) : Prop := .code y bytes maxL ret ∈ TB ∧ .static y ∈ TB ∧ .initialized y.cls ∈ TB ∧ (y.cls ≠ "java/lang/invoke/MethodHandle" ∧ y.cls ≠ "java/lang/invoke/VarHandle" ∧ (parseMethodDescriptor y.desc).map (fun d => d.parameters.length) = some n)
/-- a copy between rows may be -/
def cpok (sp : Int32) (n0 : Nat) (dp : Int32) (n1 : Nat) (n : Int32) : Bool := !(decide (sp < 0)) && (!(decide (dp < 0)) && (!(decide (n < 0)) && (decide (sp.toNatClampNeg + n.toNatClampNeg ≤ n0) && decide (dp.toNatClampNeg + n.toNatClampNeg ≤ n1))))
/-- a truth value -/
def zb (x : Int32) : Bool := decide (x = 0) || decide (x = 1)
theorem zb_n {x : Int32} (h : zb x = true) : narrow .boolean (.int x) = .int x := by
  unfold zb at h
  rcases Bool.or_eq_true _ _ ▸ h with h | h
  · have h := of_decide_eq_true h
    subst h
    rfl
  · have h := of_decide_eq_true h
    subst h
    rfl
theorem neI {x : Int32} {k : Int32} (h : ¬ x = k) : ¬ x.toInt = k.toInt := fun e => h (Int32.toInt_inj.mp e)
theorem tOut0_6 {x : Int32} (h0 : ¬ x.toInt = (0 : Int32).toInt) (h1 : ¬ x.toInt = (1 : Int32).toInt) (h2 : ¬ x.toInt = (2 : Int32).toInt) (h3 : ¬ x.toInt = (3 : Int32).toInt) (h4 : ¬ x.toInt = (4 : Int32).toInt) (h5 : ¬ x.toInt = (5 : Int32).toInt) (h6 : ¬ x.toInt = (6 : Int32).toInt) : x.toInt < 0 ∨ 6 < x.toInt := by
  have e0 : (0 : Int32).toInt = 0 := rfl
  have e1 : (1 : Int32).toInt = 1 := rfl
  have e2 : (2 : Int32).toInt = 2 := rfl
  have e3 : (3 : Int32).toInt = 3 := rfl
  have e4 : (4 : Int32).toInt = 4 := rfl
  have e5 : (5 : Int32).toInt = 5 := rfl
  have e6 : (6 : Int32).toInt = 6 := rfl
  omega
theorem tOut0_5 {x : Int32} (h0 : ¬ x.toInt = (0 : Int32).toInt) (h1 : ¬ x.toInt = (1 : Int32).toInt) (h2 : ¬ x.toInt = (2 : Int32).toInt) (h3 : ¬ x.toInt = (3 : Int32).toInt) (h4 : ¬ x.toInt = (4 : Int32).toInt) (h5 : ¬ x.toInt = (5 : Int32).toInt) : x.toInt < 0 ∨ 5 < x.toInt := by
  have e0 : (0 : Int32).toInt = 0 := rfl
  have e1 : (1 : Int32).toInt = 1 := rfl
  have e2 : (2 : Int32).toInt = 2 := rfl
  have e3 : (3 : Int32).toInt = 3 := rfl
  have e4 : (4 : Int32).toInt = 4 := rfl
  have e5 : (5 : Int32).toInt = 5 := rfl
  omega
theorem tOut0_3 {x : Int32} (h0 : ¬ x.toInt = (0 : Int32).toInt) (h1 : ¬ x.toInt = (1 : Int32).toInt) (h2 : ¬ x.toInt = (2 : Int32).toInt) (h3 : ¬ x.toInt = (3 : Int32).toInt) : x.toInt < 0 ∨ 3 < x.toInt := by
  have e0 : (0 : Int32).toInt = 0 := rfl
  have e1 : (1 : Int32).toInt = 1 := rfl
  have e2 : (2 : Int32).toInt = 2 := rfl
  have e3 : (3 : Int32).toInt = 3 := rfl
  omega
theorem tOut0_2 {x : Int32} (h0 : ¬ x.toInt = (0 : Int32).toInt) (h1 : ¬ x.toInt = (1 : Int32).toInt) (h2 : ¬ x.toInt = (2 : Int32).toInt) : x.toInt < 0 ∨ 2 < x.toInt := by
  have e0 : (0 : Int32).toInt = 0 := rfl
  have e1 : (1 : Int32).toInt = 1 := rfl
  have e2 : (2 : Int32).toInt = 2 := rfl
  omega
theorem tOut0_8 {x : Int32} (h0 : ¬ x.toInt = (0 : Int32).toInt) (h1 : ¬ x.toInt = (1 : Int32).toInt) (h2 : ¬ x.toInt = (2 : Int32).toInt) (h3 : ¬ x.toInt = (3 : Int32).toInt) (h4 : ¬ x.toInt = (4 : Int32).toInt) (h5 : ¬ x.toInt = (5 : Int32).toInt) (h6 : ¬ x.toInt = (6 : Int32).toInt) (h7 : ¬ x.toInt = (7 : Int32).toInt) (h8 : ¬ x.toInt = (8 : Int32).toInt) : x.toInt < 0 ∨ 8 < x.toInt := by
  have e0 : (0 : Int32).toInt = 0 := rfl
  have e1 : (1 : Int32).toInt = 1 := rfl
  have e2 : (2 : Int32).toInt = 2 := rfl
  have e3 : (3 : Int32).toInt = 3 := rfl
  have e4 : (4 : Int32).toInt = 4 := rfl
  have e5 : (5 : Int32).toInt = 5 := rfl
  have e6 : (6 : Int32).toInt = 6 := rfl
  have e7 : (7 : Int32).toInt = 7 := rfl
  have e8 : (8 : Int32).toInt = 8 := rfl
  omega
section WC
variable {p : Program} {l : Launch} {e : Env} {R : Room} {s : State} {m : MethodId} {args : Array Value} {below : List Frame} {meth : Method} {c : Code} {H : Heap} {locs : List Loc} {cells slots : Nat} {Q : State → Prop} {pc : Nat} {ls : Array Slot} {rest st1 : List Value} {cc : ByteArray} {nL : Nat} {own : String} {G : GT} {M M' : Mem}
theorem cV_ (hC : SX p m c s args cc nL own G (AG G)) (hS : ST G (AG G) s M H locs) {C : String} {T : u_T} {y : MethodName} {bytes : ByteArray} {maxL fr lo n idx ci i N : Nat} {ret : Option FieldType} {As fs : List Value} {v : Option Value} (hi : i ∈ gL G) (he : ce G.1 (gY G) M i = .inr (ci, fs)) (hcl : vwCl[ci]? = some (C, T, N)) (hM : MetG l G y bytes maxL ret fr lo (.ref (G.1 i) :: As) M v M') (hk : CVt y bytes maxL ret C n) (hml : .methodLink own idx y ∈ TB) (hR : fr + 1 ≤ R.frames ∧ 8 + (maxL + 11) + lo ≤ R.locals) (hn : As.length = n) (hsize : ls.size = nL) (hW : (rest.map fun v => v.category).sum ≤ 8) (hdg : decode cc pc = .ok (.invokevirtual idx, 3)) (hf : cells + 0 ≤ R.cells ∧ slots + 0 ≤ R.slots) (hst : v.toList ++ rest = st1) (kk : ∀ (H1 : Heap) (locs1 : List Loc), ST G (AG G) s M' H1 locs1 → W p l e R s m args below meth c H1 locs1 cells slots Q (F0 m (pc + 3) ls st1)) : W p l e R s m args below meth c H locs cells slots Q (F0 m pc ls (As.reverse ++ .ref (G.1 i) :: rest)) := by
  subst hst
  exact cV hC hS hi he hcl hM hk.1 hml hk.2.1 hk.2.2.1 hk.2.2.2.1 hk.2.2.2.2 hR hn hsize hW hdg hf kk
theorem cN_ (hC : SX p m c s args cc nL own G (AG G)) (hS : ST G (AG G) s M H locs) {C host : String} {T : u_T} {y : MethodName} {bytes : ByteArray} {maxL fr lo n idx ci i N : Nat} {ret : Option FieldType} {As fs : List Value} {v : Option Value} (hi : i ∈ gL G) (he : ce G.1 (gY G) M i = .inr (ci, fs)) (hcl : vwCl[ci]? = some (C, T, N)) (hM : MetG l G y bytes maxL ret fr lo (.ref (G.1 i) :: As) M v M') (hk : CVt y bytes maxL ret C n) (hml : (own, idx, y, host) ∈ nwM) (hR : fr + 1 ≤ R.frames ∧ 8 + (maxL + 11) + lo ≤ R.locals) (hn : As.length = n) (hsize : ls.size = nL) (hW : (rest.map fun v => v.category).sum ≤ 8) (hdg : decode cc pc = .ok (.invokevirtual idx, 3)) (hf : cells + 0 ≤ R.cells ∧ slots + 0 ≤ R.slots) (hst : v.toList ++ rest = st1) (kk : ∀ (H1 : Heap) (locs1 : List Loc), ST G (AG G) s M' H1 locs1 → W p l e R s m args below meth c H1 locs1 cells slots Q (F0 m (pc + 3) ls st1)) : W p l e R s m args below meth c H locs cells slots Q (F0 m pc ls (As.reverse ++ .ref (G.1 i) :: rest)) := by
  subst hst
  obtain ⟨k1, k2, k3, k4, k5, k6⟩ := hk
  subst k5
  exact cVN hC hS hi he hcl hM k1 hml k2 k3 k4 k6 hR hn hsize hW hdg hf kk
theorem cS_ (hC : SX p m c s args cc nL own G (AG G)) (hS : ST G (AG G) s M H locs) {y : MethodName} {bytes : ByteArray} {maxL fr lo n idx : Nat} {ret : Option FieldType} {As : List Value} {v : Option Value} (hM : MetG l G y bytes maxL ret fr lo As M v M') (hk : CSt y bytes maxL ret n) (hml : .methodLink own idx y ∈ TB) (hR : fr + 1 ≤ R.frames ∧ 8 + (maxL + 11) + lo ≤ R.locals) (hn : As.length = n) (hsize : ls.size = nL) (hW : (rest.map fun v => v.category).sum ≤ 8) (hdg : decode cc pc = .ok (.invokestatic idx, 3)) (hf : cells + 0 ≤ R.cells ∧ slots + 0 ≤ R.slots) (hst : v.toList ++ rest = st1) (kk : ∀ (H1 : Heap) (locs1 : List Loc), ST G (AG G) s M' H1 locs1 → W p l e R s m args below meth c H1 locs1 cells slots Q (F0 m (pc + 3) ls st1)) : W p l e R s m args below meth c H locs cells slots Q (F0 m pc ls (As.reverse ++ rest)) := by
  subst hst
  exact cS hC hS hM hk.1 hml hk.2.1 hk.2.2.1 hk.2.2.2 hR hn hsize hW hdg hf kk
theorem alen_ (hC : SX p m c s args cc nL own G (AG G)) (hS : ST G (AG G) s M H locs) {a : Nat} (hi : a ∈ gL G) (ha : a < 50) (hkd : ak a = 0) (hdg : decode cc pc = .ok (.arraylength, 1)) (kk : W p l e R s m args below meth c H locs cells slots Q (F0 m (pc + 1) ls (.int (Int32.ofNat (al a)) :: rest))) : W p l e R s m args below meth c H locs cells slots Q (F0 m pc ls (.ref (G.1 a) :: rest)) := by
  obtain ⟨⟨hx, hb, hml, hown, hts⟩, hK, -, -⟩ := hC
  obtain ⟨j, hj, hw⟩ := hS.1.at hi
  rw [ce_a ha, hkd] at hw
  exact va_alen hx hb hK.1 hS.1 j 0 hw (ty := .int) rfl rfl hdg kk
theorem acN : Cond.native arraycopyName ∈ TB := TB_of (List.mem_of_getElem? (i := 659) (by decide +kernel)) rfl
theorem acS : Cond.static arraycopyName ∈ TB := TB_of (List.mem_of_getElem? (i := 658) (by decide +kernel)) rfl
theorem acI : Cond.initialized "java/lang/System" ∈ TB := TB_of (List.mem_of_getElem? (i := 17) (by decide +kernel)) rfl
theorem cpy_ (hC : SX p m c s args cc nL own G (AG G)) (hS : ST G (AG G) s M H locs) {a b idx : Nat} {sp dp n : Int32} (hml : .methodLink own idx arraycopyName ∈ TB) (hi : a ∈ gL G) (ha : a < 50) (hkd : ak a = 0) (hi2 : b ∈ gL G) (ha2 : b < 50) (hkd2 : ak b = 0) (hok : cpok sp (al a) dp (al b) n = true) (hfr : 1 ≤ R.frames) (hlo : (rest.map fun v => v.category).sum + (nativeFrameWords "java/lang/System" "arraycopy" 5 + 11) ≤ R.locals) (hsize : ls.size = nL) (hdg : decode cc pc = .ok (.invokestatic idx, 3)) (kk : ∀ (H1 : Heap) (locs1 : List Loc), ST G (AG G) s (sr M b (va_cpy (M.2 a) (M.2 b) sp.toNatClampNeg dp.toNatClampNeg n.toNatClampNeg)) H1 locs1 → W p l e R s m args below meth c H1 locs1 cells slots Q (F0 m (pc + 3) ls rest)) : W p l e R s m args below meth c H locs cells slots Q (F0 m pc ls (.int n :: .int dp :: .ref (G.1 b) :: .int sp :: .ref (G.1 a) :: rest)) := by
  obtain ⟨⟨hx, hb, hml2, hown, hts⟩, hK, -, hA⟩ := hC
  obtain ⟨j, hj, hw⟩ := hS.1.at hi
  obtain ⟨j2, hj2, hw2⟩ := hS.1.at hi2
  rw [ce_a ha, hkd] at hw
  rw [ce_a ha2, hkd2] at hw2
  unfold cpok at hok
  simp only [Bool.and_eq_true, Bool.not_eq_true', decide_eq_false_iff_not, decide_eq_true_eq] at hok
  refine va_copyi hx hb (hml2.trans hsize.symm) hown (hts _ hml) (hts _ acN) (hts _ acS) (hts _ acI) hK.1 hS.1 (wl_D M hK.2.2.2.1 hK.2.2.2.2 hA) hS.2 j j2 0 0 hw hw2 rfl rfl rfl hok.1 hok.2.1 hok.2.2.1 hok.2.2.2.1 hok.2.2.2.2 (fun _ _ => rfl) hfr hlo hdg (fun H1 locs1 hP hD hS1 => ?_)
  rw [wl_set (M' := sr M b (va_cpy (M.2 a) (M.2 b) sp.toNatClampNeg dp.toNatClampNeg n.toNatClampNeg)) hK.2.2.2.1 hj2 (by rw [ce_a ha2, hkd2]; simp only [sr, va_up, if_true]) (fun j' hj' => ce_sr j' hj')] at hP
  exact kk H1 locs1 ⟨hP, hS1⟩
end WC

theorem in_X0 : ∀ w ∈ u_ws RX0 TX0 6, w ∈ TB := by decide +kernel
theorem in_X1 : ∀ w ∈ u_ws RX1 TX1 4, w ∈ TB := by decide +kernel
theorem in_X2 : ∀ w ∈ u_ws RX2 TX2 7, w ∈ TB := by decide +kernel
theorem in_X3 : ∀ w ∈ u_ws RX3 TX3 2, w ∈ TB := by decide +kernel
theorem in_X4 : ∀ w ∈ u_ws RX4 TX4 4, w ∈ TB := by decide +kernel
theorem in_X5 : ∀ w ∈ u_ws RX5 TX5 13, w ∈ TB := by decide +kernel
theorem in_X6 : ∀ w ∈ u_ws RX6 TX6 8, w ∈ TB := by decide +kernel
theorem in_X7 : ∀ w ∈ u_ws RX7 TX7 29, w ∈ TB := by decide +kernel
theorem se_X0_5 {q : Nat → Nat} {cy : Nat → ClassId} {M : Mem} {x : Int32} : ce q cy (sv M 6 x) 56 = .inr (0, [.ref (q 52), .ref (q 14), .ref (q 15), .ref (q 16), .ref (q 17), .int x]) := rfl
theorem se_X1_1 {q : Nat → Nat} {cy : Nat → ClassId} {M : Mem} {x : Int32} : ce q cy (sv M 3 x) 55 = .inr (1, [.ref (q 52), .int x, .int (M.1 4), .int (M.1 5)]) := rfl
theorem se_X1_2 {q : Nat → Nat} {cy : Nat → ClassId} {M : Mem} {x : Int32} : ce q cy (sv M 4 x) 55 = .inr (1, [.ref (q 52), .int (M.1 3), .int x, .int (M.1 5)]) := rfl
theorem se_X1_3 {q : Nat → Nat} {cy : Nat → ClassId} {M : Mem} {x : Int32} : ce q cy (sv M 5 x) 55 = .inr (1, [.ref (q 52), .int (M.1 3), .int (M.1 4), .int x]) := rfl
theorem se_X5_10 {q : Nat → Nat} {cy : Nat → ClassId} {M : Mem} {x : Int32} : ce q cy (sv M 0 x) 52 = .inr (5, [.ref (q 2), .ref (q 3), .ref (q 4), .ref (q 5), .ref (q 6), .ref (q 7), .ref (q 8), .ref (q 9), .ref (q 10), .ref (q 11), .int x, .int (M.1 1), .int (M.1 2)]) := rfl
theorem se_X5_11 {q : Nat → Nat} {cy : Nat → ClassId} {M : Mem} {x : Int32} : ce q cy (sv M 1 x) 52 = .inr (5, [.ref (q 2), .ref (q 3), .ref (q 4), .ref (q 5), .ref (q 6), .ref (q 7), .ref (q 8), .ref (q 9), .ref (q 10), .ref (q 11), .int (M.1 0), .int x, .int (M.1 2)]) := rfl
theorem se_X5_12 {q : Nat → Nat} {cy : Nat → ClassId} {M : Mem} {x : Int32} : ce q cy (sv M 2 x) 52 = .inr (5, [.ref (q 2), .ref (q 3), .ref (q 4), .ref (q 5), .ref (q 6), .ref (q 7), .ref (q 8), .ref (q 9), .ref (q 10), .ref (q 11), .int (M.1 0), .int (M.1 1), .int x]) := rfl
theorem se_X6_7 {q : Nat → Nat} {cy : Nat → ClassId} {M : Mem} {x : Int32} : ce q cy (sv M 7 x) 50 = .inr (6, [.ref (q 51), .ref (q 52), .ref (q 53), .ref (q 54), .ref (q 62), .ref (q 55), .ref (q 56), .int x]) := rfl
theorem se_X7_2 {q : Nat → Nat} {cy : Nat → ClassId} {M : Mem} {x : Int32} : ce q cy (sv M 40 x) 61 = .inr (7, [.ref (q 22), .ref (q 23), .int x, .ref (q 24), .ref (q 25), .ref (q 26), .ref (q 27), .ref (q 28), .int (M.1 41), .int (M.1 42), .ref (q 29), .ref (q 30), .ref (q 31), .ref (q 32), .ref (q 33), .int (M.1 43), .int (M.1 44), .int (M.1 45), .int (M.1 46), .int (M.1 47), .ref (q 34), .ref (q 35), .ref (q 36), .ref (q 37), .ref (q 38), .ref (q 39), .ref (q 40), .ref (q 41), .int (M.1 48)]) := rfl
theorem se_X7_8 {q : Nat → Nat} {cy : Nat → ClassId} {M : Mem} {x : Int32} : ce q cy (sv M 41 x) 61 = .inr (7, [.ref (q 22), .ref (q 23), .int (M.1 40), .ref (q 24), .ref (q 25), .ref (q 26), .ref (q 27), .ref (q 28), .int x, .int (M.1 42), .ref (q 29), .ref (q 30), .ref (q 31), .ref (q 32), .ref (q 33), .int (M.1 43), .int (M.1 44), .int (M.1 45), .int (M.1 46), .int (M.1 47), .ref (q 34), .ref (q 35), .ref (q 36), .ref (q 37), .ref (q 38), .ref (q 39), .ref (q 40), .ref (q 41), .int (M.1 48)]) := rfl
theorem se_X7_9 {q : Nat → Nat} {cy : Nat → ClassId} {M : Mem} {x : Int32} : ce q cy (sv M 42 x) 61 = .inr (7, [.ref (q 22), .ref (q 23), .int (M.1 40), .ref (q 24), .ref (q 25), .ref (q 26), .ref (q 27), .ref (q 28), .int (M.1 41), .int x, .ref (q 29), .ref (q 30), .ref (q 31), .ref (q 32), .ref (q 33), .int (M.1 43), .int (M.1 44), .int (M.1 45), .int (M.1 46), .int (M.1 47), .ref (q 34), .ref (q 35), .ref (q 36), .ref (q 37), .ref (q 38), .ref (q 39), .ref (q 40), .ref (q 41), .int (M.1 48)]) := rfl
theorem se_X7_15 {q : Nat → Nat} {cy : Nat → ClassId} {M : Mem} {x : Int32} : ce q cy (sv M 43 x) 61 = .inr (7, [.ref (q 22), .ref (q 23), .int (M.1 40), .ref (q 24), .ref (q 25), .ref (q 26), .ref (q 27), .ref (q 28), .int (M.1 41), .int (M.1 42), .ref (q 29), .ref (q 30), .ref (q 31), .ref (q 32), .ref (q 33), .int x, .int (M.1 44), .int (M.1 45), .int (M.1 46), .int (M.1 47), .ref (q 34), .ref (q 35), .ref (q 36), .ref (q 37), .ref (q 38), .ref (q 39), .ref (q 40), .ref (q 41), .int (M.1 48)]) := rfl
theorem se_X7_16 {q : Nat → Nat} {cy : Nat → ClassId} {M : Mem} {x : Int32} : ce q cy (sv M 44 x) 61 = .inr (7, [.ref (q 22), .ref (q 23), .int (M.1 40), .ref (q 24), .ref (q 25), .ref (q 26), .ref (q 27), .ref (q 28), .int (M.1 41), .int (M.1 42), .ref (q 29), .ref (q 30), .ref (q 31), .ref (q 32), .ref (q 33), .int (M.1 43), .int x, .int (M.1 45), .int (M.1 46), .int (M.1 47), .ref (q 34), .ref (q 35), .ref (q 36), .ref (q 37), .ref (q 38), .ref (q 39), .ref (q 40), .ref (q 41), .int (M.1 48)]) := rfl
theorem se_X7_17 {q : Nat → Nat} {cy : Nat → ClassId} {M : Mem} {x : Int32} : ce q cy (sv M 45 x) 61 = .inr (7, [.ref (q 22), .ref (q 23), .int (M.1 40), .ref (q 24), .ref (q 25), .ref (q 26), .ref (q 27), .ref (q 28), .int (M.1 41), .int (M.1 42), .ref (q 29), .ref (q 30), .ref (q 31), .ref (q 32), .ref (q 33), .int (M.1 43), .int (M.1 44), .int x, .int (M.1 46), .int (M.1 47), .ref (q 34), .ref (q 35), .ref (q 36), .ref (q 37), .ref (q 38), .ref (q 39), .ref (q 40), .ref (q 41), .int (M.1 48)]) := rfl
theorem se_X7_18 {q : Nat → Nat} {cy : Nat → ClassId} {M : Mem} {x : Int32} : ce q cy (sv M 46 x) 61 = .inr (7, [.ref (q 22), .ref (q 23), .int (M.1 40), .ref (q 24), .ref (q 25), .ref (q 26), .ref (q 27), .ref (q 28), .int (M.1 41), .int (M.1 42), .ref (q 29), .ref (q 30), .ref (q 31), .ref (q 32), .ref (q 33), .int (M.1 43), .int (M.1 44), .int (M.1 45), .int x, .int (M.1 47), .ref (q 34), .ref (q 35), .ref (q 36), .ref (q 37), .ref (q 38), .ref (q 39), .ref (q 40), .ref (q 41), .int (M.1 48)]) := rfl
theorem se_X7_19 {q : Nat → Nat} {cy : Nat → ClassId} {M : Mem} {x : Int32} : ce q cy (sv M 47 x) 61 = .inr (7, [.ref (q 22), .ref (q 23), .int (M.1 40), .ref (q 24), .ref (q 25), .ref (q 26), .ref (q 27), .ref (q 28), .int (M.1 41), .int (M.1 42), .ref (q 29), .ref (q 30), .ref (q 31), .ref (q 32), .ref (q 33), .int (M.1 43), .int (M.1 44), .int (M.1 45), .int (M.1 46), .int x, .ref (q 34), .ref (q 35), .ref (q 36), .ref (q 37), .ref (q 38), .ref (q 39), .ref (q 40), .ref (q 41), .int (M.1 48)]) := rfl
theorem se_X7_28 {q : Nat → Nat} {cy : Nat → ClassId} {M : Mem} {x : Int32} : ce q cy (sv M 48 x) 61 = .inr (7, [.ref (q 22), .ref (q 23), .int (M.1 40), .ref (q 24), .ref (q 25), .ref (q 26), .ref (q 27), .ref (q 28), .int (M.1 41), .int (M.1 42), .ref (q 29), .ref (q 30), .ref (q 31), .ref (q 32), .ref (q 33), .int (M.1 43), .int (M.1 44), .int (M.1 45), .int (M.1 46), .int (M.1 47), .ref (q 34), .ref (q 35), .ref (q 36), .ref (q 37), .ref (q 38), .ref (q 39), .ref (q 40), .ref (q 41), .int x]) := rfl
theorem lf_X1_21 : Cond.fieldLink RX1 21 RX1 (TX1 0).2.1 (TX1 0).2.2.1 ∈ TB := TB_of (List.mem_of_getElem? (i := 163) (by decide +kernel)) rfl
theorem lf_X3_9 : Cond.fieldLink RX3 9 RX3 (TX3 0).2.1 (TX3 0).2.2.1 ∈ TB := TB_of (List.mem_of_getElem? (i := 40) (by decide +kernel)) rfl
theorem lf_X3_15 : Cond.fieldLink RX3 15 RX3 (TX3 1).2.1 (TX3 1).2.2.1 ∈ TB := TB_of (List.mem_of_getElem? (i := 41) (by decide +kernel)) rfl
theorem ln_X1_85 : (RX1, 85, RX2, (TX2 4).2.1, (TX2 4).2.2.1, "HeardWords") ∈ nwF := List.mem_of_getElem? (i := 27) (by decide +kernel)
theorem ln_X1_88 : (RX1, 88, RX5, (TX5 2).2.1, (TX5 2).2.2.1, "HeardWords") ∈ nwF := List.mem_of_getElem? (i := 6) (by decide +kernel)
theorem lm_X3_18 : Cond.methodLink RX3 18 yX3_seekQuickest ∈ TB := TB_of (List.mem_of_getElem? (i := 32) (by decide +kernel)) rfl
theorem lm_X3_21 : Cond.methodLink RX3 21 yX3_shortenThrough ∈ TB := TB_of (List.mem_of_getElem? (i := 36) (by decide +kernel)) rfl
theorem kV_X3_seekQuickest : CVt yX3_seekQuickest cX3_seekQuickest 4 none RX3 0 := ⟨TB_of (List.mem_of_getElem? (i := 35) (by decide +kernel)) rfl, TB_of (List.mem_of_getElem? (i := 34) (by decide +kernel)) rfl, TB_sel (List.mem_of_getElem? (i := 0) (by decide +kernel)) rfl, TB_of (List.mem_of_getElem? (i := 2) (by decide +kernel)) rfl, by decide +kernel⟩
theorem kV_X3_shortenThrough : CVt yX3_shortenThrough cX3_shortenThrough 5 none RX3 1 := ⟨TB_of (List.mem_of_getElem? (i := 39) (by decide +kernel)) rfl, TB_of (List.mem_of_getElem? (i := 38) (by decide +kernel)) rfl, TB_sel (List.mem_of_getElem? (i := 1) (by decide +kernel)) rfl, TB_of (List.mem_of_getElem? (i := 2) (by decide +kernel)) rfl, by decide +kernel⟩
end
section
section
variable {p : Program} {l : Launch} {e : Env} {s : State} {m : MethodId} {args : Array Value} {below : List Frame} {meth : Method} {c : Code} {G : GT}
def F_X3_between (x1 : Int32) (x2 : Int32) (M : Mem) : Option (Int32 × Mem) := ckb (ix ((x1 * 6) + x2) 36) (some (M.2 1 ((x1 * 6) + x2).toNatClampNeg, M))
set_option maxHeartbeats 4000000 in
set_option maxRecDepth 100000 in
theorem b_X3_between {M0 : Mem} {r0 : Int32} (hC : SX p m c s args cX3_between 3 RX3 G (AG G)) (hr : meth.sig.returnType = (some .int)) (hlk : meth.locks = false) (hn : ∀ i ∈ LsR, i ∈ gL G) : ∀ (x1 : Int32) (x2 : Int32) (M : Mem) (H : Heap) (locs : List Loc) (ls : Array Slot), F_X3_between x1 x2 M = some (r0, M0) → ST G (AG G) s M H locs → lv_has ls 3 [(0, .ref (G.1 51)), (1, .int x1), (2, .int x2)] → W p l e (RM 0 0) s m args below meth c H locs 0 0 (MQ below (QV G (some (.int r0)) M0) args s 0 0 (AG G)) (F0 m 0 ls []) := by
  obtain ⟨⟨hx, hb, hml, hown, hts⟩, hK, hG, hA⟩ := id hC
  intro x1 x2 M H locs ls hF hS hl
  unfold F_X3_between at hF
  refine lv_aload_n hx hb dX3_between_0 rfl (lv_at hl 0 rfl) ?_
  refine gx (ci := 3) (k := 1) (v := .ref (G.1 1)) (C := RX3) (T := TX3) (N := 2) hC hS (hn _ (by decide)) rfl rfl in_X3 (by decide) rfl rfl lf_X3_15 dX3_between_1 ?_
  refine lv_iload_n hx hb dX3_between_4 rfl (lv_at hl 1 rfl) ?_
  refine lv_bipush (v := 6) hx hb dX3_between_5 (by decide) ?_
  refine lv_imul hx hb dX3_between_7 ?_
  refine lv_iload_n hx hb dX3_between_8 rfl (lv_at hl 2 rfl) ?_
  refine lv_iadd hx hb dX3_between_9 ?_
  obtain ⟨hi, hF⟩ := ckb_some hF
  refine ald hC hS (hn _ (by decide)) (by decide) rfl hi dX3_between_10 ?_
  exact retI hC hS hr hlk hF dX3_between_11
set_option maxRecDepth 100000 in
theorem c_X3_between (l : Launch) (G : GT) (hn : ∀ i ∈ LsR, i ∈ gL G) (x1 : Int32) (x2 : Int32) (M : Mem) (r0 : Int32) (M0 : Mem) (hF : F_X3_between x1 x2 M = some (r0, M0)) : MetG l G yX3_between cX3_between 3 (some .int) 0 0 [.ref (G.1 51), .int x1, .int x2] M (some (.int r0)) M0 := by
  refine MetG.of (by decide) (Nat.le_of_ble_eq_true rfl) ?_
  intro p e s m args below meth c hC hr hlk hnm ls hS hl
  exact b_X3_between hC hr hlk hn _ _ _ _ _ _ hF hS hl
def F_X3_number_34 (k4 : Int32 → Int32 → Mem → Option (Int32 × Mem)) (k12 : Int32 → Int32 → Int32 → Mem → Option (Int32 × Mem)) (x1 : Int32) (x2 : Int32) (x3 : Int32) (M : Mem) : Option (Int32 × Mem) := k12 x1 x2 (x3 + 1) M
def F_X3_number_12 (k4 : Int32 → Int32 → Mem → Option (Int32 × Mem)) : Nat → Int32 → Int32 → Int32 → Mem → Option (Int32 × Mem)
  | 0, _, _, _, _ => none
  | n + 1, x1, x2, x3, M => if x2 ≤ x3 then k4 x1 (x2 + 1) M else ckb (ix ((x2 * 6) + x3) 36) (if (M.2 0 ((x2 * 6) + x3).toNatClampNeg) = 0 then F_X3_number_34 k4 (F_X3_number_12 k4 n) x1 x2 x3 M else F_X3_number_34 k4 (F_X3_number_12 k4 n) (x1 + 1) x2 x3 M)
def F_X3_number_4 : Nat → Int32 → Int32 → Mem → Option (Int32 × Mem)
  | 0, _, _, _ => none
  | n + 1, x1, x2, M => if 6 ≤ x2 then some (x1, M) else F_X3_number_12 (F_X3_number_4 n) fu x1 x2 0 M
def F_X3_number (M : Mem) : Option (Int32 × Mem) := F_X3_number_4 fu 0 0 M
set_option maxHeartbeats 4000000 in
set_option maxRecDepth 100000 in
theorem b_X3_number_34 {k4 : Int32 → Int32 → Mem → Option (Int32 × Mem)} {k12 : Int32 → Int32 → Int32 → Mem → Option (Int32 × Mem)} {M0 : Mem} {r0 : Int32} (hC : SX p m c s args cX3_number 4 RX3 G (AG G)) (hr : meth.sig.returnType = (some .int)) (hlk : meth.locks = false) (hn : ∀ i ∈ LsR, i ∈ gL G) (hk4 : ∀ (x1 : Int32) (x2 : Int32) (M : Mem) (H : Heap) (locs : List Loc) (ls : Array Slot), k4 x1 x2 M = some (r0, M0) → ST G (AG G) s M H locs → lv_has ls 4 [(0, .ref (G.1 51)), (1, .int x1), (2, .int x2)] → W p l e (RM 0 0) s m args below meth c H locs 0 0 (MQ below (QV G (some (.int r0)) M0) args s 0 0 (AG G)) (F0 m 4 ls [])) (hk12 : ∀ (x1 : Int32) (x2 : Int32) (x3 : Int32) (M : Mem) (H : Heap) (locs : List Loc) (ls : Array Slot), k12 x1 x2 x3 M = some (r0, M0) → ST G (AG G) s M H locs → lv_has ls 4 [(0, .ref (G.1 51)), (1, .int x1), (2, .int x2), (3, .int x3)] → W p l e (RM 0 0) s m args below meth c H locs 0 0 (MQ below (QV G (some (.int r0)) M0) args s 0 0 (AG G)) (F0 m 12 ls [])) : ∀ (x1 : Int32) (x2 : Int32) (x3 : Int32) (M : Mem) (H : Heap) (locs : List Loc) (ls : Array Slot), F_X3_number_34 k4 k12 x1 x2 x3 M = some (r0, M0) → ST G (AG G) s M H locs → lv_has ls 4 [(0, .ref (G.1 51)), (1, .int x1), (2, .int x2), (3, .int x3)] → W p l e (RM 0 0) s m args below meth c H locs 0 0 (MQ below (QV G (some (.int r0)) M0) args s 0 0 (AG G)) (F0 m 34 ls []) := by
  obtain ⟨⟨hx, hb, hml, hown, hts⟩, hK, hG, hA⟩ := id hC
  intro x1 x2 x3 M H locs ls hF hS hl
  unfold F_X3_number_34 at hF
  refine lv_iinc (v := x3 + 1) (lv' := [(3, .int (x3 + 1)), (0, .ref (G.1 51)), (1, .int x1), (2, .int x2)]) hx hb dX3_number_34 hl (k := 3) rfl rfl (by decide) rfl (fun ls hl => ?_)
  refine lv_goto (tgt := 12) hx hb dX3_number_37 (by decide) ?_
  exact hk12 _ _ _ _ _ _ _ hF hS (lv_sub hl [1, 2, 3, 0] rfl)
set_option maxHeartbeats 4000000 in
set_option maxRecDepth 100000 in
theorem b_X3_number_12 {k4 : Int32 → Int32 → Mem → Option (Int32 × Mem)} {M0 : Mem} {r0 : Int32} (hC : SX p m c s args cX3_number 4 RX3 G (AG G)) (hr : meth.sig.returnType = (some .int)) (hlk : meth.locks = false) (hn : ∀ i ∈ LsR, i ∈ gL G) (hk4 : ∀ (x1 : Int32) (x2 : Int32) (M : Mem) (H : Heap) (locs : List Loc) (ls : Array Slot), k4 x1 x2 M = some (r0, M0) → ST G (AG G) s M H locs → lv_has ls 4 [(0, .ref (G.1 51)), (1, .int x1), (2, .int x2)] → W p l e (RM 0 0) s m args below meth c H locs 0 0 (MQ below (QV G (some (.int r0)) M0) args s 0 0 (AG G)) (F0 m 4 ls [])) : ∀ (n : Nat) (x1 : Int32) (x2 : Int32) (x3 : Int32) (M : Mem) (H : Heap) (locs : List Loc) (ls : Array Slot), F_X3_number_12 k4 n x1 x2 x3 M = some (r0, M0) → ST G (AG G) s M H locs → lv_has ls 4 [(0, .ref (G.1 51)), (1, .int x1), (2, .int x2), (3, .int x3)] → W p l e (RM 0 0) s m args below meth c H locs 0 0 (MQ below (QV G (some (.int r0)) M0) args s 0 0 (AG G)) (F0 m 12 ls []) := by
  obtain ⟨⟨hx, hb, hml, hown, hts⟩, hK, hG, hA⟩ := id hC
  intro n
  induction n with
  | zero =>
    intro x1 x2 x3 M H locs ls hF
    cases hF
  | succ n ih =>
    intro x1 x2 x3 M H locs ls hF hS hl
    unfold F_X3_number_12 at hF
    refine lv_iload_n hx hb dX3_number_12 rfl (lv_at hl 3 rfl) ?_
    refine lv_iload_n hx hb dX3_number_13 rfl (lv_at hl 2 rfl) ?_
    refine lv_icmp_ge (tgt := 40) hx hb dX3_number_14 (by decide) (fun hc => ?_) (fun hc => ?_)
    · rw [if_pos hc] at hF
      refine lv_iinc (v := x2 + 1) (lv' := [(2, .int (x2 + 1)), (0, .ref (G.1 51)), (1, .int x1), (3, .int x3)]) hx hb dX3_number_40 hl (k := 2) rfl rfl (by decide) rfl (fun ls hl => ?_)
      refine lv_goto (tgt := 4) hx hb dX3_number_43 (by decide) ?_
      exact hk4 _ _ _ _ _ _ hF hS (lv_sub hl [1, 2, 0] rfl)
    · rw [if_neg hc] at hF
      refine lv_aload_n hx hb dX3_number_17 rfl (lv_at hl 0 rfl) ?_
      refine gx (ci := 3) (k := 0) (v := .ref (G.1 0)) (C := RX3) (T := TX3) (N := 2) hC hS (hn _ (by decide)) rfl rfl in_X3 (by decide) rfl rfl lf_X3_9 dX3_number_18 ?_
      refine lv_iload_n hx hb dX3_number_21 rfl (lv_at hl 2 rfl) ?_
      refine lv_bipush (v := 6) hx hb dX3_number_22 (by decide) ?_
      refine lv_imul hx hb dX3_number_24 ?_
      refine lv_iload_n hx hb dX3_number_25 rfl (lv_at hl 3 rfl) ?_
      refine lv_iadd hx hb dX3_number_26 ?_
      obtain ⟨hi, hF⟩ := ckb_some hF
      refine ald hC hS (hn _ (by decide)) (by decide) rfl hi dX3_number_27 ?_
      refine lv_if_eq (tgt := 34) hx hb dX3_number_28 (by decide) (fun hc => ?_) (fun hc => ?_)
      · rw [if_pos hc] at hF
        exact b_X3_number_34 hC hr hlk hn hk4 ih _ _ _ _ _ _ _ hF hS (lv_sub hl [0, 1, 2, 3] rfl)
      · rw [if_neg hc] at hF
        refine lv_iinc (v := x1 + 1) (lv' := [(1, .int (x1 + 1)), (0, .ref (G.1 51)), (2, .int x2), (3, .int x3)]) hx hb dX3_number_31 hl (k := 1) rfl rfl (by decide) rfl (fun ls hl => ?_)
        exact b_X3_number_34 hC hr hlk hn hk4 ih _ _ _ _ _ _ _ hF hS (lv_sub hl [1, 0, 2, 3] rfl)
set_option maxHeartbeats 4000000 in
set_option maxRecDepth 100000 in
theorem b_X3_number_4 {M0 : Mem} {r0 : Int32} (hC : SX p m c s args cX3_number 4 RX3 G (AG G)) (hr : meth.sig.returnType = (some .int)) (hlk : meth.locks = false) (hn : ∀ i ∈ LsR, i ∈ gL G) : ∀ (n : Nat) (x1 : Int32) (x2 : Int32) (M : Mem) (H : Heap) (locs : List Loc) (ls : Array Slot), F_X3_number_4 n x1 x2 M = some (r0, M0) → ST G (AG G) s M H locs → lv_has ls 4 [(0, .ref (G.1 51)), (1, .int x1), (2, .int x2)] → W p l e (RM 0 0) s m args below meth c H locs 0 0 (MQ below (QV G (some (.int r0)) M0) args s 0 0 (AG G)) (F0 m 4 ls []) := by
  obtain ⟨⟨hx, hb, hml, hown, hts⟩, hK, hG, hA⟩ := id hC
  intro n
  induction n with
  | zero =>
    intro x1 x2 M H locs ls hF
    cases hF
  | succ n ih =>
    intro x1 x2 M H locs ls hF hS hl
    unfold F_X3_number_4 at hF
    refine lv_iload_n hx hb dX3_number_4 rfl (lv_at hl 2 rfl) ?_
    refine lv_bipush (v := 6) hx hb dX3_number_5 (by decide) ?_
    refine lv_icmp_ge (tgt := 46) hx hb dX3_number_7 (by decide) (fun hc => ?_) (fun hc => ?_)
    · rw [if_pos hc] at hF
      refine lv_iload_n hx hb dX3_number_46 rfl (lv_at hl 1 rfl) ?_
      exact retI hC hS hr hlk hF dX3_number_47
    · rw [if_neg hc] at hF
      refine lv_iconst (v := 0) hx hb dX3_number_10 (by decide) ?_
      refine lv_istore_n (lv' := [(3, .int 0), (0, .ref (G.1 51)), (1, .int x1), (2, .int x2)]) hx hb dX3_number_11 rfl hl (by decide) rfl (fun ls hl => ?_)
      exact b_X3_number_12 hC hr hlk hn ih fu _ _ _ _ _ _ _ hF hS (lv_sub hl [1, 2, 3, 0] rfl)
set_option maxHeartbeats 4000000 in
set_option maxRecDepth 100000 in
theorem b_X3_number {M0 : Mem} {r0 : Int32} (hC : SX p m c s args cX3_number 4 RX3 G (AG G)) (hr : meth.sig.returnType = (some .int)) (hlk : meth.locks = false) (hn : ∀ i ∈ LsR, i ∈ gL G) : ∀ (M : Mem) (H : Heap) (locs : List Loc) (ls : Array Slot), F_X3_number M = some (r0, M0) → ST G (AG G) s M H locs → lv_has ls 4 [(0, .ref (G.1 51))] → W p l e (RM 0 0) s m args below meth c H locs 0 0 (MQ below (QV G (some (.int r0)) M0) args s 0 0 (AG G)) (F0 m 0 ls []) := by
  obtain ⟨⟨hx, hb, hml, hown, hts⟩, hK, hG, hA⟩ := id hC
  intro M H locs ls hF hS hl
  unfold F_X3_number at hF
  refine lv_iconst (v := 0) hx hb dX3_number_0 (by decide) ?_
  refine lv_istore_n (lv' := [(1, .int 0), (0, .ref (G.1 51))]) hx hb dX3_number_1 rfl hl (by decide) rfl (fun ls hl => ?_)
  refine lv_iconst (v := 0) hx hb dX3_number_2 (by decide) ?_
  refine lv_istore_n (lv' := [(2, .int 0), (1, .int 0), (0, .ref (G.1 51))]) hx hb dX3_number_3 rfl hl (by decide) rfl (fun ls hl => ?_)
  exact b_X3_number_4 hC hr hlk hn fu _ _ _ _ _ _ hF hS (lv_sub hl [2, 1, 0] rfl)
set_option maxRecDepth 100000 in
theorem c_X3_number (l : Launch) (G : GT) (hn : ∀ i ∈ LsR, i ∈ gL G) (M : Mem) (r0 : Int32) (M0 : Mem) (hF : F_X3_number M = some (r0, M0)) : MetG l G yX3_number cX3_number 4 (some .int) 0 0 [.ref (G.1 51)] M (some (.int r0)) M0 := by
  refine MetG.of (by decide) (Nat.le_of_ble_eq_true rfl) ?_
  intro p e s m args below meth c hC hr hlk hnm ls hS hl
  exact b_X3_number hC hr hlk hn _ _ _ _ hF hS hl
def F_X3_shortenThrough_70 (k2 : Int32 → Int32 → Mem → Option Mem) (k10 : Int32 → Int32 → Int32 → Mem → Option Mem) (x1 : Int32) (x2 : Int32) (x3 : Int32) (M : Mem) : Option Mem := k10 x1 x2 (x3 + 1) M
def F_X3_shortenThrough_10 (k2 : Int32 → Int32 → Mem → Option Mem) : Nat → Int32 → Int32 → Int32 → Mem → Option Mem
  | 0, _, _, _, _ => none
  | n + 1, x1, x2, x3, M => if 6 ≤ x3 then k2 x1 (x2 + 1) M else ckb (ix ((x2 * 6) + x1) 36) (ckb (ix ((x1 * 6) + x3) 36) (ckb (ix ((x2 * 6) + x3) 36) (if (M.2 1 ((x2 * 6) + x3).toNatClampNeg) ≤ ((M.2 1 ((x2 * 6) + x1).toNatClampNeg) + (M.2 1 ((x1 * 6) + x3).toNatClampNeg)) then F_X3_shortenThrough_70 k2 (F_X3_shortenThrough_10 k2 n) x1 x2 x3 M else ckb (ix ((x2 * 6) + x3) 36) (F_X3_shortenThrough_70 k2 (F_X3_shortenThrough_10 k2 n) x1 x2 x3 (sa M 1 ((x2 * 6) + x3).toNatClampNeg ((M.2 1 ((x2 * 6) + x1).toNatClampNeg) + (M.2 1 ((x1 * 6) + x3).toNatClampNeg)))))))
def F_X3_shortenThrough_2 : Nat → Int32 → Int32 → Mem → Option Mem
  | 0, _, _, _ => none
  | n + 1, x1, x2, M => if 6 ≤ x2 then some M else F_X3_shortenThrough_10 (F_X3_shortenThrough_2 n) fu x1 x2 0 M
def F_X3_shortenThrough (x1 : Int32) (M : Mem) : Option Mem := F_X3_shortenThrough_2 fu x1 0 M
set_option maxHeartbeats 4000000 in
set_option maxRecDepth 100000 in
theorem b_X3_shortenThrough_70 {k2 : Int32 → Int32 → Mem → Option Mem} {k10 : Int32 → Int32 → Int32 → Mem → Option Mem} {M0 : Mem} (hC : SX p m c s args cX3_shortenThrough 5 RX3 G (AG G)) (hr : meth.sig.returnType = none) (hlk : meth.locks = false) (hn : ∀ i ∈ LsR, i ∈ gL G) (hk2 : ∀ (x1 : Int32) (x2 : Int32) (M : Mem) (H : Heap) (locs : List Loc) (ls : Array Slot), k2 x1 x2 M = some M0 → ST G (AG G) s M H locs → lv_has ls 5 [(0, .ref (G.1 51)), (1, .int x1), (2, .int x2)] → W p l e (RM 0 0) s m args below meth c H locs 0 0 (MQ below (QV G none M0) args s 0 0 (AG G)) (F0 m 2 ls [])) (hk10 : ∀ (x1 : Int32) (x2 : Int32) (x3 : Int32) (M : Mem) (H : Heap) (locs : List Loc) (ls : Array Slot), k10 x1 x2 x3 M = some M0 → ST G (AG G) s M H locs → lv_has ls 5 [(0, .ref (G.1 51)), (1, .int x1), (2, .int x2), (3, .int x3)] → W p l e (RM 0 0) s m args below meth c H locs 0 0 (MQ below (QV G none M0) args s 0 0 (AG G)) (F0 m 10 ls [])) : ∀ (x1 : Int32) (x2 : Int32) (x3 : Int32) (M : Mem) (H : Heap) (locs : List Loc) (ls : Array Slot), F_X3_shortenThrough_70 k2 k10 x1 x2 x3 M = some M0 → ST G (AG G) s M H locs → lv_has ls 5 [(0, .ref (G.1 51)), (1, .int x1), (2, .int x2), (3, .int x3)] → W p l e (RM 0 0) s m args below meth c H locs 0 0 (MQ below (QV G none M0) args s 0 0 (AG G)) (F0 m 70 ls []) := by
  obtain ⟨⟨hx, hb, hml, hown, hts⟩, hK, hG, hA⟩ := id hC
  intro x1 x2 x3 M H locs ls hF hS hl
  unfold F_X3_shortenThrough_70 at hF
  refine lv_iinc (v := x3 + 1) (lv' := [(3, .int (x3 + 1)), (0, .ref (G.1 51)), (1, .int x1), (2, .int x2)]) hx hb dX3_shortenThrough_70 hl (k := 3) rfl rfl (by decide) rfl (fun ls hl => ?_)
  refine lv_goto (tgt := 10) hx hb dX3_shortenThrough_73 (by decide) ?_
  exact hk10 _ _ _ _ _ _ _ hF hS (lv_sub hl [1, 2, 3, 0] rfl)
set_option maxHeartbeats 4000000 in
set_option maxRecDepth 100000 in
theorem b_X3_shortenThrough_10 {k2 : Int32 → Int32 → Mem → Option Mem} {M0 : Mem} (hC : SX p m c s args cX3_shortenThrough 5 RX3 G (AG G)) (hr : meth.sig.returnType = none) (hlk : meth.locks = false) (hn : ∀ i ∈ LsR, i ∈ gL G) (hk2 : ∀ (x1 : Int32) (x2 : Int32) (M : Mem) (H : Heap) (locs : List Loc) (ls : Array Slot), k2 x1 x2 M = some M0 → ST G (AG G) s M H locs → lv_has ls 5 [(0, .ref (G.1 51)), (1, .int x1), (2, .int x2)] → W p l e (RM 0 0) s m args below meth c H locs 0 0 (MQ below (QV G none M0) args s 0 0 (AG G)) (F0 m 2 ls [])) : ∀ (n : Nat) (x1 : Int32) (x2 : Int32) (x3 : Int32) (M : Mem) (H : Heap) (locs : List Loc) (ls : Array Slot), F_X3_shortenThrough_10 k2 n x1 x2 x3 M = some M0 → ST G (AG G) s M H locs → lv_has ls 5 [(0, .ref (G.1 51)), (1, .int x1), (2, .int x2), (3, .int x3)] → W p l e (RM 0 0) s m args below meth c H locs 0 0 (MQ below (QV G none M0) args s 0 0 (AG G)) (F0 m 10 ls []) := by
  obtain ⟨⟨hx, hb, hml, hown, hts⟩, hK, hG, hA⟩ := id hC
  intro n
  induction n with
  | zero =>
    intro x1 x2 x3 M H locs ls hF
    cases hF
  | succ n ih =>
    intro x1 x2 x3 M H locs ls hF hS hl
    unfold F_X3_shortenThrough_10 at hF
    refine lv_iload_n hx hb dX3_shortenThrough_10 rfl (lv_at hl 3 rfl) ?_
    refine lv_bipush (v := 6) hx hb dX3_shortenThrough_11 (by decide) ?_
    refine lv_icmp_ge (tgt := 76) hx hb dX3_shortenThrough_13 (by decide) (fun hc => ?_) (fun hc => ?_)
    · rw [if_pos hc] at hF
      refine lv_iinc (v := x2 + 1) (lv' := [(2, .int (x2 + 1)), (0, .ref (G.1 51)), (1, .int x1), (3, .int x3)]) hx hb dX3_shortenThrough_76 hl (k := 2) rfl rfl (by decide) rfl (fun ls hl => ?_)
      refine lv_goto (tgt := 2) hx hb dX3_shortenThrough_79 (by decide) ?_
      exact hk2 _ _ _ _ _ _ hF hS (lv_sub hl [1, 2, 0] rfl)
    · rw [if_neg hc] at hF
      refine lv_aload_n hx hb dX3_shortenThrough_16 rfl (lv_at hl 0 rfl) ?_
      refine gx (ci := 3) (k := 1) (v := .ref (G.1 1)) (C := RX3) (T := TX3) (N := 2) hC hS (hn _ (by decide)) rfl rfl in_X3 (by decide) rfl rfl lf_X3_15 dX3_shortenThrough_17 ?_
      refine lv_iload_n hx hb dX3_shortenThrough_20 rfl (lv_at hl 2 rfl) ?_
      refine lv_bipush (v := 6) hx hb dX3_shortenThrough_21 (by decide) ?_
      refine lv_imul hx hb dX3_shortenThrough_23 ?_
      refine lv_iload_n hx hb dX3_shortenThrough_24 rfl (lv_at hl 1 rfl) ?_
      refine lv_iadd hx hb dX3_shortenThrough_25 ?_
      obtain ⟨hi, hF⟩ := ckb_some hF
      refine ald hC hS (hn _ (by decide)) (by decide) rfl hi dX3_shortenThrough_26 ?_
      refine lv_aload_n hx hb dX3_shortenThrough_27 rfl (lv_at hl 0 rfl) ?_
      refine gx (ci := 3) (k := 1) (v := .ref (G.1 1)) (C := RX3) (T := TX3) (N := 2) hC hS (hn _ (by decide)) rfl rfl in_X3 (by decide) rfl rfl lf_X3_15 dX3_shortenThrough_28 ?_
      refine lv_iload_n hx hb dX3_shortenThrough_31 rfl (lv_at hl 1 rfl) ?_
      refine lv_bipush (v := 6) hx hb dX3_shortenThrough_32 (by decide) ?_
      refine lv_imul hx hb dX3_shortenThrough_34 ?_
      refine lv_iload_n hx hb dX3_shortenThrough_35 rfl (lv_at hl 3 rfl) ?_
      refine lv_iadd hx hb dX3_shortenThrough_36 ?_
      obtain ⟨hi, hF⟩ := ckb_some hF
      refine ald hC hS (hn _ (by decide)) (by decide) rfl hi dX3_shortenThrough_37 ?_
      refine lv_iadd hx hb dX3_shortenThrough_38 ?_
      refine lv_istore (lv' := [(4, .int ((M.2 1 ((x2 * 6) + x1).toNatClampNeg) + (M.2 1 ((x1 * 6) + x3).toNatClampNeg))), (0, .ref (G.1 51)), (1, .int x1), (2, .int x2), (3, .int x3)]) hx hb dX3_shortenThrough_39 hl (by decide) rfl (fun ls hl => ?_)
      refine lv_iload hx hb dX3_shortenThrough_41 (lv_at hl 0 rfl) ?_
      refine lv_aload_n hx hb dX3_shortenThrough_43 rfl (lv_at hl 1 rfl) ?_
      refine gx (ci := 3) (k := 1) (v := .ref (G.1 1)) (C := RX3) (T := TX3) (N := 2) hC hS (hn _ (by decide)) rfl rfl in_X3 (by decide) rfl rfl lf_X3_15 dX3_shortenThrough_44 ?_
      refine lv_iload_n hx hb dX3_shortenThrough_47 rfl (lv_at hl 3 rfl) ?_
      refine lv_bipush (v := 6) hx hb dX3_shortenThrough_48 (by decide) ?_
      refine lv_imul hx hb dX3_shortenThrough_50 ?_
      refine lv_iload_n hx hb dX3_shortenThrough_51 rfl (lv_at hl 4 rfl) ?_
      refine lv_iadd hx hb dX3_shortenThrough_52 ?_
      obtain ⟨hi, hF⟩ := ckb_some hF
      refine ald hC hS (hn _ (by decide)) (by decide) rfl hi dX3_shortenThrough_53 ?_
      refine lv_icmp_ge (tgt := 70) hx hb dX3_shortenThrough_54 (by decide) (fun hc => ?_) (fun hc => ?_)
      · rw [if_pos hc] at hF
        exact b_X3_shortenThrough_70 hC hr hlk hn hk2 ih _ _ _ _ _ _ _ hF hS (lv_sub hl [1, 2, 3, 4] rfl)
      · rw [if_neg hc] at hF
        refine lv_aload_n hx hb dX3_shortenThrough_57 rfl (lv_at hl 1 rfl) ?_
        refine gx (ci := 3) (k := 1) (v := .ref (G.1 1)) (C := RX3) (T := TX3) (N := 2) hC hS (hn _ (by decide)) rfl rfl in_X3 (by decide) rfl rfl lf_X3_15 dX3_shortenThrough_58 ?_
        refine lv_iload_n hx hb dX3_shortenThrough_61 rfl (lv_at hl 3 rfl) ?_
        refine lv_bipush (v := 6) hx hb dX3_shortenThrough_62 (by decide) ?_
        refine lv_imul hx hb dX3_shortenThrough_64 ?_
        refine lv_iload_n hx hb dX3_shortenThrough_65 rfl (lv_at hl 4 rfl) ?_
        refine lv_iadd hx hb dX3_shortenThrough_66 ?_
        refine lv_iload hx hb dX3_shortenThrough_67 (lv_at hl 0 rfl) ?_
        obtain ⟨hi, hF⟩ := ckb_some hF
        refine ast hC hS (hn _ (by decide)) (by decide) rfl hi dX3_shortenThrough_69 (fun H locs hS => ?_)
        exact b_X3_shortenThrough_70 hC hr hlk hn hk2 ih _ _ _ _ _ _ _ hF hS (lv_sub hl [1, 2, 3, 4] rfl)
set_option maxHeartbeats 4000000 in
set_option maxRecDepth 100000 in
theorem b_X3_shortenThrough_2 {M0 : Mem} (hC : SX p m c s args cX3_shortenThrough 5 RX3 G (AG G)) (hr : meth.sig.returnType = none) (hlk : meth.locks = false) (hn : ∀ i ∈ LsR, i ∈ gL G) : ∀ (n : Nat) (x1 : Int32) (x2 : Int32) (M : Mem) (H : Heap) (locs : List Loc) (ls : Array Slot), F_X3_shortenThrough_2 n x1 x2 M = some M0 → ST G (AG G) s M H locs → lv_has ls 5 [(0, .ref (G.1 51)), (1, .int x1), (2, .int x2)] → W p l e (RM 0 0) s m args below meth c H locs 0 0 (MQ below (QV G none M0) args s 0 0 (AG G)) (F0 m 2 ls []) := by
  obtain ⟨⟨hx, hb, hml, hown, hts⟩, hK, hG, hA⟩ := id hC
  intro n
  induction n with
  | zero =>
    intro x1 x2 M H locs ls hF
    cases hF
  | succ n ih =>
    intro x1 x2 M H locs ls hF hS hl
    unfold F_X3_shortenThrough_2 at hF
    refine lv_iload_n hx hb dX3_shortenThrough_2 rfl (lv_at hl 2 rfl) ?_
    refine lv_bipush (v := 6) hx hb dX3_shortenThrough_3 (by decide) ?_
    refine lv_icmp_ge (tgt := 82) hx hb dX3_shortenThrough_5 (by decide) (fun hc => ?_) (fun hc => ?_)
    · rw [if_pos hc] at hF
      exact retV hC hS hr hlk hF dX3_shortenThrough_82
    · rw [if_neg hc] at hF
      refine lv_iconst (v := 0) hx hb dX3_shortenThrough_8 (by decide) ?_
      refine lv_istore_n (lv' := [(3, .int 0), (0, .ref (G.1 51)), (1, .int x1), (2, .int x2)]) hx hb dX3_shortenThrough_9 rfl hl (by decide) rfl (fun ls hl => ?_)
      exact b_X3_shortenThrough_10 hC hr hlk hn ih fu _ _ _ _ _ _ _ hF hS (lv_sub hl [1, 2, 3, 0] rfl)
set_option maxHeartbeats 4000000 in
set_option maxRecDepth 100000 in
theorem b_X3_shortenThrough {M0 : Mem} (hC : SX p m c s args cX3_shortenThrough 5 RX3 G (AG G)) (hr : meth.sig.returnType = none) (hlk : meth.locks = false) (hn : ∀ i ∈ LsR, i ∈ gL G) : ∀ (x1 : Int32) (M : Mem) (H : Heap) (locs : List Loc) (ls : Array Slot), F_X3_shortenThrough x1 M = some M0 → ST G (AG G) s M H locs → lv_has ls 5 [(0, .ref (G.1 51)), (1, .int x1)] → W p l e (RM 0 0) s m args below meth c H locs 0 0 (MQ below (QV G none M0) args s 0 0 (AG G)) (F0 m 0 ls []) := by
  obtain ⟨⟨hx, hb, hml, hown, hts⟩, hK, hG, hA⟩ := id hC
  intro x1 M H locs ls hF hS hl
  unfold F_X3_shortenThrough at hF
  refine lv_iconst (v := 0) hx hb dX3_shortenThrough_0 (by decide) ?_
  refine lv_istore_n (lv' := [(2, .int 0), (0, .ref (G.1 51)), (1, .int x1)]) hx hb dX3_shortenThrough_1 rfl hl (by decide) rfl (fun ls hl => ?_)
  exact b_X3_shortenThrough_2 hC hr hlk hn fu _ _ _ _ _ _ hF hS (lv_sub hl [1, 2, 0] rfl)
set_option maxRecDepth 100000 in
theorem c_X3_shortenThrough (l : Launch) (G : GT) (hn : ∀ i ∈ LsR, i ∈ gL G) (x1 : Int32) (M : Mem) (M0 : Mem) (hF : F_X3_shortenThrough x1 M = some M0) : MetG l G yX3_shortenThrough cX3_shortenThrough 5 none 0 0 [.ref (G.1 51), .int x1] M none M0 := by
  refine MetG.of (by decide) (Nat.le_of_ble_eq_true rfl) ?_
  intro p e s m args below meth c hC hr hlk hnm ls hS hl
  exact b_X3_shortenThrough hC hr hlk hn _ _ _ _ _ hF hS hl
def F_X3_seekQuickest_73 : Nat → Int32 → Mem → Option Mem
  | 0, _, _ => none
  | n + 1, x1, M => if 6 ≤ x1 then some M else bdv (F_X3_shortenThrough x1 M) (fun M81 => F_X3_seekQuickest_73 n (x1 + 1) M81)
def F_X3_seekQuickest_10 (k2 : Int32 → Mem → Option Mem) : Nat → Int32 → Int32 → Mem → Option Mem
  | 0, _, _, _ => none
  | n + 1, x1, x2, M => if 6 ≤ x2 then k2 (x1 + 1) M else ckb (ix ((x1 * 6) + x2) 36) (if x1 = x2 then ckb (ix ((x1 * 6) + x2) 36) (F_X3_seekQuickest_10 k2 n x1 (x2 + 1) (sa M 1 ((x1 * 6) + x2).toNatClampNeg 0)) else if (M.2 0 ((x1 * 6) + x2).toNatClampNeg) = 0 then ckb (ix ((x1 * 6) + x2) 36) (F_X3_seekQuickest_10 k2 n x1 (x2 + 1) (sa M 1 ((x1 * 6) + x2).toNatClampNeg 1000)) else ckb (ix ((x1 * 6) + x2) 36) (F_X3_seekQuickest_10 k2 n x1 (x2 + 1) (sa M 1 ((x1 * 6) + x2).toNatClampNeg (M.2 0 ((x1 * 6) + x2).toNatClampNeg))))
def F_X3_seekQuickest_2 : Nat → Int32 → Mem → Option Mem
  | 0, _, _ => none
  | n + 1, x1, M => if 6 ≤ x1 then F_X3_seekQuickest_73 fu 0 M else F_X3_seekQuickest_10 (F_X3_seekQuickest_2 n) fu x1 0 M
def F_X3_seekQuickest (M : Mem) : Option Mem := F_X3_seekQuickest_2 fu 0 M
set_option maxHeartbeats 4000000 in
set_option maxRecDepth 100000 in
theorem b_X3_seekQuickest_73 {M0 : Mem} (hC : SX p m c s args cX3_seekQuickest 4 RX3 G (AG G)) (hr : meth.sig.returnType = none) (hlk : meth.locks = false) (hn : ∀ i ∈ LsR, i ∈ gL G) : ∀ (n : Nat) (x1 : Int32) (M : Mem) (H : Heap) (locs : List Loc) (ls : Array Slot), F_X3_seekQuickest_73 n x1 M = some M0 → ST G (AG G) s M H locs → lv_has ls 4 [(0, .ref (G.1 51)), (1, .int x1)] → W p l e (RM 1 24) s m args below meth c H locs 0 0 (MQ below (QV G none M0) args s 0 0 (AG G)) (F0 m 73 ls []) := by
  obtain ⟨⟨hx, hb, hml, hown, hts⟩, hK, hG, hA⟩ := id hC
  intro n
  induction n with
  | zero =>
    intro x1 M H locs ls hF
    cases hF
  | succ n ih =>
    intro x1 M H locs ls hF hS hl
    unfold F_X3_seekQuickest_73 at hF
    refine lv_iload_n hx hb dX3_seekQuickest_73 rfl (lv_at hl 1 rfl) ?_
    refine lv_bipush (v := 6) hx hb dX3_seekQuickest_74 (by decide) ?_
    refine lv_icmp_ge (tgt := 90) hx hb dX3_seekQuickest_76 (by decide) (fun hc => ?_) (fun hc => ?_)
    · rw [if_pos hc] at hF
      exact retV hC hS hr hlk hF dX3_seekQuickest_90
    · rw [if_neg hc] at hF
      refine lv_aload_n hx hb dX3_seekQuickest_79 rfl (lv_at hl 0 rfl) ?_
      refine lv_iload_n hx hb dX3_seekQuickest_80 rfl (lv_at hl 1 rfl) ?_
      obtain ⟨M81, h81, hF⟩ := bdv_some hF
      refine cV_ (ci := 3) (i := 51) (C := RX3) (T := TX3) (N := 2) (As := [.int x1]) (v := none) (rest := []) (st1 := []) hC hS (hn _ (by decide)) rfl rfl (c_X3_shortenThrough l G hn x1 M _ h81) kV_X3_shortenThrough lm_X3_21 ⟨Nat.le_of_ble_eq_true rfl, Nat.le_of_ble_eq_true rfl⟩ rfl hl.1 (Nat.le_of_ble_eq_true rfl) dX3_seekQuickest_81 ⟨Nat.le_refl _, Nat.le_refl _⟩ rfl (fun H locs hS => ?_)
      refine lv_iinc (v := x1 + 1) (lv' := [(1, .int (x1 + 1)), (0, .ref (G.1 51))]) hx hb dX3_seekQuickest_84 hl (k := 1) rfl rfl (by decide) rfl (fun ls hl => ?_)
      refine lv_goto (tgt := 73) hx hb dX3_seekQuickest_87 (by decide) ?_
      exact ih _ _ _ _ _ hF hS (lv_sub hl [1, 0] rfl)
set_option maxHeartbeats 4000000 in
set_option maxRecDepth 100000 in
theorem b_X3_seekQuickest_10 {k2 : Int32 → Mem → Option Mem} {M0 : Mem} (hC : SX p m c s args cX3_seekQuickest 4 RX3 G (AG G)) (hr : meth.sig.returnType = none) (hlk : meth.locks = false) (hn : ∀ i ∈ LsR, i ∈ gL G) (hk2 : ∀ (x1 : Int32) (M : Mem) (H : Heap) (locs : List Loc) (ls : Array Slot), k2 x1 M = some M0 → ST G (AG G) s M H locs → lv_has ls 4 [(0, .ref (G.1 51)), (1, .int x1)] → W p l e (RM 1 24) s m args below meth c H locs 0 0 (MQ below (QV G none M0) args s 0 0 (AG G)) (F0 m 2 ls [])) : ∀ (n : Nat) (x1 : Int32) (x2 : Int32) (M : Mem) (H : Heap) (locs : List Loc) (ls : Array Slot), F_X3_seekQuickest_10 k2 n x1 x2 M = some M0 → ST G (AG G) s M H locs → lv_has ls 4 [(0, .ref (G.1 51)), (1, .int x1), (2, .int x2)] → W p l e (RM 1 24) s m args below meth c H locs 0 0 (MQ below (QV G none M0) args s 0 0 (AG G)) (F0 m 10 ls []) := by
  obtain ⟨⟨hx, hb, hml, hown, hts⟩, hK, hG, hA⟩ := id hC
  intro n
  induction n with
  | zero =>
    intro x1 x2 M H locs ls hF
    cases hF
  | succ n ih =>
    intro x1 x2 M H locs ls hF hS hl
    unfold F_X3_seekQuickest_10 at hF
    refine lv_iload_n hx hb dX3_seekQuickest_10 rfl (lv_at hl 2 rfl) ?_
    refine lv_bipush (v := 6) hx hb dX3_seekQuickest_11 (by decide) ?_
    refine lv_icmp_ge (tgt := 65) hx hb dX3_seekQuickest_13 (by decide) (fun hc => ?_) (fun hc => ?_)
    · rw [if_pos hc] at hF
      refine lv_iinc (v := x1 + 1) (lv' := [(1, .int (x1 + 1)), (0, .ref (G.1 51)), (2, .int x2)]) hx hb dX3_seekQuickest_65 hl (k := 1) rfl rfl (by decide) rfl (fun ls hl => ?_)
      refine lv_goto (tgt := 2) hx hb dX3_seekQuickest_68 (by decide) ?_
      exact hk2 _ _ _ _ _ hF hS (lv_sub hl [1, 0] rfl)
    · rw [if_neg hc] at hF
      refine lv_aload_n hx hb dX3_seekQuickest_16 rfl (lv_at hl 0 rfl) ?_
      refine gx (ci := 3) (k := 0) (v := .ref (G.1 0)) (C := RX3) (T := TX3) (N := 2) hC hS (hn _ (by decide)) rfl rfl in_X3 (by decide) rfl rfl lf_X3_9 dX3_seekQuickest_17 ?_
      refine lv_iload_n hx hb dX3_seekQuickest_20 rfl (lv_at hl 1 rfl) ?_
      refine lv_bipush (v := 6) hx hb dX3_seekQuickest_21 (by decide) ?_
      refine lv_imul hx hb dX3_seekQuickest_23 ?_
      refine lv_iload_n hx hb dX3_seekQuickest_24 rfl (lv_at hl 2 rfl) ?_
      refine lv_iadd hx hb dX3_seekQuickest_25 ?_
      obtain ⟨hi, hF⟩ := ckb_some hF
      refine ald hC hS (hn _ (by decide)) (by decide) rfl hi dX3_seekQuickest_26 ?_
      refine lv_istore_n (lv' := [(3, .int (M.2 0 ((x1 * 6) + x2).toNatClampNeg)), (0, .ref (G.1 51)), (1, .int x1), (2, .int x2)]) hx hb dX3_seekQuickest_27 rfl hl (by decide) rfl (fun ls hl => ?_)
      refine lv_aload_n hx hb dX3_seekQuickest_28 rfl (lv_at hl 1 rfl) ?_
      refine gx (ci := 3) (k := 1) (v := .ref (G.1 1)) (C := RX3) (T := TX3) (N := 2) hC hS (hn _ (by decide)) rfl rfl in_X3 (by decide) rfl rfl lf_X3_15 dX3_seekQuickest_29 ?_
      refine lv_iload_n hx hb dX3_seekQuickest_32 rfl (lv_at hl 2 rfl) ?_
      refine lv_bipush (v := 6) hx hb dX3_seekQuickest_33 (by decide) ?_
      refine lv_imul hx hb dX3_seekQuickest_35 ?_
      refine lv_iload_n hx hb dX3_seekQuickest_36 rfl (lv_at hl 3 rfl) ?_
      refine lv_iadd hx hb dX3_seekQuickest_37 ?_
      refine lv_iload_n hx hb dX3_seekQuickest_38 rfl (lv_at hl 2 rfl) ?_
      refine lv_iload_n hx hb dX3_seekQuickest_39 rfl (lv_at hl 3 rfl) ?_
      refine lv_icmp_ne (tgt := 47) hx hb dX3_seekQuickest_40 (by decide) (fun hc => ?_) (fun hc => ?_)
      · rw [if_neg hc] at hF
        refine lv_iload_n hx hb dX3_seekQuickest_47 rfl (lv_at hl 0 rfl) ?_
        refine lv_if_ne (tgt := 57) hx hb dX3_seekQuickest_48 (by decide) (fun hc => ?_) (fun hc => ?_)
        · rw [if_neg hc] at hF
          refine lv_iload_n hx hb dX3_seekQuickest_57 rfl (lv_at hl 0 rfl) ?_
          obtain ⟨hi, hF⟩ := ckb_some hF
          refine ast hC hS (hn _ (by decide)) (by decide) rfl hi dX3_seekQuickest_58 (fun H locs hS => ?_)
          refine lv_iinc (v := x2 + 1) (lv' := [(2, .int (x2 + 1)), (3, .int (M.2 0 ((x1 * 6) + x2).toNatClampNeg)), (0, .ref (G.1 51)), (1, .int x1)]) hx hb dX3_seekQuickest_59 hl (k := 3) rfl rfl (by decide) rfl (fun ls hl => ?_)
          refine lv_goto (tgt := 10) hx hb dX3_seekQuickest_62 (by decide) ?_
          exact ih _ _ _ _ _ _ hF hS (lv_sub hl [2, 3, 0] rfl)
        · rw [if_pos hc] at hF
          refine lv_sipush (v := 1000) hx hb dX3_seekQuickest_51 (by decide) ?_
          refine lv_goto (tgt := 58) hx hb dX3_seekQuickest_54 (by decide) ?_
          obtain ⟨hi, hF⟩ := ckb_some hF
          refine ast hC hS (hn _ (by decide)) (by decide) rfl hi dX3_seekQuickest_58 (fun H locs hS => ?_)
          refine lv_iinc (v := x2 + 1) (lv' := [(2, .int (x2 + 1)), (3, .int (M.2 0 ((x1 * 6) + x2).toNatClampNeg)), (0, .ref (G.1 51)), (1, .int x1)]) hx hb dX3_seekQuickest_59 hl (k := 3) rfl rfl (by decide) rfl (fun ls hl => ?_)
          refine lv_goto (tgt := 10) hx hb dX3_seekQuickest_62 (by decide) ?_
          exact ih _ _ _ _ _ _ hF hS (lv_sub hl [2, 3, 0] rfl)
      · rw [if_pos hc] at hF
        refine lv_iconst (v := 0) hx hb dX3_seekQuickest_43 (by decide) ?_
        refine lv_goto (tgt := 58) hx hb dX3_seekQuickest_44 (by decide) ?_
        obtain ⟨hi, hF⟩ := ckb_some hF
        refine ast hC hS (hn _ (by decide)) (by decide) rfl hi dX3_seekQuickest_58 (fun H locs hS => ?_)
        refine lv_iinc (v := x2 + 1) (lv' := [(2, .int (x2 + 1)), (3, .int (M.2 0 ((x1 * 6) + x2).toNatClampNeg)), (0, .ref (G.1 51)), (1, .int x1)]) hx hb dX3_seekQuickest_59 hl (k := 3) rfl rfl (by decide) rfl (fun ls hl => ?_)
        refine lv_goto (tgt := 10) hx hb dX3_seekQuickest_62 (by decide) ?_
        exact ih _ _ _ _ _ _ hF hS (lv_sub hl [2, 3, 0] rfl)
set_option maxHeartbeats 4000000 in
set_option maxRecDepth 100000 in
theorem b_X3_seekQuickest_2 {M0 : Mem} (hC : SX p m c s args cX3_seekQuickest 4 RX3 G (AG G)) (hr : meth.sig.returnType = none) (hlk : meth.locks = false) (hn : ∀ i ∈ LsR, i ∈ gL G) : ∀ (n : Nat) (x1 : Int32) (M : Mem) (H : Heap) (locs : List Loc) (ls : Array Slot), F_X3_seekQuickest_2 n x1 M = some M0 → ST G (AG G) s M H locs → lv_has ls 4 [(0, .ref (G.1 51)), (1, .int x1)] → W p l e (RM 1 24) s m args below meth c H locs 0 0 (MQ below (QV G none M0) args s 0 0 (AG G)) (F0 m 2 ls []) := by
  obtain ⟨⟨hx, hb, hml, hown, hts⟩, hK, hG, hA⟩ := id hC
  intro n
  induction n with
  | zero =>
    intro x1 M H locs ls hF
    cases hF
  | succ n ih =>
    intro x1 M H locs ls hF hS hl
    unfold F_X3_seekQuickest_2 at hF
    refine lv_iload_n hx hb dX3_seekQuickest_2 rfl (lv_at hl 1 rfl) ?_
    refine lv_bipush (v := 6) hx hb dX3_seekQuickest_3 (by decide) ?_
    refine lv_icmp_ge (tgt := 71) hx hb dX3_seekQuickest_5 (by decide) (fun hc => ?_) (fun hc => ?_)
    · rw [if_pos hc] at hF
      refine lv_iconst (v := 0) hx hb dX3_seekQuickest_71 (by decide) ?_
      refine lv_istore_n (lv' := [(1, .int 0), (0, .ref (G.1 51))]) hx hb dX3_seekQuickest_72 rfl hl (by decide) rfl (fun ls hl => ?_)
      exact b_X3_seekQuickest_73 hC hr hlk hn fu _ _ _ _ _ hF hS (lv_sub hl [1, 0] rfl)
    · rw [if_neg hc] at hF
      refine lv_iconst (v := 0) hx hb dX3_seekQuickest_8 (by decide) ?_
      refine lv_istore_n (lv' := [(2, .int 0), (0, .ref (G.1 51)), (1, .int x1)]) hx hb dX3_seekQuickest_9 rfl hl (by decide) rfl (fun ls hl => ?_)
      exact b_X3_seekQuickest_10 hC hr hlk hn ih fu _ _ _ _ _ _ hF hS (lv_sub hl [1, 2, 0] rfl)
set_option maxHeartbeats 4000000 in
set_option maxRecDepth 100000 in
theorem b_X3_seekQuickest {M0 : Mem} (hC : SX p m c s args cX3_seekQuickest 4 RX3 G (AG G)) (hr : meth.sig.returnType = none) (hlk : meth.locks = false) (hn : ∀ i ∈ LsR, i ∈ gL G) : ∀ (M : Mem) (H : Heap) (locs : List Loc) (ls : Array Slot), F_X3_seekQuickest M = some M0 → ST G (AG G) s M H locs → lv_has ls 4 [(0, .ref (G.1 51))] → W p l e (RM 1 24) s m args below meth c H locs 0 0 (MQ below (QV G none M0) args s 0 0 (AG G)) (F0 m 0 ls []) := by
  obtain ⟨⟨hx, hb, hml, hown, hts⟩, hK, hG, hA⟩ := id hC
  intro M H locs ls hF hS hl
  unfold F_X3_seekQuickest at hF
  refine lv_iconst (v := 0) hx hb dX3_seekQuickest_0 (by decide) ?_
  refine lv_istore_n (lv' := [(1, .int 0), (0, .ref (G.1 51))]) hx hb dX3_seekQuickest_1 rfl hl (by decide) rfl (fun ls hl => ?_)
  exact b_X3_seekQuickest_2 hC hr hlk hn fu _ _ _ _ _ hF hS (lv_sub hl [1, 0] rfl)
set_option maxRecDepth 100000 in
theorem c_X3_seekQuickest (l : Launch) (G : GT) (hn : ∀ i ∈ LsR, i ∈ gL G) (M : Mem) (M0 : Mem) (hF : F_X3_seekQuickest M = some M0) : MetG l G yX3_seekQuickest cX3_seekQuickest 4 none 1 24 [.ref (G.1 51)] M none M0 := by
  refine MetG.of (by decide) (Nat.le_of_ble_eq_true rfl) ?_
  intro p e s m args below meth c hC hr hlk hnm ls hS hl
  exact b_X3_seekQuickest hC hr hlk hn _ _ _ _ hF hS hl
def F_X3_build (x1 : Int32) (x2 : Int32) (x3 : Int32) (M : Mem) : Option (Int32 × Mem) := ckb (ix ((x1 * 6) + x2) 36) (ckb (ix ((x1 * 6) + x2) 36) (ckb (ix ((x2 * 6) + x1) 36) (bdv (F_X3_seekQuickest (sa (sa M 0 ((x1 * 6) + x2).toNatClampNeg x3) 0 ((x2 * 6) + x1).toNatClampNeg x3)) (fun M38 => some (M.2 0 ((x1 * 6) + x2).toNatClampNeg, M38)))))
set_option maxHeartbeats 4000000 in
set_option maxRecDepth 100000 in
theorem b_X3_build {M0 : Mem} {r0 : Int32} (hC : SX p m c s args cX3_build 5 RX3 G (AG G)) (hr : meth.sig.returnType = (some .int)) (hlk : meth.locks = false) (hn : ∀ i ∈ LsR, i ∈ gL G) : ∀ (x1 : Int32) (x2 : Int32) (x3 : Int32) (M : Mem) (H : Heap) (locs : List Loc) (ls : Array Slot), F_X3_build x1 x2 x3 M = some (r0, M0) → ST G (AG G) s M H locs → lv_has ls 5 [(0, .ref (G.1 51)), (1, .int x1), (2, .int x2), (3, .int x3)] → W p l e (RM 2 47) s m args below meth c H locs 0 0 (MQ below (QV G (some (.int r0)) M0) args s 0 0 (AG G)) (F0 m 0 ls []) := by
  obtain ⟨⟨hx, hb, hml, hown, hts⟩, hK, hG, hA⟩ := id hC
  intro x1 x2 x3 M H locs ls hF hS hl
  unfold F_X3_build at hF
  refine lv_aload_n hx hb dX3_build_0 rfl (lv_at hl 0 rfl) ?_
  refine gx (ci := 3) (k := 0) (v := .ref (G.1 0)) (C := RX3) (T := TX3) (N := 2) hC hS (hn _ (by decide)) rfl rfl in_X3 (by decide) rfl rfl lf_X3_9 dX3_build_1 ?_
  refine lv_iload_n hx hb dX3_build_4 rfl (lv_at hl 1 rfl) ?_
  refine lv_bipush (v := 6) hx hb dX3_build_5 (by decide) ?_
  refine lv_imul hx hb dX3_build_7 ?_
  refine lv_iload_n hx hb dX3_build_8 rfl (lv_at hl 2 rfl) ?_
  refine lv_iadd hx hb dX3_build_9 ?_
  obtain ⟨hi, hF⟩ := ckb_some hF
  refine ald hC hS (hn _ (by decide)) (by decide) rfl hi dX3_build_10 ?_
  refine lv_istore (lv' := [(4, .int (M.2 0 ((x1 * 6) + x2).toNatClampNeg)), (0, .ref (G.1 51)), (1, .int x1), (2, .int x2), (3, .int x3)]) hx hb dX3_build_11 hl (by decide) rfl (fun ls hl => ?_)
  refine lv_aload_n hx hb dX3_build_13 rfl (lv_at hl 1 rfl) ?_
  refine gx (ci := 3) (k := 0) (v := .ref (G.1 0)) (C := RX3) (T := TX3) (N := 2) hC hS (hn _ (by decide)) rfl rfl in_X3 (by decide) rfl rfl lf_X3_9 dX3_build_14 ?_
  refine lv_iload_n hx hb dX3_build_17 rfl (lv_at hl 2 rfl) ?_
  refine lv_bipush (v := 6) hx hb dX3_build_18 (by decide) ?_
  refine lv_imul hx hb dX3_build_20 ?_
  refine lv_iload_n hx hb dX3_build_21 rfl (lv_at hl 3 rfl) ?_
  refine lv_iadd hx hb dX3_build_22 ?_
  refine lv_iload_n hx hb dX3_build_23 rfl (lv_at hl 4 rfl) ?_
  obtain ⟨hi, hF⟩ := ckb_some hF
  refine ast hC hS (hn _ (by decide)) (by decide) rfl hi dX3_build_24 (fun H locs hS => ?_)
  refine lv_aload_n hx hb dX3_build_25 rfl (lv_at hl 1 rfl) ?_
  refine gx (ci := 3) (k := 0) (v := .ref (G.1 0)) (C := RX3) (T := TX3) (N := 2) hC hS (hn _ (by decide)) rfl rfl in_X3 (by decide) rfl rfl lf_X3_9 dX3_build_26 ?_
  refine lv_iload_n hx hb dX3_build_29 rfl (lv_at hl 3 rfl) ?_
  refine lv_bipush (v := 6) hx hb dX3_build_30 (by decide) ?_
  refine lv_imul hx hb dX3_build_32 ?_
  refine lv_iload_n hx hb dX3_build_33 rfl (lv_at hl 2 rfl) ?_
  refine lv_iadd hx hb dX3_build_34 ?_
  refine lv_iload_n hx hb dX3_build_35 rfl (lv_at hl 4 rfl) ?_
  obtain ⟨hi, hF⟩ := ckb_some hF
  refine ast hC hS (hn _ (by decide)) (by decide) rfl hi dX3_build_36 (fun H locs hS => ?_)
  refine lv_aload_n hx hb dX3_build_37 rfl (lv_at hl 1 rfl) ?_
  obtain ⟨M38, h38, hF⟩ := bdv_some hF
  refine cV_ (ci := 3) (i := 51) (C := RX3) (T := TX3) (N := 2) (As := []) (v := none) (rest := []) (st1 := []) hC hS (hn _ (by decide)) rfl rfl (c_X3_seekQuickest l G hn (sa (sa M 0 ((x1 * 6) + x2).toNatClampNeg x3) 0 ((x2 * 6) + x1).toNatClampNeg x3) _ h38) kV_X3_seekQuickest lm_X3_18 ⟨Nat.le_of_ble_eq_true rfl, Nat.le_of_ble_eq_true rfl⟩ rfl hl.1 (Nat.le_of_ble_eq_true rfl) dX3_build_38 ⟨Nat.le_refl _, Nat.le_refl _⟩ rfl (fun H locs hS => ?_)
  refine lv_iload hx hb dX3_build_41 (lv_at hl 0 rfl) ?_
  exact retI hC hS hr hlk hF dX3_build_43
set_option maxRecDepth 100000 in
theorem c_X3_build (l : Launch) (G : GT) (hn : ∀ i ∈ LsR, i ∈ gL G) (x1 : Int32) (x2 : Int32) (x3 : Int32) (M : Mem) (r0 : Int32) (M0 : Mem) (hF : F_X3_build x1 x2 x3 M = some (r0, M0)) : MetG l G yX3_build cX3_build 5 (some .int) 2 47 [.ref (G.1 51), .int x1, .int x2, .int x3] M (some (.int r0)) M0 := by
  refine MetG.of (by decide) (Nat.le_of_ble_eq_true rfl) ?_
  intro p e s m args below meth c hC hr hlk hnm ls hS hl
  exact b_X3_build hC hr hlk hn _ _ _ _ _ _ _ hF hS hl
def F_X1_fallen (j1 : Nat) (x2 : Int32) (x3 : Int32) (M : Mem) : Option (Int32 × Mem) := if (M.1 (10 + 6 * j1 + 3)) = 1 then some ((1 : Int32) <<< (x3 &&& 31), M) else if (M.1 (10 + 6 * j1 + 3)) = 0 then some (((1 : Int32) <<< (x2 &&& 31)) ||| ((1 : Int32) <<< (x3 &&& 31)), M) else ckb (ix x2 10) (ckb (ix x3 10) (if ((M.2 4 x2.toNatClampNeg) - (M.2 4 x3.toNatClampNeg)) = 0 then some (((1 : Int32) <<< (x2 &&& 31)) ||| ((1 : Int32) <<< (x3 &&& 31)), M) else if ((M.2 4 x2.toNatClampNeg) - (M.2 4 x3.toNatClampNeg)) ≤ 0 then some ((1 : Int32) <<< (x2 &&& 31), M) else some ((1 : Int32) <<< (x3 &&& 31), M)))
set_option maxHeartbeats 4000000 in
set_option maxRecDepth 100000 in
theorem b_X1_fallen {j1 : Nat} {M0 : Mem} {r0 : Int32} (hC : SX p m c s args cX1_fallen 6 RX1 G (AG G)) (hr : meth.sig.returnType = (some .int)) (hlk : meth.locks = false) (hn : ∀ i ∈ LsF, i ∈ gL G) (hj1 : j1 < 2) : ∀ (x2 : Int32) (x3 : Int32) (M : Mem) (H : Heap) (locs : List Loc) (ls : Array Slot), F_X1_fallen j1 x2 x3 M = some (r0, M0) → ST G (AG G) s M H locs → lv_has ls 6 [(0, .ref (G.1 55)), (1, .ref (G.1 (53 + j1))), (2, .int x2), (3, .int x3)] → W p l e (RM 0 0) s m args below meth c H locs 0 0 (MQ below (QV G (some (.int r0)) M0) args s 0 0 (AG G)) (F0 m 0 ls []) := by
  obtain ⟨⟨hx, hb, hml, hown, hts⟩, hK, hG, hA⟩ := id hC
  intro x2 x3 M H locs ls hF hS hl
  unfold F_X1_fallen at hF
  refine lv_aload_n hx hb dX1_fallen_0 rfl (lv_at hl 1 rfl) ?_
  refine gxN (ci := 2) (k := 4) (v := .int (M.1 (10 + 6 * j1 + 3))) (C := RX2) (T := TX2) (N := 7) hC hS (hn _ (mL hj1)) (ceL hj1) rfl in_X2 (by decide) rfl rfl ln_X1_85 dX1_fallen_1 ?_
  refine lv_iconst (v := 1) hx hb dX1_fallen_4 (by decide) ?_
  refine lv_icmp_ne (tgt := 12) hx hb dX1_fallen_5 (by decide) (fun hc => ?_) (fun hc => ?_)
  · rw [if_neg hc] at hF
    refine lv_iconst (v := 1) hx hb dX1_fallen_12 (by decide) ?_
    refine lv_iload_n hx hb dX1_fallen_13 rfl (lv_at hl 2 rfl) ?_
    refine lv_ishl hx hb dX1_fallen_14 ?_
    refine lv_iconst (v := 1) hx hb dX1_fallen_15 (by decide) ?_
    refine lv_iload_n hx hb dX1_fallen_16 rfl (lv_at hl 3 rfl) ?_
    refine lv_ishl hx hb dX1_fallen_17 ?_
    refine lv_ior hx hb dX1_fallen_18 ?_
    refine lv_istore (lv' := [(4, .int (((1 : Int32) <<< (x2 &&& 31)) ||| ((1 : Int32) <<< (x3 &&& 31)))), (0, .ref (G.1 55)), (1, .ref (G.1 (53 + j1))), (2, .int x2), (3, .int x3)]) hx hb dX1_fallen_19 hl (by decide) rfl (fun ls hl => ?_)
    refine lv_aload_n hx hb dX1_fallen_21 rfl (lv_at hl 2 rfl) ?_
    refine gxN (ci := 2) (k := 4) (v := .int (M.1 (10 + 6 * j1 + 3))) (C := RX2) (T := TX2) (N := 7) hC hS (hn _ (mL hj1)) (ceL hj1) rfl in_X2 (by decide) rfl rfl ln_X1_85 dX1_fallen_22 ?_
    refine lv_if_ne (tgt := 31) hx hb dX1_fallen_25 (by decide) (fun hc => ?_) (fun hc => ?_)
    · rw [if_neg hc] at hF
      refine lv_aload_n hx hb dX1_fallen_31 rfl (lv_at hl 1 rfl) ?_
      refine gx (ci := 1) (k := 0) (v := .ref (G.1 52)) (C := RX1) (T := TX1) (N := 4) hC hS (hn _ (by decide)) rfl rfl in_X1 (by decide) rfl rfl lf_X1_21 dX1_fallen_32 ?_
      refine gxN (ci := 5) (k := 2) (v := .ref (G.1 4)) (C := RX5) (T := TX5) (N := 13) hC hS (hn _ (by decide)) rfl rfl in_X5 (by decide) rfl rfl ln_X1_88 dX1_fallen_35 ?_
      refine lv_iload_n hx hb dX1_fallen_38 rfl (lv_at hl 3 rfl) ?_
      obtain ⟨hi, hF⟩ := ckb_some hF
      refine ald hC hS (hn _ (by decide)) (by decide) rfl hi dX1_fallen_39 ?_
      refine lv_aload_n hx hb dX1_fallen_40 rfl (lv_at hl 1 rfl) ?_
      refine gx (ci := 1) (k := 0) (v := .ref (G.1 52)) (C := RX1) (T := TX1) (N := 4) hC hS (hn _ (by decide)) rfl rfl in_X1 (by decide) rfl rfl lf_X1_21 dX1_fallen_41 ?_
      refine gxN (ci := 5) (k := 2) (v := .ref (G.1 4)) (C := RX5) (T := TX5) (N := 13) hC hS (hn _ (by decide)) rfl rfl in_X5 (by decide) rfl rfl ln_X1_88 dX1_fallen_44 ?_
      refine lv_iload_n hx hb dX1_fallen_47 rfl (lv_at hl 4 rfl) ?_
      obtain ⟨hi, hF⟩ := ckb_some hF
      refine ald hC hS (hn _ (by decide)) (by decide) rfl hi dX1_fallen_48 ?_
      refine lv_isub hx hb dX1_fallen_49 ?_
      refine lv_istore (lv' := [(5, .int ((M.2 4 x2.toNatClampNeg) - (M.2 4 x3.toNatClampNeg))), (4, .int (((1 : Int32) <<< (x2 &&& 31)) ||| ((1 : Int32) <<< (x3 &&& 31)))), (0, .ref (G.1 55)), (1, .ref (G.1 (53 + j1))), (2, .int x2), (3, .int x3)]) hx hb dX1_fallen_50 hl (by decide) rfl (fun ls hl => ?_)
      refine lv_iload hx hb dX1_fallen_52 (lv_at hl 0 rfl) ?_
      refine lv_if_ne (tgt := 62) hx hb dX1_fallen_54 (by decide) (fun hc => ?_) (fun hc => ?_)
      · rw [if_neg hc] at hF
        refine lv_iload hx hb dX1_fallen_62 (lv_at hl 0 rfl) ?_
        refine lv_if_le (tgt := 73) hx hb dX1_fallen_64 (by decide) (fun hc => ?_) (fun hc => ?_)
        · rw [if_pos hc] at hF
          refine lv_iconst (v := 1) hx hb dX1_fallen_73 (by decide) ?_
          refine lv_iload_n hx hb dX1_fallen_74 rfl (lv_at hl 4 rfl) ?_
          refine lv_ishl hx hb dX1_fallen_75 ?_
          exact retI hC hS hr hlk hF dX1_fallen_76
        · rw [if_neg hc] at hF
          refine lv_iconst (v := 1) hx hb dX1_fallen_67 (by decide) ?_
          refine lv_iload_n hx hb dX1_fallen_68 rfl (lv_at hl 5 rfl) ?_
          refine lv_ishl hx hb dX1_fallen_69 ?_
          refine lv_goto (tgt := 76) hx hb dX1_fallen_70 (by decide) ?_
          exact retI hC hS hr hlk hF dX1_fallen_76
      · rw [if_pos hc] at hF
        refine lv_iload hx hb dX1_fallen_57 (lv_at hl 1 rfl) ?_
        refine lv_goto (tgt := 76) hx hb dX1_fallen_59 (by decide) ?_
        exact retI hC hS hr hlk hF dX1_fallen_76
    · rw [if_pos hc] at hF
      refine lv_iload hx hb dX1_fallen_28 (lv_at hl 0 rfl) ?_
      exact retI hC hS hr hlk hF dX1_fallen_30
  · rw [if_pos hc] at hF
    refine lv_iconst (v := 1) hx hb dX1_fallen_8 (by decide) ?_
    refine lv_iload_n hx hb dX1_fallen_9 rfl (lv_at hl 3 rfl) ?_
    refine lv_ishl hx hb dX1_fallen_10 ?_
    exact retI hC hS hr hlk hF dX1_fallen_11
set_option maxRecDepth 100000 in
theorem c_X1_fallen (l : Launch) (G : GT) (hn : ∀ i ∈ LsF, i ∈ gL G) (j1 : Nat) (hj1 : j1 < 2) (x2 : Int32) (x3 : Int32) (M : Mem) (r0 : Int32) (M0 : Mem) (hF : F_X1_fallen j1 x2 x3 M = some (r0, M0)) : MetG l G yX1_fallen cX1_fallen 6 (some .int) 0 0 [.ref (G.1 55), .ref (G.1 (53 + j1)), .int x2, .int x3] M (some (.int r0)) M0 := by
  refine MetG.of (by decide) (Nat.le_of_ble_eq_true rfl) ?_
  intro p e s m args below meth c hC hr hlk hnm ls hS hl
  exact b_X1_fallen hC hr hlk hn hj1 _ _ _ _ _ _ hF hS hl
end
end
