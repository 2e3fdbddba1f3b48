section
-- ===== PART A: goes FIRST, ahead of the names: the tables' words, and 'selects' of the private methods out of them =====
/-- a private method of a class that the tables say can be made, by its rows of tables_1 -/
def lw_okq (q : MethodName × Nat) : Prop := (q.1.cls ≠ "java/lang/invoke/MethodHandle" ∧ q.1.cls ≠ "java/lang/invoke/VarHandle") ∧ Cond.instantiable q.1.cls q.2 ∈ tables_1 ∧ Cond.privateMethod q.1 ∈ tables_1 ∧ Cond.instanceMethod q.1 ∈ tables_1
theorem lw_p0 : lw_okq (⟨"HeardWords$Roads", "seekQuickest", "()V"⟩, 2) := ⟨⟨by decide +kernel, by decide +kernel⟩, List.mem_of_getElem? (i := 27) (by decide +kernel), List.mem_of_getElem? (i := 33) (by decide +kernel), List.mem_of_getElem? (i := 34) (by decide +kernel)⟩
theorem lw_p1 : lw_okq (⟨"HeardWords$Roads", "shortenThrough", "(I)V"⟩, 2) := ⟨⟨by decide +kernel, by decide +kernel⟩, List.mem_of_getElem? (i := 27) (by decide +kernel), List.mem_of_getElem? (i := 37) (by decide +kernel), List.mem_of_getElem? (i := 38) (by decide +kernel)⟩
theorem lw_p2 : lw_okq (⟨"HeardWords$Words", "isTooFar", "(IILHeardWords$Roads;)Z"⟩, 13) := ⟨⟨by decide +kernel, by decide +kernel⟩, List.mem_of_getElem? (i := 49) (by decide +kernel), List.mem_of_getElem? (i := 269) (by decide +kernel), List.mem_of_getElem? (i := 270) (by decide +kernel)⟩
theorem lw_p3 : lw_okq (⟨"HeardWords", "mayBeTold", "(IIIII)Z"⟩, 8) := ⟨⟨by decide +kernel, by decide +kernel⟩, List.mem_of_getElem? (i := 19) (by decide +kernel), List.mem_of_getElem? (i := 289) (by decide +kernel), List.mem_of_getElem? (i := 290) (by decide +kernel)⟩
theorem lw_p4 : lw_okq (⟨"HeardWords", "sheetOf", "(I)LHeardWords$Sheet;"⟩, 8) := ⟨⟨by decide +kernel, by decide +kernel⟩, List.mem_of_getElem? (i := 19) (by decide +kernel), List.mem_of_getElem? (i := 312) (by decide +kernel), List.mem_of_getElem? (i := 313) (by decide +kernel)⟩
theorem lw_p5 : lw_okq (⟨"HeardWords", "find", "(I)I"⟩, 8) := ⟨⟨by decide +kernel, by decide +kernel⟩, List.mem_of_getElem? (i := 19) (by decide +kernel), List.mem_of_getElem? (i := 316) (by decide +kernel), List.mem_of_getElem? (i := 317) (by decide +kernel)⟩
theorem lw_p6 : lw_okq (⟨"HeardWords", "lawOf", "(I)LHeardWords$Law;"⟩, 8) := ⟨⟨by decide +kernel, by decide +kernel⟩, List.mem_of_getElem? (i := 19) (by decide +kernel), List.mem_of_getElem? (i := 337) (by decide +kernel), List.mem_of_getElem? (i := 338) (by decide +kernel)⟩
theorem lw_p7 : lw_okq (⟨"HeardWords$Law", "understand", "()V"⟩, 7) := ⟨⟨by decide +kernel, by decide +kernel⟩, List.mem_of_getElem? (i := 116) (by decide +kernel), List.mem_of_getElem? (i := 345) (by decide +kernel), List.mem_of_getElem? (i := 346) (by decide +kernel)⟩
theorem lw_p8 : lw_okq (⟨"HeardWords$Law", "seekFault", "()I"⟩, 7) := ⟨⟨by decide +kernel, by decide +kernel⟩, List.mem_of_getElem? (i := 116) (by decide +kernel), List.mem_of_getElem? (i := 349) (by decide +kernel), List.mem_of_getElem? (i := 350) (by decide +kernel)⟩
theorem lw_p9 : lw_okq (⟨"HeardWords$Law", "fits", "(I)Z"⟩, 7) := ⟨⟨by decide +kernel, by decide +kernel⟩, List.mem_of_getElem? (i := 116) (by decide +kernel), List.mem_of_getElem? (i := 353) (by decide +kernel), List.mem_of_getElem? (i := 354) (by decide +kernel)⟩
theorem lw_p10 : lw_okq (⟨"HeardWords$Law", "takePart", "(II)V"⟩, 7) := ⟨⟨by decide +kernel, by decide +kernel⟩, List.mem_of_getElem? (i := 116) (by decide +kernel), List.mem_of_getElem? (i := 470) (by decide +kernel), List.mem_of_getElem? (i := 471) (by decide +kernel)⟩
theorem lw_p11 : lw_okq (⟨"HeardWords$Hearing", "isAble", "(LHeardWords$Law;I)Z"⟩, 4) := ⟨⟨by decide +kernel, by decide +kernel⟩, List.mem_of_getElem? (i := 158) (by decide +kernel), List.mem_of_getElem? (i := 511) (by decide +kernel), List.mem_of_getElem? (i := 512) (by decide +kernel)⟩
theorem lw_p12 : lw_okq (⟨"HeardWords$Hearing", "quarrel", "(LHeardWords$Law;I)V"⟩, 4) := ⟨⟨by decide +kernel, by decide +kernel⟩, List.mem_of_getElem? (i := 158) (by decide +kernel), List.mem_of_getElem? (i := 516) (by decide +kernel), List.mem_of_getElem? (i := 517) (by decide +kernel)⟩
theorem lw_p13 : lw_okq (⟨"HeardWords$Hearing", "fallen", "(LHeardWords$Law;II)I"⟩, 4) := ⟨⟨by decide +kernel, by decide +kernel⟩, List.mem_of_getElem? (i := 158) (by decide +kernel), List.mem_of_getElem? (i := 520) (by decide +kernel), List.mem_of_getElem? (i := 521) (by decide +kernel)⟩
theorem lw_p14 : lw_okq (⟨"HeardWords$Hearing", "beElsewhere", "(LHeardWords$Law;I)V"⟩, 4) := ⟨⟨by decide +kernel, by decide +kernel⟩, List.mem_of_getElem? (i := 158) (by decide +kernel), List.mem_of_getElem? (i := 524) (by decide +kernel), List.mem_of_getElem? (i := 525) (by decide +kernel)⟩
theorem lw_p15 : lw_okq (⟨"HeardWords$Hearing", "undo", "(LHeardWords$Law;I)V"⟩, 4) := ⟨⟨by decide +kernel, by decide +kernel⟩, List.mem_of_getElem? (i := 158) (by decide +kernel), List.mem_of_getElem? (i := 528) (by decide +kernel), List.mem_of_getElem? (i := 529) (by decide +kernel)⟩
def lw_privs_1 : List (MethodName × Nat) := [(⟨"HeardWords$Roads", "seekQuickest", "()V"⟩, 2), (⟨"HeardWords$Roads", "shortenThrough", "(I)V"⟩, 2), (⟨"HeardWords$Words", "isTooFar", "(IILHeardWords$Roads;)Z"⟩, 13), (⟨"HeardWords", "mayBeTold", "(IIIII)Z"⟩, 8), (⟨"HeardWords", "sheetOf", "(I)LHeardWords$Sheet;"⟩, 8), (⟨"HeardWords", "find", "(I)I"⟩, 8), (⟨"HeardWords", "lawOf", "(I)LHeardWords$Law;"⟩, 8), (⟨"HeardWords$Law", "understand", "()V"⟩, 7), (⟨"HeardWords$Law", "seekFault", "()I"⟩, 7), (⟨"HeardWords$Law", "fits", "(I)Z"⟩, 7), (⟨"HeardWords$Law", "takePart", "(II)V"⟩, 7), (⟨"HeardWords$Hearing", "isAble", "(LHeardWords$Law;I)Z"⟩, 4), (⟨"HeardWords$Hearing", "quarrel", "(LHeardWords$Law;I)V"⟩, 4), (⟨"HeardWords$Hearing", "fallen", "(LHeardWords$Law;II)I"⟩, 4), (⟨"HeardWords$Hearing", "beElsewhere", "(LHeardWords$Law;I)V"⟩, 4), (⟨"HeardWords$Hearing", "undo", "(LHeardWords$Law;I)V"⟩, 4)]
theorem lw_r1 : ∀ q ∈ lw_privs_1, lw_okq q := List.forall_mem_cons.mpr ⟨lw_p0, List.forall_mem_cons.mpr ⟨lw_p1, List.forall_mem_cons.mpr ⟨lw_p2, List.forall_mem_cons.mpr ⟨lw_p3, List.forall_mem_cons.mpr ⟨lw_p4, List.forall_mem_cons.mpr ⟨lw_p5, List.forall_mem_cons.mpr ⟨lw_p6, List.forall_mem_cons.mpr ⟨lw_p7, List.forall_mem_cons.mpr ⟨lw_p8, List.forall_mem_cons.mpr ⟨lw_p9, List.forall_mem_cons.mpr ⟨lw_p10, List.forall_mem_cons.mpr ⟨lw_p11, List.forall_mem_cons.mpr ⟨lw_p12, List.forall_mem_cons.mpr ⟨lw_p13, List.forall_mem_cons.mpr ⟨lw_p14, List.forall_mem_cons.mpr ⟨lw_p15, fun _ h => absurd h List.not_mem_nil⟩⟩⟩⟩⟩⟩⟩⟩⟩⟩⟩⟩⟩⟩⟩⟩
theorem lw_p16 : lw_okq (⟨"HeardWords", "isOrder", "(LHeardWords$Sheet;)Z"⟩, 8) := ⟨⟨by decide +kernel, by decide +kernel⟩, List.mem_of_getElem? (i := 19) (by decide +kernel), List.mem_of_getElem? (i := 540) (by decide +kernel), List.mem_of_getElem? (i := 541) (by decide +kernel)⟩
theorem lw_p17 : lw_okq (⟨"HeardWords$Hearing", "ordersWith", "(LHeardWords$Law;III)I"⟩, 4) := ⟨⟨by decide +kernel, by decide +kernel⟩, List.mem_of_getElem? (i := 158) (by decide +kernel), List.mem_of_getElem? (i := 562) (by decide +kernel), List.mem_of_getElem? (i := 563) (by decide +kernel)⟩
theorem lw_p18 : lw_okq (⟨"HeardWords$AtOnce", "meetEarlier", "(LHeardWords$Law;I)V"⟩, 6) := ⟨⟨by decide +kernel, by decide +kernel⟩, List.mem_of_getElem? (i := 178) (by decide +kernel), List.mem_of_getElem? (i := 576) (by decide +kernel), List.mem_of_getElem? (i := 577) (by decide +kernel)⟩
theorem lw_p19 : lw_okq (⟨"HeardWords$AtOnce", "meetFoe", "(III)V"⟩, 6) := ⟨⟨by decide +kernel, by decide +kernel⟩, List.mem_of_getElem? (i := 178) (by decide +kernel), List.mem_of_getElem? (i := 580) (by decide +kernel), List.mem_of_getElem? (i := 581) (by decide +kernel)⟩
theorem lw_p20 : lw_okq (⟨"HeardWords$AtOnce", "strike", "(II)V"⟩, 6) := ⟨⟨by decide +kernel, by decide +kernel⟩, List.mem_of_getElem? (i := 178) (by decide +kernel), List.mem_of_getElem? (i := 584) (by decide +kernel), List.mem_of_getElem? (i := 585) (by decide +kernel)⟩
theorem lw_p21 : lw_okq (⟨"HeardWords$AtOnce", "unionOver", "([II)I"⟩, 6) := ⟨⟨by decide +kernel, by decide +kernel⟩, List.mem_of_getElem? (i := 178) (by decide +kernel), List.mem_of_getElem? (i := 592) (by decide +kernel), List.mem_of_getElem? (i := 593) (by decide +kernel)⟩
theorem lw_p22 : lw_okq (⟨"HeardWords$AtOnce", "unstruckBut", "(I)I"⟩, 6) := ⟨⟨by decide +kernel, by decide +kernel⟩, List.mem_of_getElem? (i := 178) (by decide +kernel), List.mem_of_getElem? (i := 613) (by decide +kernel), List.mem_of_getElem? (i := 614) (by decide +kernel)⟩
theorem lw_p23 : lw_okq (⟨"HeardWords$AtOnce", "hasGreater", "(I)Z"⟩, 6) := ⟨⟨by decide +kernel, by decide +kernel⟩, List.mem_of_getElem? (i := 178) (by decide +kernel), List.mem_of_getElem? (i := 626) (by decide +kernel), List.mem_of_getElem? (i := 627) (by decide +kernel)⟩
theorem lw_p24 : lw_okq (⟨"HeardWords$AtOnce", "isFullSet", "(I)Z"⟩, 6) := ⟨⟨by decide +kernel, by decide +kernel⟩, List.mem_of_getElem? (i := 178) (by decide +kernel), List.mem_of_getElem? (i := 634) (by decide +kernel), List.mem_of_getElem? (i := 635) (by decide +kernel)⟩
theorem lw_p25 : lw_okq (⟨"HeardWords", "isHeardUnlike", "(I)Z"⟩, 8) := ⟨⟨by decide +kernel, by decide +kernel⟩, List.mem_of_getElem? (i := 19) (by decide +kernel), List.mem_of_getElem? (i := 699) (by decide +kernel), List.mem_of_getElem? (i := 700) (by decide +kernel)⟩
theorem lw_p26 : lw_okq (⟨"HeardWords", "digestOfLaw", "(JI)J"⟩, 8) := ⟨⟨by decide +kernel, by decide +kernel⟩, List.mem_of_getElem? (i := 19) (by decide +kernel), List.mem_of_getElem? (i := 766) (by decide +kernel), List.mem_of_getElem? (i := 767) (by decide +kernel)⟩
theorem lw_p27 : lw_okq (⟨"HeardWordsModel", "laysWays", "()V"⟩, 29) := ⟨⟨by decide +kernel, by decide +kernel⟩, List.mem_of_getElem? (i := 777) (by decide +kernel), List.mem_of_getElem? (i := 886) (by decide +kernel), List.mem_of_getElem? (i := 887) (by decide +kernel)⟩
theorem lw_p28 : lw_okq (⟨"HeardWordsModel", "adds", "(IIIII)I"⟩, 29) := ⟨⟨by decide +kernel, by decide +kernel⟩, List.mem_of_getElem? (i := 777) (by decide +kernel), List.mem_of_getElem? (i := 894) (by decide +kernel), List.mem_of_getElem? (i := 895) (by decide +kernel)⟩
theorem lw_p29 : lw_okq (⟨"HeardWordsModel", "meets", "(I)I"⟩, 29) := ⟨⟨by decide +kernel, by decide +kernel⟩, List.mem_of_getElem? (i := 777) (by decide +kernel), List.mem_of_getElem? (i := 905) (by decide +kernel), List.mem_of_getElem? (i := 906) (by decide +kernel)⟩
theorem lw_p30 : lw_okq (⟨"HeardWordsModel", "isWord", "(I)Z"⟩, 29) := ⟨⟨by decide +kernel, by decide +kernel⟩, List.mem_of_getElem? (i := 777) (by decide +kernel), List.mem_of_getElem? (i := 913) (by decide +kernel), List.mem_of_getElem? (i := 914) (by decide +kernel)⟩
theorem lw_p31 : lw_okq (⟨"HeardWordsModel", "laysPossible", "()V"⟩, 29) := ⟨⟨by decide +kernel, by decide +kernel⟩, List.mem_of_getElem? (i := 777) (by decide +kernel), List.mem_of_getElem? (i := 917) (by decide +kernel), List.mem_of_getElem? (i := 918) (by decide +kernel)⟩
def lw_privs_2 : List (MethodName × Nat) := [(⟨"HeardWords", "isOrder", "(LHeardWords$Sheet;)Z"⟩, 8), (⟨"HeardWords$Hearing", "ordersWith", "(LHeardWords$Law;III)I"⟩, 4), (⟨"HeardWords$AtOnce", "meetEarlier", "(LHeardWords$Law;I)V"⟩, 6), (⟨"HeardWords$AtOnce", "meetFoe", "(III)V"⟩, 6), (⟨"HeardWords$AtOnce", "strike", "(II)V"⟩, 6), (⟨"HeardWords$AtOnce", "unionOver", "([II)I"⟩, 6), (⟨"HeardWords$AtOnce", "unstruckBut", "(I)I"⟩, 6), (⟨"HeardWords$AtOnce", "hasGreater", "(I)Z"⟩, 6), (⟨"HeardWords$AtOnce", "isFullSet", "(I)Z"⟩, 6), (⟨"HeardWords", "isHeardUnlike", "(I)Z"⟩, 8), (⟨"HeardWords", "digestOfLaw", "(JI)J"⟩, 8), (⟨"HeardWordsModel", "laysWays", "()V"⟩, 29), (⟨"HeardWordsModel", "adds", "(IIIII)I"⟩, 29), (⟨"HeardWordsModel", "meets", "(I)I"⟩, 29), (⟨"HeardWordsModel", "isWord", "(I)Z"⟩, 29), (⟨"HeardWordsModel", "laysPossible", "()V"⟩, 29)]
theorem lw_r2 : ∀ q ∈ lw_privs_2, lw_okq q := List.forall_mem_cons.mpr ⟨lw_p16, List.forall_mem_cons.mpr ⟨lw_p17, List.forall_mem_cons.mpr ⟨lw_p18, List.forall_mem_cons.mpr ⟨lw_p19, List.forall_mem_cons.mpr ⟨lw_p20, List.forall_mem_cons.mpr ⟨lw_p21, List.forall_mem_cons.mpr ⟨lw_p22, List.forall_mem_cons.mpr ⟨lw_p23, List.forall_mem_cons.mpr ⟨lw_p24, List.forall_mem_cons.mpr ⟨lw_p25, List.forall_mem_cons.mpr ⟨lw_p26, List.forall_mem_cons.mpr ⟨lw_p27, List.forall_mem_cons.mpr ⟨lw_p28, List.forall_mem_cons.mpr ⟨lw_p29, List.forall_mem_cons.mpr ⟨lw_p30, List.forall_mem_cons.mpr ⟨lw_p31, fun _ h => absurd h List.not_mem_nil⟩⟩⟩⟩⟩⟩⟩⟩⟩⟩⟩⟩⟩⟩⟩⟩
theorem lw_p32 : lw_okq (⟨"HeardWordsModel", "isNow", "(II)I"⟩, 29) := ⟨⟨by decide +kernel, by decide +kernel⟩, List.mem_of_getElem? (i := 777) (by decide +kernel), List.mem_of_getElem? (i := 924) (by decide +kernel), List.mem_of_getElem? (i := 925) (by decide +kernel)⟩
theorem lw_p33 : lw_okq (⟨"HeardWordsModel", "all", "()I"⟩, 29) := ⟨⟨by decide +kernel, by decide +kernel⟩, List.mem_of_getElem? (i := 777) (by decide +kernel), List.mem_of_getElem? (i := 932) (by decide +kernel), List.mem_of_getElem? (i := 933) (by decide +kernel)⟩
theorem lw_p34 : lw_okq (⟨"HeardWordsModel", "reads", "(I)V"⟩, 29) := ⟨⟨by decide +kernel, by decide +kernel⟩, List.mem_of_getElem? (i := 777) (by decide +kernel), List.mem_of_getElem? (i := 951) (by decide +kernel), List.mem_of_getElem? (i := 952) (by decide +kernel)⟩
theorem lw_p35 : lw_okq (⟨"HeardWordsModel", "faultOf", "(I)I"⟩, 29) := ⟨⟨by decide +kernel, by decide +kernel⟩, List.mem_of_getElem? (i := 777) (by decide +kernel), List.mem_of_getElem? (i := 955) (by decide +kernel), List.mem_of_getElem? (i := 956) (by decide +kernel)⟩
theorem lw_p36 : lw_okq (⟨"HeardWordsModel", "plain", "(I)V"⟩, 29) := ⟨⟨by decide +kernel, by decide +kernel⟩, List.mem_of_getElem? (i := 777) (by decide +kernel), List.mem_of_getElem? (i := 959) (by decide +kernel), List.mem_of_getElem? (i := 960) (by decide +kernel)⟩
theorem lw_p37 : lw_okq (⟨"HeardWordsModel", "byteAt", "(II)I"⟩, 29) := ⟨⟨by decide +kernel, by decide +kernel⟩, List.mem_of_getElem? (i := 777) (by decide +kernel), List.mem_of_getElem? (i := 963) (by decide +kernel), List.mem_of_getElem? (i := 964) (by decide +kernel)⟩
theorem lw_p38 : lw_okq (⟨"HeardWordsModel", "heardNow", "(II)I"⟩, 29) := ⟨⟨by decide +kernel, by decide +kernel⟩, List.mem_of_getElem? (i := 777) (by decide +kernel), List.mem_of_getElem? (i := 975) (by decide +kernel), List.mem_of_getElem? (i := 976) (by decide +kernel)⟩
theorem lw_p39 : lw_okq (⟨"HeardWordsModel", "hearsAll", "(I)V"⟩, 29) := ⟨⟨by decide +kernel, by decide +kernel⟩, List.mem_of_getElem? (i := 777) (by decide +kernel), List.mem_of_getElem? (i := 979) (by decide +kernel), List.mem_of_getElem? (i := 980) (by decide +kernel)⟩
theorem lw_p40 : lw_okq (⟨"HeardWordsModel", "heardOnes", "()I"⟩, 29) := ⟨⟨by decide +kernel, by decide +kernel⟩, List.mem_of_getElem? (i := 777) (by decide +kernel), List.mem_of_getElem? (i := 983) (by decide +kernel), List.mem_of_getElem? (i := 984) (by decide +kernel)⟩
theorem lw_p41 : lw_okq (⟨"HeardWordsModel", "lines", "(I)V"⟩, 29) := ⟨⟨by decide +kernel, by decide +kernel⟩, List.mem_of_getElem? (i := 777) (by decide +kernel), List.mem_of_getElem? (i := 987) (by decide +kernel), List.mem_of_getElem? (i := 988) (by decide +kernel)⟩
theorem lw_p42 : lw_okq (⟨"HeardWordsModel", "hears", "(I)V"⟩, 29) := ⟨⟨by decide +kernel, by decide +kernel⟩, List.mem_of_getElem? (i := 777) (by decide +kernel), List.mem_of_getElem? (i := 994) (by decide +kernel), List.mem_of_getElem? (i := 995) (by decide +kernel)⟩
theorem lw_p43 : lw_okq (⟨"HeardWordsModel", "quarrel", "(II)Z"⟩, 29) := ⟨⟨by decide +kernel, by decide +kernel⟩, List.mem_of_getElem? (i := 777) (by decide +kernel), List.mem_of_getElem? (i := 1001) (by decide +kernel), List.mem_of_getElem? (i := 1002) (by decide +kernel)⟩
theorem lw_p44 : lw_okq (⟨"HeardWordsModel", "undoes", "(IZ)V"⟩, 29) := ⟨⟨by decide +kernel, by decide +kernel⟩, List.mem_of_getElem? (i := 777) (by decide +kernel), List.mem_of_getElem? (i := 1005) (by decide +kernel), List.mem_of_getElem? (i := 1006) (by decide +kernel)⟩
theorem lw_p45 : lw_okq (⟨"HeardWordsModel", "tells", "(I)I"⟩, 29) := ⟨⟨by decide +kernel, by decide +kernel⟩, List.mem_of_getElem? (i := 777) (by decide +kernel), List.mem_of_getElem? (i := 1009) (by decide +kernel), List.mem_of_getElem? (i := 1010) (by decide +kernel)⟩
theorem lw_p46 : lw_okq (⟨"HeardWordsModel", "headNow", "(I)I"⟩, 29) := ⟨⟨by decide +kernel, by decide +kernel⟩, List.mem_of_getElem? (i := 777) (by decide +kernel), List.mem_of_getElem? (i := 1021) (by decide +kernel), List.mem_of_getElem? (i := 1022) (by decide +kernel)⟩
theorem lw_p47 : lw_okq (⟨"HeardWordsModel", "turns", "()Z"⟩, 29) := ⟨⟨by decide +kernel, by decide +kernel⟩, List.mem_of_getElem? (i := 777) (by decide +kernel), List.mem_of_getElem? (i := 1029) (by decide +kernel), List.mem_of_getElem? (i := 1030) (by decide +kernel)⟩
def lw_privs_3 : List (MethodName × Nat) := [(⟨"HeardWordsModel", "isNow", "(II)I"⟩, 29), (⟨"HeardWordsModel", "all", "()I"⟩, 29), (⟨"HeardWordsModel", "reads", "(I)V"⟩, 29), (⟨"HeardWordsModel", "faultOf", "(I)I"⟩, 29), (⟨"HeardWordsModel", "plain", "(I)V"⟩, 29), (⟨"HeardWordsModel", "byteAt", "(II)I"⟩, 29), (⟨"HeardWordsModel", "heardNow", "(II)I"⟩, 29), (⟨"HeardWordsModel", "hearsAll", "(I)V"⟩, 29), (⟨"HeardWordsModel", "heardOnes", "()I"⟩, 29), (⟨"HeardWordsModel", "lines", "(I)V"⟩, 29), (⟨"HeardWordsModel", "hears", "(I)V"⟩, 29), (⟨"HeardWordsModel", "quarrel", "(II)Z"⟩, 29), (⟨"HeardWordsModel", "undoes", "(IZ)V"⟩, 29), (⟨"HeardWordsModel", "tells", "(I)I"⟩, 29), (⟨"HeardWordsModel", "headNow", "(I)I"⟩, 29), (⟨"HeardWordsModel", "turns", "()Z"⟩, 29)]
theorem lw_r3 : ∀ q ∈ lw_privs_3, lw_okq q := List.forall_mem_cons.mpr ⟨lw_p32, List.forall_mem_cons.mpr ⟨lw_p33, List.forall_mem_cons.mpr ⟨lw_p34, List.forall_mem_cons.mpr ⟨lw_p35, List.forall_mem_cons.mpr ⟨lw_p36, List.forall_mem_cons.mpr ⟨lw_p37, List.forall_mem_cons.mpr ⟨lw_p38, List.forall_mem_cons.mpr ⟨lw_p39, List.forall_mem_cons.mpr ⟨lw_p40, List.forall_mem_cons.mpr ⟨lw_p41, List.forall_mem_cons.mpr ⟨lw_p42, List.forall_mem_cons.mpr ⟨lw_p43, List.forall_mem_cons.mpr ⟨lw_p44, List.forall_mem_cons.mpr ⟨lw_p45, List.forall_mem_cons.mpr ⟨lw_p46, List.forall_mem_cons.mpr ⟨lw_p47, fun _ h => absurd h List.not_mem_nil⟩⟩⟩⟩⟩⟩⟩⟩⟩⟩⟩⟩⟩⟩⟩⟩
theorem lw_p48 : lw_okq (⟨"HeardWordsModel", "meetsAll", "(II)V"⟩, 29) := ⟨⟨by decide +kernel, by decide +kernel⟩, List.mem_of_getElem? (i := 777) (by decide +kernel), List.mem_of_getElem? (i := 1037) (by decide +kernel), List.mem_of_getElem? (i := 1038) (by decide +kernel)⟩
theorem lw_p49 : lw_okq (⟨"HeardWordsModel", "hits", "(III)Z"⟩, 29) := ⟨⟨by decide +kernel, by decide +kernel⟩, List.mem_of_getElem? (i := 777) (by decide +kernel), List.mem_of_getElem? (i := 1041) (by decide +kernel), List.mem_of_getElem? (i := 1042) (by decide +kernel)⟩
theorem lw_p50 : lw_okq (⟨"HeardWordsModel", "isSound", "(I)Z"⟩, 29) := ⟨⟨by decide +kernel, by decide +kernel⟩, List.mem_of_getElem? (i := 777) (by decide +kernel), List.mem_of_getElem? (i := 1049) (by decide +kernel), List.mem_of_getElem? (i := 1050) (by decide +kernel)⟩
theorem lw_p51 : lw_okq (⟨"HeardWordsModel", "answers", "(II)Z"⟩, 29) := ⟨⟨by decide +kernel, by decide +kernel⟩, List.mem_of_getElem? (i := 777) (by decide +kernel), List.mem_of_getElem? (i := 1053) (by decide +kernel), List.mem_of_getElem? (i := 1054) (by decide +kernel)⟩
theorem lw_p52 : lw_okq (⟨"HeardWordsModel", "leastOf", "(I)I"⟩, 29) := ⟨⟨by decide +kernel, by decide +kernel⟩, List.mem_of_getElem? (i := 777) (by decide +kernel), List.mem_of_getElem? (i := 1061) (by decide +kernel), List.mem_of_getElem? (i := 1062) (by decide +kernel)⟩
theorem lw_p53 : lw_okq (⟨"HeardWordsModel", "leastNow", "()I"⟩, 29) := ⟨⟨by decide +kernel, by decide +kernel⟩, List.mem_of_getElem? (i := 777) (by decide +kernel), List.mem_of_getElem? (i := 1065) (by decide +kernel), List.mem_of_getElem? (i := 1066) (by decide +kernel)⟩
theorem lw_p54 : lw_okq (⟨"HeardWordsModel", "fullNow", "(II)I"⟩, 29) := ⟨⟨by decide +kernel, by decide +kernel⟩, List.mem_of_getElem? (i := 777) (by decide +kernel), List.mem_of_getElem? (i := 1073) (by decide +kernel), List.mem_of_getElem? (i := 1074) (by decide +kernel)⟩
theorem lw_p55 : lw_okq (⟨"HeardWordsModel", "laysSounds", "()V"⟩, 29) := ⟨⟨by decide +kernel, by decide +kernel⟩, List.mem_of_getElem? (i := 777) (by decide +kernel), List.mem_of_getElem? (i := 1077) (by decide +kernel), List.mem_of_getElem? (i := 1078) (by decide +kernel)⟩
theorem lw_p56 : lw_okq (⟨"HeardWordsModel", "isFull", "(I)Z"⟩, 29) := ⟨⟨by decide +kernel, by decide +kernel⟩, List.mem_of_getElem? (i := 777) (by decide +kernel), List.mem_of_getElem? (i := 1081) (by decide +kernel), List.mem_of_getElem? (i := 1082) (by decide +kernel)⟩
theorem lw_p57 : lw_okq (⟨"HeardWordsModel", "ringNow", "()I"⟩, 29) := ⟨⟨by decide +kernel, by decide +kernel⟩, List.mem_of_getElem? (i := 777) (by decide +kernel), List.mem_of_getElem? (i := 1093) (by decide +kernel), List.mem_of_getElem? (i := 1094) (by decide +kernel)⟩
theorem lw_p58 : lw_okq (⟨"HeardWordsModel", "hangsNow", "(I)I"⟩, 29) := ⟨⟨by decide +kernel, by decide +kernel⟩, List.mem_of_getElem? (i := 777) (by decide +kernel), List.mem_of_getElem? (i := 1105) (by decide +kernel), List.mem_of_getElem? (i := 1106) (by decide +kernel)⟩
theorem lw_p59 : lw_okq (⟨"HeardWordsModel", "mostNow", "()I"⟩, 29) := ⟨⟨by decide +kernel, by decide +kernel⟩, List.mem_of_getElem? (i := 777) (by decide +kernel), List.mem_of_getElem? (i := 1113) (by decide +kernel), List.mem_of_getElem? (i := 1114) (by decide +kernel)⟩
theorem lw_p60 : lw_okq (⟨"HeardWordsModel", "lacks", "(III)I"⟩, 29) := ⟨⟨by decide +kernel, by decide +kernel⟩, List.mem_of_getElem? (i := 777) (by decide +kernel), List.mem_of_getElem? (i := 1137) (by decide +kernel), List.mem_of_getElem? (i := 1138) (by decide +kernel)⟩
theorem lw_p61 : lw_okq (⟨"HeardWordsModel", "lay", "(III)V"⟩, 29) := ⟨⟨by decide +kernel, by decide +kernel⟩, List.mem_of_getElem? (i := 777) (by decide +kernel), List.mem_of_getElem? (i := 1141) (by decide +kernel), List.mem_of_getElem? (i := 1142) (by decide +kernel)⟩
theorem lw_p62 : lw_okq (⟨"HeardWordsModel", "roadMany", "()I"⟩, 29) := ⟨⟨by decide +kernel, by decide +kernel⟩, List.mem_of_getElem? (i := 777) (by decide +kernel), List.mem_of_getElem? (i := 1162) (by decide +kernel), List.mem_of_getElem? (i := 1163) (by decide +kernel)⟩
def lw_privs_4 : List (MethodName × Nat) := [(⟨"HeardWordsModel", "meetsAll", "(II)V"⟩, 29), (⟨"HeardWordsModel", "hits", "(III)Z"⟩, 29), (⟨"HeardWordsModel", "isSound", "(I)Z"⟩, 29), (⟨"HeardWordsModel", "answers", "(II)Z"⟩, 29), (⟨"HeardWordsModel", "leastOf", "(I)I"⟩, 29), (⟨"HeardWordsModel", "leastNow", "()I"⟩, 29), (⟨"HeardWordsModel", "fullNow", "(II)I"⟩, 29), (⟨"HeardWordsModel", "laysSounds", "()V"⟩, 29), (⟨"HeardWordsModel", "isFull", "(I)Z"⟩, 29), (⟨"HeardWordsModel", "ringNow", "()I"⟩, 29), (⟨"HeardWordsModel", "hangsNow", "(I)I"⟩, 29), (⟨"HeardWordsModel", "mostNow", "()I"⟩, 29), (⟨"HeardWordsModel", "lacks", "(III)I"⟩, 29), (⟨"HeardWordsModel", "lay", "(III)V"⟩, 29), (⟨"HeardWordsModel", "roadMany", "()I"⟩, 29)]
theorem lw_r4 : ∀ q ∈ lw_privs_4, lw_okq q := List.forall_mem_cons.mpr ⟨lw_p48, List.forall_mem_cons.mpr ⟨lw_p49, List.forall_mem_cons.mpr ⟨lw_p50, List.forall_mem_cons.mpr ⟨lw_p51, List.forall_mem_cons.mpr ⟨lw_p52, List.forall_mem_cons.mpr ⟨lw_p53, List.forall_mem_cons.mpr ⟨lw_p54, List.forall_mem_cons.mpr ⟨lw_p55, List.forall_mem_cons.mpr ⟨lw_p56, List.forall_mem_cons.mpr ⟨lw_p57, List.forall_mem_cons.mpr ⟨lw_p58, List.forall_mem_cons.mpr ⟨lw_p59, List.forall_mem_cons.mpr ⟨lw_p60, List.forall_mem_cons.mpr ⟨lw_p61, List.forall_mem_cons.mpr ⟨lw_p62, fun _ h => absurd h List.not_mem_nil⟩⟩⟩⟩⟩⟩⟩⟩⟩⟩⟩⟩⟩⟩⟩
def lw_privs : List (MethodName × Nat) := lw_privs_1 ++ (lw_privs_2 ++ (lw_privs_3 ++ (lw_privs_4)))
def lw_tbl : List Cond := k2_sels lw_privs ++ tables_1
theorem lw_privs_ok : ∀ q ∈ lw_privs, lw_okq q := by
  show ∀ q ∈ lw_privs_1 ++ (lw_privs_2 ++ (lw_privs_3 ++ (lw_privs_4))), lw_okq q
  exact List.forall_mem_append.mpr ⟨lw_r1, List.forall_mem_append.mpr ⟨lw_r2, List.forall_mem_append.mpr ⟨lw_r3, lw_r4⟩⟩⟩
end
section
def RX0 : String := "HeardWords$AtOnce"
def TX0 : u_T := fun k => match k with
  | 0 => ("HeardWords$AtOnce", "words", "LHeardWords$Words;", true)
  | 1 => ("HeardWords$AtOnce", "struck", "[I", true)
  | 2 => ("HeardWords$AtOnce", "strikers", "[I", true)
  | 3 => ("HeardWords$AtOnce", "reached", "[I", true)
  | 4 => ("HeardWords$AtOnce", "marks", "[B", true)
  | _ => ("HeardWords$AtOnce", "admitted", "I", false)
def tyX0 : Nat → FieldType := fun k => match k with
  | 0 => .object "HeardWords$Words"
  | 1 => .array .int
  | 2 => .array .int
  | 3 => .array .int
  | 4 => .array .byte
  | _ => .int
abbrev wsX00 : List Cond := u_ws RX0 TX0 6
theorem nmX0 : ∀ a, a < 6 → ∀ b, b < 6 → a ≠ b → (TX0 a).2.1 ≠ (TX0 b).2.1 := by decide +kernel
theorem tyX0_ok : ∀ k, k < 6 → parseFieldDescriptor (TX0 k).2.2.1 = some (tyX0 k) := by decide +kernel
abbrev cX0_init : ByteArray := prog_2_method_1_code
def yX0_init : MethodName := ⟨RX0, "<init>", "(LHeardWords$Words;)V"⟩
abbrev cX0_takeUp : ByteArray := prog_2_method_2_code
def yX0_takeUp : MethodName := ⟨RX0, "takeUp", "(LHeardWords$Law;I)V"⟩
abbrev cX0_meetEarlier : ByteArray := prog_2_method_3_code
def yX0_meetEarlier : MethodName := ⟨RX0, "meetEarlier", "(LHeardWords$Law;I)V"⟩
abbrev cX0_meetFoe : ByteArray := prog_2_method_4_code
def yX0_meetFoe : MethodName := ⟨RX0, "meetFoe", "(III)V"⟩
abbrev cX0_strike : ByteArray := prog_2_method_5_code
def yX0_strike : MethodName := ⟨RX0, "strike", "(II)V"⟩
abbrev cX0_struckBy : ByteArray := prog_2_method_6_code
def yX0_struckBy : MethodName := ⟨RX0, "struckBy", "(I)I"⟩
abbrev cX0_unionOver : ByteArray := prog_2_method_7_code
def yX0_unionOver : MethodName := ⟨RX0, "unionOver", "([II)I"⟩
abbrev cX0_answersForItself : ByteArray := prog_2_method_8_code
def yX0_answersForItself : MethodName := ⟨RX0, "answersForItself", "(I)Z"⟩
abbrev cX0_leastSet : ByteArray := prog_2_method_9_code
def yX0_leastSet : MethodName := ⟨RX0, "leastSet", "()I"⟩
abbrev cX0_unstruckBut : ByteArray := prog_2_method_10_code
def yX0_unstruckBut : MethodName := ⟨RX0, "unstruckBut", "(I)I"⟩
abbrev cX0_markFullSets : ByteArray := prog_2_method_11_code
def yX0_markFullSets : MethodName := ⟨RX0, "markFullSets", "()V"⟩
abbrev cX0_hasGreater : ByteArray := prog_2_method_12_code
def yX0_hasGreater : MethodName := ⟨RX0, "hasGreater", "(I)Z"⟩
abbrev cX0_isFullSet : ByteArray := prog_2_method_13_code
def yX0_isFullSet : MethodName := ⟨RX0, "isFullSet", "(I)Z"⟩
abbrev cX0_fullSets : ByteArray := prog_2_method_14_code
def yX0_fullSets : MethodName := ⟨RX0, "fullSets", "()I"⟩
abbrev cX0_fullSet : ByteArray := prog_2_method_15_code
def yX0_fullSet : MethodName := ⟨RX0, "fullSet", "(I)I"⟩
abbrev cX0_firmness : ByteArray := prog_2_method_16_code
def yX0_firmness : MethodName := ⟨RX0, "firmness", "(I)I"⟩
abbrev cX0_onRings : ByteArray := prog_2_method_17_code
def yX0_onRings : MethodName := ⟨RX0, "onRings", "()I"⟩
def RX1 : String := "HeardWords$Hearing"
def TX1 : u_T := fun k => match k with
  | 0 => ("HeardWords$Hearing", "words", "LHeardWords$Words;", true)
  | 1 => ("HeardWords$Hearing", "stand", "I", false)
  | 2 => ("HeardWords$Hearing", "undone", "I", false)
  | _ => ("HeardWords$Hearing", "out", "I", false)
def tyX1 : Nat → FieldType := fun k => match k with
  | 0 => .object "HeardWords$Words"
  | 1 => .int
  | 2 => .int
  | _ => .int
abbrev wsX10 : List Cond := u_ws RX1 TX1 4
theorem nmX1 : ∀ a, a < 4 → ∀ b, b < 4 → a ≠ b → (TX1 a).2.1 ≠ (TX1 b).2.1 := by decide +kernel
theorem tyX1_ok : ∀ k, k < 4 → parseFieldDescriptor (TX1 k).2.2.1 = some (tyX1 k) := by decide +kernel
abbrev cX1_init : ByteArray := prog_3_method_1_code
def yX1_init : MethodName := ⟨RX1, "<init>", "(LHeardWords$Words;)V"⟩
abbrev cX1_begin : ByteArray := prog_3_method_2_code
def yX1_begin : MethodName := ⟨RX1, "begin", "()V"⟩
abbrev cX1_byNumbers : ByteArray := prog_3_method_3_code
def yX1_byNumbers : MethodName := ⟨RX1, "byNumbers", "(LHeardWords$Law;I)V"⟩
abbrev cX1_outcome : ByteArray := prog_3_method_4_code
def yX1_outcome : MethodName := ⟨RX1, "outcome", "(I)I"⟩
abbrev cX1_onHead : ByteArray := prog_3_method_5_code
def yX1_onHead : MethodName := ⟨RX1, "onHead", "(I)I"⟩
abbrev cX1_hangingOn : ByteArray := prog_3_method_6_code
def yX1_hangingOn : MethodName := ⟨RX1, "hangingOn", "(LHeardWords$Law;II)I"⟩
abbrev cX1_ordersWith : ByteArray := prog_3_method_7_code
def yX1_ordersWith : MethodName := ⟨RX1, "ordersWith", "(LHeardWords$Law;III)I"⟩
abbrev cX1_hearNext : ByteArray := prog_3_method_8_code
def yX1_hearNext : MethodName := ⟨RX1, "hearNext", "(LHeardWords$Law;I)V"⟩
abbrev cX1_isAble : ByteArray := prog_3_method_9_code
def yX1_isAble : MethodName := ⟨RX1, "isAble", "(LHeardWords$Law;I)Z"⟩
abbrev cX1_quarrel : ByteArray := prog_3_method_10_code
def yX1_quarrel : MethodName := ⟨RX1, "quarrel", "(LHeardWords$Law;I)V"⟩
abbrev cX1_fallen : ByteArray := prog_3_method_11_code
def yX1_fallen : MethodName := ⟨RX1, "fallen", "(LHeardWords$Law;II)I"⟩
abbrev cX1_beElsewhere : ByteArray := prog_3_method_12_code
def yX1_beElsewhere : MethodName := ⟨RX1, "beElsewhere", "(LHeardWords$Law;I)V"⟩
abbrev cX1_undo : ByteArray := prog_3_method_13_code
def yX1_undo : MethodName := ⟨RX1, "undo", "(LHeardWords$Law;I)V"⟩
def RX2 : String := "HeardWords$Law"
def TX2 : u_T := fun k => match k with
  | 0 => ("HeardWords$Law", "text", "[I", true)
  | 1 => ("HeardWords$Law", "size", "I", false)
  | 2 => ("HeardWords$Law", "firstFault", "I", false)
  | 3 => ("HeardWords$Law", "enough", "I", false)
  | 4 => ("HeardWords$Law", "contradiction", "I", false)
  | 5 => ("HeardWords$Law", "elsewhere", "I", false)
  | _ => ("HeardWords$Law", "partial", "I", false)
def tyX2 : Nat → FieldType := fun k => match k with
  | 0 => .array .int
  | 1 => .int
  | 2 => .int
  | 3 => .int
  | 4 => .int
  | 5 => .int
  | _ => .int
abbrev wsX20 : List Cond := u_ws RX2 TX2 7
theorem nmX2 : ∀ a, a < 7 → ∀ b, b < 7 → a ≠ b → (TX2 a).2.1 ≠ (TX2 b).2.1 := by decide +kernel
theorem tyX2_ok : ∀ k, k < 7 → parseFieldDescriptor (TX2 k).2.2.1 = some (tyX2 k) := by decide +kernel
abbrev cX2_init : ByteArray := prog_4_method_1_code
def yX2_init : MethodName := ⟨RX2, "<init>", "()V"⟩
abbrev cX2_append : ByteArray := prog_4_method_2_code
def yX2_append : MethodName := ⟨RX2, "append", "(I)V"⟩
abbrev cX2_empty : ByteArray := prog_4_method_3_code
def yX2_empty : MethodName := ⟨RX2, "empty", "()V"⟩
abbrev cX2_saysTheSameAs : ByteArray := prog_4_method_4_code
def yX2_saysTheSameAs : MethodName := ⟨RX2, "saysTheSameAs", "(LHeardWords$Law;)Z"⟩
abbrev cX2_understand : ByteArray := prog_4_method_5_code
def yX2_understand : MethodName := ⟨RX2, "understand", "()V"⟩
abbrev cX2_takePart : ByteArray := prog_4_method_6_code
def yX2_takePart : MethodName := ⟨RX2, "takePart", "(II)V"⟩
abbrev cX2_seekFault : ByteArray := prog_4_method_7_code
def yX2_seekFault : MethodName := ⟨RX2, "seekFault", "()I"⟩
abbrev cX2_fits : ByteArray := prog_4_method_8_code
def yX2_fits : MethodName := ⟨RX2, "fits", "(I)Z"⟩
abbrev cX2_isFigureOf : ByteArray := prog_4_method_9_code
def yX2_isFigureOf : MethodName := ⟨RX2, "isFigureOf", "(II)Z"⟩
def RX3 : String := "HeardWords$Roads"
def TX3 : u_T := fun k => match k with
  | 0 => ("HeardWords$Roads", "hours", "[I", true)
  | _ => ("HeardWords$Roads", "quickest", "[I", true)
def tyX3 : Nat → FieldType := fun k => match k with
  | 0 => .array .int
  | _ => .array .int
abbrev wsX30 : List Cond := u_ws RX3 TX3 2
theorem nmX3 : ∀ a, a < 2 → ∀ b, b < 2 → a ≠ b → (TX3 a).2.1 ≠ (TX3 b).2.1 := by decide +kernel
theorem tyX3_ok : ∀ k, k < 2 → parseFieldDescriptor (TX3 k).2.2.1 = some (tyX3 k) := by decide +kernel
abbrev cX3_init : ByteArray := prog_5_method_1_code
def yX3_init : MethodName := ⟨RX3, "<init>", "()V"⟩
abbrev cX3_build : ByteArray := prog_5_method_2_code
def yX3_build : MethodName := ⟨RX3, "build", "(III)I"⟩
abbrev cX3_between : ByteArray := prog_5_method_3_code
def yX3_between : MethodName := ⟨RX3, "between", "(II)I"⟩
abbrev cX3_number : ByteArray := prog_5_method_4_code
def yX3_number : MethodName := ⟨RX3, "number", "()I"⟩
abbrev cX3_seekQuickest : ByteArray := prog_5_method_5_code
def yX3_seekQuickest : MethodName := ⟨RX3, "seekQuickest", "()V"⟩
abbrev cX3_shortenThrough : ByteArray := prog_5_method_6_code
def yX3_shortenThrough : MethodName := ⟨RX3, "shortenThrough", "(I)V"⟩
def RX4 : String := "HeardWords$Sheet"
def TX4 : u_T := fun k => match k with
  | 0 => ("HeardWords$Sheet", "items", "[I", true)
  | 1 => ("HeardWords$Sheet", "lost", "Z", false)
  | 2 => ("HeardWords$Sheet", "form", "I", false)
  | _ => ("HeardWords$Sheet", "size", "I", false)
def tyX4 : Nat → FieldType := fun k => match k with
  | 0 => .array .int
  | 1 => .boolean
  | 2 => .int
  | _ => .int
abbrev wsX40 : List Cond := u_ws RX4 TX4 4
theorem nmX4 : ∀ a, a < 4 → ∀ b, b < 4 → a ≠ b → (TX4 a).2.1 ≠ (TX4 b).2.1 := by decide +kernel
theorem tyX4_ok : ∀ k, k < 4 → parseFieldDescriptor (TX4 k).2.2.1 = some (tyX4 k) := by decide +kernel
abbrev cX4_init : ByteArray := prog_6_method_1_code
def yX4_init : MethodName := ⟨RX4, "<init>", "()V"⟩
abbrev cX4_renew : ByteArray := prog_6_method_2_code
def yX4_renew : MethodName := ⟨RX4, "renew", "(II)V"⟩
abbrev cX4_set : ByteArray := prog_6_method_3_code
def yX4_set : MethodName := ⟨RX4, "set", "(II)V"⟩
abbrev cX4_findingOf : ByteArray := prog_6_method_4_code
def yX4_findingOf : MethodName := ⟨RX4, "findingOf", "(II)I"⟩
abbrev cX4_holds : ByteArray := prog_6_method_5_code
def yX4_holds : MethodName := ⟨RX4, "holds", "(II)Z"⟩
def RX5 : String := "HeardWords$Words"
def TX5 : u_T := fun k => match k with
  | 0 => ("HeardWords$Words", "kind", "[I", true)
  | 1 => ("HeardWords$Words", "group", "[I", true)
  | 2 => ("HeardWords$Words", "groupSize", "[I", true)
  | 3 => ("HeardWords$Words", "town", "[I", true)
  | 4 => ("HeardWords$Words", "hour", "[I", true)
  | 5 => ("HeardWords$Words", "about", "[I", true)
  | 6 => ("HeardWords$Words", "foes", "[I", true)
  | 7 => ("HeardWords$Words", "undoes", "[I", true)
  | 8 => ("HeardWords$Words", "undoers", "[I", true)
  | 9 => ("HeardWords$Words", "chains", "[I", true)
  | 10 => ("HeardWords$Words", "size", "I", false)
  | 11 => ("HeardWords$Words", "kept", "I", false)
  | _ => ("HeardWords$Words", "possible", "I", false)
def tyX5 : Nat → FieldType := fun k => match k with
  | 0 => .array .int
  | 1 => .array .int
  | 2 => .array .int
  | 3 => .array .int
  | 4 => .array .int
  | 5 => .array .int
  | 6 => .array .int
  | 7 => .array .int
  | 8 => .array .int
  | 9 => .array .int
  | 10 => .int
  | 11 => .int
  | _ => .int
abbrev wsX50 : List Cond := u_ws RX5 TX5 13
theorem nmX5 : ∀ a, a < 13 → ∀ b, b < 13 → a ≠ b → (TX5 a).2.1 ≠ (TX5 b).2.1 := by decide +kernel
theorem tyX5_ok : ∀ k, k < 13 → parseFieldDescriptor (TX5 k).2.2.1 = some (tyX5 k) := by decide +kernel
abbrev cX5_init : ByteArray := prog_7_method_1_code
def yX5_init : MethodName := ⟨RX5, "<init>", "()V"⟩
abbrev cX5_has : ByteArray := prog_7_method_2_code
def yX5_has : MethodName := ⟨RX5, "has", "(I)Z"⟩
abbrev cX5_all : ByteArray := prog_7_method_3_code
def yX5_all : MethodName := ⟨RX5, "all", "()I"⟩
abbrev cX5_heardOnes : ByteArray := prog_7_method_4_code
def yX5_heardOnes : MethodName := ⟨RX5, "heardOnes", "()I"⟩
abbrev cX5_tell : ByteArray := prog_7_method_5_code
def yX5_tell : MethodName := ⟨RX5, "tell", "(IIIIILHeardWords$Roads;)I"⟩
abbrev cX5_weighAll : ByteArray := prog_7_method_6_code
def yX5_weighAll : MethodName := ⟨RX5, "weighAll", "(LHeardWords$Roads;)V"⟩
abbrev cX5_isTooFar : ByteArray := prog_7_method_7_code
def yX5_isTooFar : MethodName := ⟨RX5, "isTooFar", "(IILHeardWords$Roads;)Z"⟩
abbrev cX5_longestChain : ByteArray := prog_7_method_8_code
def yX5_longestChain : MethodName := ⟨RX5, "longestChain", "(I)I"⟩
def RX6 : String := "HeardWords"
def TX6 : u_T := fun k => match k with
  | 0 => ("HeardWords", "roads", "LHeardWords$Roads;", true)
  | 1 => ("HeardWords", "words", "LHeardWords$Words;", true)
  | 2 => ("HeardWords", "firstLaw", "LHeardWords$Law;", true)
  | 3 => ("HeardWords", "secondLaw", "LHeardWords$Law;", true)
  | 4 => ("HeardWords", "sheets", "[LHeardWords$Sheet;", true)
  | 5 => ("HeardWords", "hearing", "LHeardWords$Hearing;", true)
  | 6 => ("HeardWords", "atOnce", "LHeardWords$AtOnce;", true)
  | _ => ("HeardWords", "latestFinding", "I", false)
def tyX6 : Nat → FieldType := fun k => match k with
  | 0 => .object "HeardWords$Roads"
  | 1 => .object "HeardWords$Words"
  | 2 => .object "HeardWords$Law"
  | 3 => .object "HeardWords$Law"
  | 4 => .array (.object "HeardWords$Sheet")
  | 5 => .object "HeardWords$Hearing"
  | 6 => .object "HeardWords$AtOnce"
  | _ => .int
abbrev wsX60 : List Cond := u_ws RX6 TX6 8
theorem nmX6 : ∀ a, a < 8 → ∀ b, b < 8 → a ≠ b → (TX6 a).2.1 ≠ (TX6 b).2.1 := by decide +kernel
theorem tyX6_ok : ∀ k, k < 8 → parseFieldDescriptor (TX6 k).2.2.1 = some (tyX6 k) := by decide +kernel
abbrev cX6_init : ByteArray := prog_1_method_1_code
def yX6_init : MethodName := ⟨RX6, "<init>", "()V"⟩
abbrev cX6_road : ByteArray := prog_1_method_2_code
def yX6_road : MethodName := ⟨RX6, "road", "(III)I"⟩
abbrev cX6_away : ByteArray := prog_1_method_3_code
def yX6_away : MethodName := ⟨RX6, "away", "(II)I"⟩
abbrev cX6_word : ByteArray := prog_1_method_4_code
def yX6_word : MethodName := ⟨RX6, "word", "(IIIII)I"⟩
abbrev cX6_read : ByteArray := prog_1_method_5_code
def yX6_read : MethodName := ⟨RX6, "read", "(I)I"⟩
abbrev cX6_is : ByteArray := prog_1_method_6_code
def yX6_is : MethodName := ⟨RX6, "is", "(II)I"⟩
abbrev cX6_keep : ByteArray := prog_1_method_7_code
def yX6_keep : MethodName := ⟨RX6, "keep", "(I)I"⟩
abbrev cX6_mayBeTold : ByteArray := prog_1_method_8_code
def yX6_mayBeTold : MethodName := ⟨RX6, "mayBeTold", "(IIIII)Z"⟩
abbrev cX6_isTown : ByteArray := prog_1_method_9_code
def yX6_isTown : MethodName := ⟨RX6, "isTown", "(I)Z"⟩
abbrev cX6_type : ByteArray := prog_1_method_10_code
def yX6_type : MethodName := ⟨RX6, "type", "(II)I"⟩
abbrev cX6_wipe : ByteArray := prog_1_method_11_code
def yX6_wipe : MethodName := ⟨RX6, "wipe", "(I)I"⟩
abbrev cX6_fault : ByteArray := prog_1_method_12_code
def yX6_fault : MethodName := ⟨RX6, "fault", "(I)I"⟩
abbrev cX6_law : ByteArray := prog_1_method_13_code
def yX6_law : MethodName := ⟨RX6, "law", "(II)I"⟩
abbrev cX6_lawOf : ByteArray := prog_1_method_14_code
def yX6_lawOf : MethodName := ⟨RX6, "lawOf", "(I)LHeardWords$Law;"⟩
abbrev cX6_heard : ByteArray := prog_1_method_15_code
def yX6_heard : MethodName := ⟨RX6, "heard", "(II)I"⟩
abbrev cX6_ordered : ByteArray := prog_1_method_16_code
def yX6_ordered : MethodName := ⟨RX6, "ordered", "(III)I"⟩
abbrev cX6_head : ByteArray := prog_1_method_17_code
def yX6_head : MethodName := ⟨RX6, "head", "(II)I"⟩
abbrev cX6_orders : ByteArray := prog_1_method_18_code
def yX6_orders : MethodName := ⟨RX6, "orders", "(II)I"⟩
abbrev cX6_isOrder : ByteArray := prog_1_method_19_code
def yX6_isOrder : MethodName := ⟨RX6, "isOrder", "(LHeardWords$Sheet;)Z"⟩
abbrev cX6_factorial : ByteArray := prog_1_method_20_code
def yX6_factorial : MethodName := ⟨RX6, "factorial", "(I)I"⟩
abbrev cX6_strikes : ByteArray := prog_1_method_21_code
def yX6_strikes : MethodName := ⟨RX6, "strikes", "(III)I"⟩
abbrev cX6_sound : ByteArray := prog_1_method_22_code
def yX6_sound : MethodName := ⟨RX6, "sound", "(II)I"⟩
abbrev cX6_least : ByteArray := prog_1_method_23_code
def yX6_least : MethodName := ⟨RX6, "least", "(I)I"⟩
abbrev cX6_full : ByteArray := prog_1_method_24_code
def yX6_full : MethodName := ⟨RX6, "full", "(II)I"⟩
abbrev cX6_firm : ByteArray := prog_1_method_25_code
def yX6_firm : MethodName := ⟨RX6, "firm", "(II)I"⟩
abbrev cX6_ring : ByteArray := prog_1_method_26_code
def yX6_ring : MethodName := ⟨RX6, "ring", "()I"⟩
abbrev cX6_chain : ByteArray := prog_1_method_27_code
def yX6_chain : MethodName := ⟨RX6, "chain", "(I)I"⟩
abbrev cX6_hangs : ByteArray := prog_1_method_28_code
def yX6_hangs : MethodName := ⟨RX6, "hangs", "(I)I"⟩
abbrev cX6_most : ByteArray := prog_1_method_29_code
def yX6_most : MethodName := ⟨RX6, "most", "()I"⟩
abbrev cX6_brings : ByteArray := prog_1_method_30_code
def yX6_brings : MethodName := ⟨RX6, "brings", "(II)I"⟩
abbrev cX6_part : ByteArray := prog_1_method_31_code
def yX6_part : MethodName := ⟨RX6, "part", "()I"⟩
abbrev cX6_isFewer : ByteArray := prog_1_method_32_code
def yX6_isFewer : MethodName := ⟨RX6, "isFewer", "(II)Z"⟩
abbrev cX6_isHeardUnlike : ByteArray := prog_1_method_33_code
def yX6_isHeardUnlike : MethodName := ⟨RX6, "isHeardUnlike", "(I)Z"⟩
abbrev cX6_sheet : ByteArray := prog_1_method_34_code
def yX6_sheet : MethodName := ⟨RX6, "sheet", "(III)I"⟩
abbrev cX6_lose : ByteArray := prog_1_method_35_code
def yX6_lose : MethodName := ⟨RX6, "lose", "(I)I"⟩
abbrev cX6_put : ByteArray := prog_1_method_36_code
def yX6_put : MethodName := ⟨RX6, "put", "(IIII)I"⟩
abbrev cX6_get : ByteArray := prog_1_method_37_code
def yX6_get : MethodName := ⟨RX6, "get", "(III)I"⟩
abbrev cX6_copy : ByteArray := prog_1_method_38_code
def yX6_copy : MethodName := ⟨RX6, "copy", "(IIIII)I"⟩
abbrev cX6_write : ByteArray := prog_1_method_39_code
def yX6_write : MethodName := ⟨RX6, "write", "(I)I"⟩
abbrev cX6_count : ByteArray := prog_1_method_40_code
def yX6_count : MethodName := ⟨RX6, "count", "(I)I"⟩
abbrev cX6_digest : ByteArray := prog_1_method_41_code
def yX6_digest : MethodName := ⟨RX6, "digest", "()J"⟩
abbrev cX6_digestOfLaw : ByteArray := prog_1_method_42_code
def yX6_digestOfLaw : MethodName := ⟨RX6, "digestOfLaw", "(JI)J"⟩
abbrev cX6_sheetOf : ByteArray := prog_1_method_43_code
def yX6_sheetOf : MethodName := ⟨RX6, "sheetOf", "(I)LHeardWords$Sheet;"⟩
abbrev cX6_isForm : ByteArray := prog_1_method_44_code
def yX6_isForm : MethodName := ⟨RX6, "isForm", "(I)Z"⟩
abbrev cX6_find : ByteArray := prog_1_method_45_code
def yX6_find : MethodName := ⟨RX6, "find", "(I)I"⟩
def RX7 : String := "HeardWordsModel"
def TX7 : u_T := fun k => match k with
  | 0 => ("HeardWordsModel", "roads", "[I", true)
  | 1 => ("HeardWordsModel", "ways", "[I", true)
  | 2 => ("HeardWordsModel", "words", "I", false)
  | 3 => ("HeardWordsModel", "kinds", "[I", true)
  | 4 => ("HeardWordsModel", "groups", "[I", true)
  | 5 => ("HeardWordsModel", "towns", "[I", true)
  | 6 => ("HeardWordsModel", "hours", "[I", true)
  | 7 => ("HeardWordsModel", "abouts", "[I", true)
  | 8 => ("HeardWordsModel", "kept", "I", false)
  | 9 => ("HeardWordsModel", "possible", "I", false)
  | 10 => ("HeardWordsModel", "typed", "[I", true)
  | 11 => ("HeardWordsModel", "texts", "[I", true)
  | 12 => ("HeardWordsModel", "faults", "[I", true)
  | 13 => ("HeardWordsModel", "told", "[I", true)
  | 14 => ("HeardWordsModel", "order", "[I", true)
  | 15 => ("HeardWordsModel", "ordered", "I", false)
  | 16 => ("HeardWordsModel", "stands", "I", false)
  | 17 => ("HeardWordsModel", "undone", "I", false)
  | 18 => ("HeardWordsModel", "out", "I", false)
  | 19 => ("HeardWordsModel", "present", "I", false)
  | 20 => ("HeardWordsModel", "strikers", "[I", true)
  | 21 => ("HeardWordsModel", "sounds", "[Z", true)
  | 22 => ("HeardWordsModel", "chains", "[I", true)
  | 23 => ("HeardWordsModel", "isThere", "[Z", true)
  | 24 => ("HeardWordsModel", "forms", "[I", true)
  | 25 => ("HeardWordsModel", "sizes", "[I", true)
  | 26 => ("HeardWordsModel", "items", "[I", true)
  | 27 => ("HeardWordsModel", "moved", "[I", true)
  | _ => ("HeardWordsModel", "finding", "I", false)
def tyX7 : Nat → FieldType := fun k => match k with
  | 0 => .array .int
  | 1 => .array .int
  | 2 => .int
  | 3 => .array .int
  | 4 => .array .int
  | 5 => .array .int
  | 6 => .array .int
  | 7 => .array .int
  | 8 => .int
  | 9 => .int
  | 10 => .array .int
  | 11 => .array .int
  | 12 => .array .int
  | 13 => .array .int
  | 14 => .array .int
  | 15 => .int
  | 16 => .int
  | 17 => .int
  | 18 => .int
  | 19 => .int
  | 20 => .array .int
  | 21 => .array .boolean
  | 22 => .array .int
  | 23 => .array .boolean
  | 24 => .array .int
  | 25 => .array .int
  | 26 => .array .int
  | 27 => .array .int
  | _ => .int
abbrev wsX70 : List Cond := u_ws RX7 TX7 29
theorem nmX7 : ∀ a, a < 29 → ∀ b, b < 29 → a ≠ b → (TX7 a).2.1 ≠ (TX7 b).2.1 := by decide +kernel
theorem tyX7_ok : ∀ k, k < 29 → parseFieldDescriptor (TX7 k).2.2.1 = some (tyX7 k) := by decide +kernel
abbrev cX7_init : ByteArray := prog_9_method_1_code
def yX7_init : MethodName := ⟨RX7, "<init>", "()V"⟩
abbrev cX7_in : ByteArray := prog_9_method_3_code
def yX7_in : MethodName := ⟨RX7, "in", "(III)Z"⟩
abbrev cX7_has : ByteArray := prog_9_method_4_code
def yX7_has : MethodName := ⟨RX7, "has", "(II)Z"⟩
abbrev cX7_ones : ByteArray := prog_9_method_5_code
def yX7_ones : MethodName := ⟨RX7, "ones", "(I)I"⟩
abbrev cX7_apart : ByteArray := prog_9_method_6_code
def yX7_apart : MethodName := ⟨RX7, "apart", "(II)I"⟩
abbrev cX7_isTown : ByteArray := prog_9_method_7_code
def yX7_isTown : MethodName := ⟨RX7, "isTown", "(I)Z"⟩
abbrev cX7_road : ByteArray := prog_9_method_8_code
def yX7_road : MethodName := ⟨RX7, "road", "(III)I"⟩
abbrev cX7_laysWays : ByteArray := prog_9_method_9_code
def yX7_laysWays : MethodName := ⟨RX7, "laysWays", "()V"⟩
abbrev cX7_away : ByteArray := prog_9_method_10_code
def yX7_away : MethodName := ⟨RX7, "away", "(II)I"⟩
abbrev cX7_adds : ByteArray := prog_9_method_11_code
def yX7_adds : MethodName := ⟨RX7, "adds", "(IIIII)I"⟩
abbrev cX7_word : ByteArray := prog_9_method_12_code
def yX7_word : MethodName := ⟨RX7, "word", "(IIIII)I"⟩
abbrev cX7_read : ByteArray := prog_9_method_13_code
def yX7_read : MethodName := ⟨RX7, "read", "(I)I"⟩
abbrev cX7_isWord : ByteArray := prog_9_method_14_code
def yX7_isWord : MethodName := ⟨RX7, "isWord", "(I)Z"⟩
abbrev cX7_all : ByteArray := prog_9_method_15_code
def yX7_all : MethodName := ⟨RX7, "all", "()I"⟩
abbrev cX7_heardOnes : ByteArray := prog_9_method_16_code
def yX7_heardOnes : MethodName := ⟨RX7, "heardOnes", "()I"⟩
abbrev cX7_laysPossible : ByteArray := prog_9_method_17_code
def yX7_laysPossible : MethodName := ⟨RX7, "laysPossible", "()V"⟩
abbrev cX7_isNow : ByteArray := prog_9_method_18_code
def yX7_isNow : MethodName := ⟨RX7, "isNow", "(II)I"⟩
abbrev cX7_is : ByteArray := prog_9_method_19_code
def yX7_is : MethodName := ⟨RX7, "is", "(II)I"⟩
abbrev cX7_keep : ByteArray := prog_9_method_20_code
def yX7_keep : MethodName := ⟨RX7, "keep", "(I)I"⟩
abbrev cX7_isLaw : ByteArray := prog_9_method_21_code
def yX7_isLaw : MethodName := ⟨RX7, "isLaw", "(I)Z"⟩
abbrev cX7_type : ByteArray := prog_9_method_22_code
def yX7_type : MethodName := ⟨RX7, "type", "(II)I"⟩
abbrev cX7_wipe : ByteArray := prog_9_method_23_code
def yX7_wipe : MethodName := ⟨RX7, "wipe", "(I)I"⟩
abbrev cX7_byteAt : ByteArray := prog_9_method_24_code
def yX7_byteAt : MethodName := ⟨RX7, "byteAt", "(II)I"⟩
abbrev cX7_plain : ByteArray := prog_9_method_25_code
def yX7_plain : MethodName := ⟨RX7, "plain", "(I)V"⟩
abbrev cX7_faultOf : ByteArray := prog_9_method_26_code
def yX7_faultOf : MethodName := ⟨RX7, "faultOf", "(I)I"⟩
abbrev cX7_reads : ByteArray := prog_9_method_27_code
def yX7_reads : MethodName := ⟨RX7, "reads", "(I)V"⟩
abbrev cX7_fault : ByteArray := prog_9_method_28_code
def yX7_fault : MethodName := ⟨RX7, "fault", "(I)I"⟩
abbrev cX7_law : ByteArray := prog_9_method_29_code
def yX7_law : MethodName := ⟨RX7, "law", "(II)I"⟩
abbrev cX7_undoes : ByteArray := prog_9_method_30_code
def yX7_undoes : MethodName := ⟨RX7, "undoes", "(IZ)V"⟩
abbrev cX7_quarrel : ByteArray := prog_9_method_31_code
def yX7_quarrel : MethodName := ⟨RX7, "quarrel", "(II)Z"⟩
abbrev cX7_hears : ByteArray := prog_9_method_32_code
def yX7_hears : MethodName := ⟨RX7, "hears", "(I)V"⟩
abbrev cX7_lines : ByteArray := prog_9_method_33_code
def yX7_lines : MethodName := ⟨RX7, "lines", "(I)V"⟩
abbrev cX7_tells : ByteArray := prog_9_method_34_code
def yX7_tells : MethodName := ⟨RX7, "tells", "(I)I"⟩
abbrev cX7_hearsAll : ByteArray := prog_9_method_35_code
def yX7_hearsAll : MethodName := ⟨RX7, "hearsAll", "(I)V"⟩
abbrev cX7_heardNow : ByteArray := prog_9_method_36_code
def yX7_heardNow : MethodName := ⟨RX7, "heardNow", "(II)I"⟩
abbrev cX7_heard : ByteArray := prog_9_method_37_code
def yX7_heard : MethodName := ⟨RX7, "heard", "(II)I"⟩
abbrev cX7_ordered : ByteArray := prog_9_method_38_code
def yX7_ordered : MethodName := ⟨RX7, "ordered", "(III)I"⟩
abbrev cX7_headNow : ByteArray := prog_9_method_39_code
def yX7_headNow : MethodName := ⟨RX7, "headNow", "(I)I"⟩
abbrev cX7_head : ByteArray := prog_9_method_40_code
def yX7_head : MethodName := ⟨RX7, "head", "(II)I"⟩
abbrev cX7_turns : ByteArray := prog_9_method_41_code
def yX7_turns : MethodName := ⟨RX7, "turns", "()Z"⟩
abbrev cX7_orders : ByteArray := prog_9_method_42_code
def yX7_orders : MethodName := ⟨RX7, "orders", "(II)I"⟩
abbrev cX7_hits : ByteArray := prog_9_method_43_code
def yX7_hits : MethodName := ⟨RX7, "hits", "(III)Z"⟩
abbrev cX7_meetsAll : ByteArray := prog_9_method_44_code
def yX7_meetsAll : MethodName := ⟨RX7, "meetsAll", "(II)V"⟩
abbrev cX7_strikes : ByteArray := prog_9_method_45_code
def yX7_strikes : MethodName := ⟨RX7, "strikes", "(III)I"⟩
abbrev cX7_answers : ByteArray := prog_9_method_46_code
def yX7_answers : MethodName := ⟨RX7, "answers", "(II)Z"⟩
abbrev cX7_isSound : ByteArray := prog_9_method_47_code
def yX7_isSound : MethodName := ⟨RX7, "isSound", "(I)Z"⟩
abbrev cX7_sound : ByteArray := prog_9_method_48_code
def yX7_sound : MethodName := ⟨RX7, "sound", "(II)I"⟩
abbrev cX7_leastNow : ByteArray := prog_9_method_49_code
def yX7_leastNow : MethodName := ⟨RX7, "leastNow", "()I"⟩
abbrev cX7_leastOf : ByteArray := prog_9_method_50_code
def yX7_leastOf : MethodName := ⟨RX7, "leastOf", "(I)I"⟩
abbrev cX7_least : ByteArray := prog_9_method_51_code
def yX7_least : MethodName := ⟨RX7, "least", "(I)I"⟩
abbrev cX7_laysSounds : ByteArray := prog_9_method_52_code
def yX7_laysSounds : MethodName := ⟨RX7, "laysSounds", "()V"⟩
abbrev cX7_isFull : ByteArray := prog_9_method_53_code
def yX7_isFull : MethodName := ⟨RX7, "isFull", "(I)Z"⟩
abbrev cX7_fullNow : ByteArray := prog_9_method_54_code
def yX7_fullNow : MethodName := ⟨RX7, "fullNow", "(II)I"⟩
abbrev cX7_full : ByteArray := prog_9_method_55_code
def yX7_full : MethodName := ⟨RX7, "full", "(II)I"⟩
abbrev cX7_firm : ByteArray := prog_9_method_56_code
def yX7_firm : MethodName := ⟨RX7, "firm", "(II)I"⟩
abbrev cX7_ringNow : ByteArray := prog_9_method_57_code
def yX7_ringNow : MethodName := ⟨RX7, "ringNow", "()I"⟩
abbrev cX7_ring : ByteArray := prog_9_method_58_code
def yX7_ring : MethodName := ⟨RX7, "ring", "()I"⟩
abbrev cX7_chain : ByteArray := prog_9_method_59_code
def yX7_chain : MethodName := ⟨RX7, "chain", "(I)I"⟩
abbrev cX7_hangsNow : ByteArray := prog_9_method_60_code
def yX7_hangsNow : MethodName := ⟨RX7, "hangsNow", "(I)I"⟩
abbrev cX7_hangs : ByteArray := prog_9_method_61_code
def yX7_hangs : MethodName := ⟨RX7, "hangs", "(I)I"⟩
abbrev cX7_mostNow : ByteArray := prog_9_method_62_code
def yX7_mostNow : MethodName := ⟨RX7, "mostNow", "()I"⟩
abbrev cX7_most : ByteArray := prog_9_method_63_code
def yX7_most : MethodName := ⟨RX7, "most", "()I"⟩
abbrev cX7_brings : ByteArray := prog_9_method_64_code
def yX7_brings : MethodName := ⟨RX7, "brings", "(II)I"⟩
abbrev cX7_part : ByteArray := prog_9_method_65_code
def yX7_part : MethodName := ⟨RX7, "part", "()I"⟩
abbrev cX7_meets : ByteArray := prog_9_method_66_code
def yX7_meets : MethodName := ⟨RX7, "meets", "(I)I"⟩
abbrev cX7_isSheet : ByteArray := prog_9_method_67_code
def yX7_isSheet : MethodName := ⟨RX7, "isSheet", "(I)Z"⟩
abbrev cX7_sheet : ByteArray := prog_9_method_68_code
def yX7_sheet : MethodName := ⟨RX7, "sheet", "(III)I"⟩
abbrev cX7_lose : ByteArray := prog_9_method_69_code
def yX7_lose : MethodName := ⟨RX7, "lose", "(I)I"⟩
abbrev cX7_lacks : ByteArray := prog_9_method_70_code
def yX7_lacks : MethodName := ⟨RX7, "lacks", "(III)I"⟩
abbrev cX7_lay : ByteArray := prog_9_method_71_code
def yX7_lay : MethodName := ⟨RX7, "lay", "(III)V"⟩
abbrev cX7_put : ByteArray := prog_9_method_72_code
def yX7_put : MethodName := ⟨RX7, "put", "(IIII)I"⟩
abbrev cX7_get : ByteArray := prog_9_method_73_code
def yX7_get : MethodName := ⟨RX7, "get", "(III)I"⟩
abbrev cX7_copy : ByteArray := prog_9_method_74_code
def yX7_copy : MethodName := ⟨RX7, "copy", "(IIIII)I"⟩
abbrev cX7_write : ByteArray := prog_9_method_75_code
def yX7_write : MethodName := ⟨RX7, "write", "(I)I"⟩
abbrev cX7_roadMany : ByteArray := prog_9_method_76_code
def yX7_roadMany : MethodName := ⟨RX7, "roadMany", "()I"⟩
abbrev cX7_count : ByteArray := prog_9_method_77_code
def yX7_count : MethodName := ⟨RX7, "count", "(I)I"⟩
abbrev cX7_digest : ByteArray := prog_9_method_78_code
def yX7_digest : MethodName := ⟨RX7, "digest", "()J"⟩
def RJ11 : String := "java/lang/Character"
def TJ11 : u_T := fun k => match k with
  | _ => ("", "", "", false)
def tyJ11 : Nat → FieldType := fun k => match k with
  | _ => .int
abbrev cJ11_isValidCodePoint_9a6ad : ByteArray := prog_10_method_11_code
def yJ11_isValidCodePoint_9a6ad : MethodName := ⟨RJ11, "isValidCodePoint", "(I)Z"⟩
abbrev cJ11_highSurrogate_5068e : ByteArray := prog_10_method_28_code
def yJ11_highSurrogate_5068e : MethodName := ⟨RJ11, "highSurrogate", "(I)C"⟩
abbrev cJ11_lowSurrogate_5068e : ByteArray := prog_10_method_29_code
def yJ11_lowSurrogate_5068e : MethodName := ⟨RJ11, "lowSurrogate", "(I)C"⟩
def RJ6 : String := "java/lang/Integer"
def TJ6 : u_T := fun k => match k with
  | _ => ("", "", "", false)
def tyJ6 : Nat → FieldType := fun k => match k with
  | _ => .int
abbrev cJ6_bitCount_0f7a4 : ByteArray := prog_11_method_49_code
def yJ6_bitCount_0f7a4 : MethodName := ⟨RJ6, "bitCount", "(I)I"⟩
def RJ9 : String := "java/lang/Math"
def TJ9 : u_T := fun k => match k with
  | _ => ("", "", "", false)
def tyJ9 : Nat → FieldType := fun k => match k with
  | _ => .int
abbrev cJ9_abs_0f7a4 : ByteArray := prog_12_method_59_code
def yJ9_abs_0f7a4 : MethodName := ⟨RJ9, "abs", "(I)I"⟩
abbrev cJ9_max_7cf53 : ByteArray := prog_12_method_65_code
def yJ9_max_7cf53 : MethodName := ⟨RJ9, "max", "(II)I"⟩
abbrev cJ9_min_7cf53 : ByteArray := prog_12_method_69_code
def yJ9_min_7cf53 : MethodName := ⟨RJ9, "min", "(II)I"⟩
def RJ0 : String := "java/lang/String"
def TJ0 : u_T := fun k => match k with
  | _ => ("", "", "", false)
def tyJ0 : Nat → FieldType := fun k => match k with
  | _ => .int
abbrev cJ0_length_8abf5 : ByteArray := prog_13_method_54_code
def yJ0_length_8abf5 : MethodName := ⟨RJ0, "length", "()I"⟩
abbrev cJ0_charAt_5068e : ByteArray := prog_13_method_56_code
def yJ0_charAt_5068e : MethodName := ⟨RJ0, "charAt", "(I)C"⟩
abbrev cJ0_indexOf_0f7a4 : ByteArray := prog_13_method_79_code
def yJ0_indexOf_0f7a4 : MethodName := ⟨RJ0, "indexOf", "(I)I"⟩
abbrev cJ0_indexOf_7cf53 : ByteArray := prog_13_method_80_code
def yJ0_indexOf_7cf53 : MethodName := ⟨RJ0, "indexOf", "(II)I"⟩
abbrev cJ0_coder_7d493 : ByteArray := prog_13_method_152_code
def yJ0_coder_7d493 : MethodName := ⟨RJ0, "coder", "()B"⟩
abbrev cJ0_isLatin1_aae02 : ByteArray := prog_13_method_154_code
def yJ0_isLatin1_aae02 : MethodName := ⟨RJ0, "isLatin1", "()Z"⟩
abbrev cJ0_checkIndex_df160 : ByteArray := prog_13_method_155_code
def yJ0_checkIndex_df160 : MethodName := ⟨RJ0, "checkIndex", "(II)V"⟩
abbrev cJ0_checkBoundsBeginEnd_23922 : ByteArray := prog_13_method_158_code
def yJ0_checkBoundsBeginEnd_23922 : MethodName := ⟨RJ0, "checkBoundsBeginEnd", "(III)V"⟩
def RJ1 : String := "java/lang/StringLatin1"
def TJ1 : u_T := fun k => match k with
  | _ => ("", "", "", false)
def tyJ1 : Nat → FieldType := fun k => match k with
  | _ => .int
abbrev cJ1_charAt_3b067 : ByteArray := prog_14_method_2_code
def yJ1_charAt_3b067 : MethodName := ⟨RJ1, "charAt", "([BI)C"⟩
abbrev cJ1_canEncode_9a6ad : ByteArray := prog_14_method_4_code
def yJ1_canEncode_9a6ad : MethodName := ⟨RJ1, "canEncode", "(I)Z"⟩
abbrev cJ1_indexOf_4cfef : ByteArray := prog_14_method_22_code
def yJ1_indexOf_4cfef : MethodName := ⟨RJ1, "indexOf", "([BIII)I"⟩
abbrev cJ1_indexOfChar_4cfef : ByteArray := prog_14_method_23_code
def yJ1_indexOfChar_4cfef : MethodName := ⟨RJ1, "indexOfChar", "([BIII)I"⟩
def RJ2 : String := "java/lang/StringUTF16"
def TJ2 : u_T := fun k => match k with
  | _ => ("", "", "", false)
def tyJ2 : Nat → FieldType := fun k => match k with
  | _ => .int
abbrev cJ2_getChar_3b067 : ByteArray := prog_15_method_5_code
def yJ2_getChar_3b067 : MethodName := ⟨RJ2, "getChar", "([BI)C"⟩
abbrev cJ2_length_9d52b : ByteArray := prog_15_method_6_code
def yJ2_length_9d52b : MethodName := ⟨RJ2, "length", "([B)I"⟩
abbrev cJ2_indexOf_4cfef : ByteArray := prog_15_method_40_code
def yJ2_indexOf_4cfef : MethodName := ⟨RJ2, "indexOf", "([BIII)I"⟩
abbrev cJ2_indexOfChar_4cfef : ByteArray := prog_15_method_47_code
def yJ2_indexOfChar_4cfef : MethodName := ⟨RJ2, "indexOfChar", "([BIII)I"⟩
abbrev cJ2_indexOfCharUnsafe_4cfef : ByteArray := prog_15_method_48_code
def yJ2_indexOfCharUnsafe_4cfef : MethodName := ⟨RJ2, "indexOfCharUnsafe", "([BIII)I"⟩
abbrev cJ2_indexOfSupplementary_4cfef : ByteArray := prog_15_method_49_code
def yJ2_indexOfSupplementary_4cfef : MethodName := ⟨RJ2, "indexOfSupplementary", "([BIII)I"⟩
abbrev cJ2_charAt_3b067 : ByteArray := prog_15_method_83_code
def yJ2_charAt_3b067 : MethodName := ⟨RJ2, "charAt", "([BI)C"⟩
abbrev cJ2_checkIndex_2214a : ByteArray := prog_15_method_91_code
def yJ2_checkIndex_2214a : MethodName := ⟨RJ2, "checkIndex", "(I[B)V"⟩
abbrev cJ2_checkBoundsBeginEnd_d044e : ByteArray := prog_15_method_93_code
def yJ2_checkBoundsBeginEnd_d044e : MethodName := ⟨RJ2, "checkBoundsBeginEnd", "(II[B)V"⟩
def RJ10 : String := "java/lang/System"
def TJ10 : u_T := fun k => match k with
  | _ => ("", "", "", false)
def tyJ10 : Nat → FieldType := fun k => match k with
  | _ => .int
def RJ7 : String := "java/util/Arrays"
def TJ7 : u_T := fun k => match k with
  | _ => ("", "", "", false)
def tyJ7 : Nat → FieldType := fun k => match k with
  | _ => .int
abbrev cJ7_fill_53178 : ByteArray := prog_17_method_103_code
def yJ7_fill_53178 : MethodName := ⟨RJ7, "fill", "([II)V"⟩
def RJ3 : String := "jdk/internal/util/Preconditions"
def TJ3 : u_T := fun k => match k with
  | _ => ("", "", "", false)
def tyJ3 : Nat → FieldType := fun k => match k with
  | _ => .int
abbrev cJ3_checkIndex_8e157 : ByteArray := prog_18_method_11_code
def yJ3_checkIndex_8e157 : MethodName := ⟨RJ3, "checkIndex", "(IILjava/util/function/BiFunction;)I"⟩
abbrev cJ3_checkFromToIndex_8c36e : ByteArray := prog_18_method_12_code
def yJ3_checkFromToIndex_8c36e : MethodName := ⟨RJ3, "checkFromToIndex", "(IIILjava/util/function/BiFunction;)I"⟩
def RL : String := "HeardWordsLaw"
abbrev cL_law : ByteArray := code
def yL_law : MethodName := ⟨RL, "law", "([I)Z"⟩
abbrev vwCl : List vw_C := [(RX0, TX0, 6), (RX1, TX1, 4), (RX2, TX2, 7), (RX3, TX3, 2), (RX4, TX4, 4), (RX5, TX5, 13), (RX6, TX6, 8), (RX7, TX7, 29)]
end
section
theorem dX0_init_0 : decode cX0_init 0 = .ok (.aload_n 0, 1) := by decide +kernel
theorem dX0_init_1 : decode cX0_init 1 = .ok (.invokespecial 3, 3) := by decide +kernel
theorem dX0_init_4 : decode cX0_init 4 = .ok (.aload_n 0, 1) := by decide +kernel
theorem dX0_init_5 : decode cX0_init 5 = .ok (.bipush 10, 2) := by decide +kernel
theorem dX0_init_7 : decode cX0_init 7 = .ok (.newarray .int, 2) := by decide +kernel
theorem dX0_init_9 : decode cX0_init 9 = .ok (.putfield 9, 3) := by decide +kernel
theorem dX0_init_12 : decode cX0_init 12 = .ok (.aload_n 0, 1) := by decide +kernel
theorem dX0_init_13 : decode cX0_init 13 = .ok (.bipush 10, 2) := by decide +kernel
theorem dX0_init_15 : decode cX0_init 15 = .ok (.newarray .int, 2) := by decide +kernel
theorem dX0_init_17 : decode cX0_init 17 = .ok (.putfield 15, 3) := by decide +kernel
theorem dX0_init_20 : decode cX0_init 20 = .ok (.aload_n 0, 1) := by decide +kernel
theorem dX0_init_21 : decode cX0_init 21 = .ok (.bipush 10, 2) := by decide +kernel
theorem dX0_init_23 : decode cX0_init 23 = .ok (.newarray .int, 2) := by decide +kernel
theorem dX0_init_25 : decode cX0_init 25 = .ok (.putfield 18, 3) := by decide +kernel
theorem dX0_init_28 : decode cX0_init 28 = .ok (.aload_n 0, 1) := by decide +kernel
theorem dX0_init_29 : decode cX0_init 29 = .ok (.sipush 1024, 3) := by decide +kernel
theorem dX0_init_32 : decode cX0_init 32 = .ok (.newarray .byte, 2) := by decide +kernel
theorem dX0_init_34 : decode cX0_init 34 = .ok (.putfield 21, 3) := by decide +kernel
theorem dX0_init_37 : decode cX0_init 37 = .ok (.aload_n 0, 1) := by decide +kernel
theorem dX0_init_38 : decode cX0_init 38 = .ok (.iconst 0, 1) := by decide +kernel
theorem dX0_init_39 : decode cX0_init 39 = .ok (.putfield 25, 3) := by decide +kernel
theorem dX0_init_42 : decode cX0_init 42 = .ok (.aload_n 0, 1) := by decide +kernel
theorem dX0_init_43 : decode cX0_init 43 = .ok (.aload_n 1, 1) := by decide +kernel
theorem dX0_init_44 : decode cX0_init 44 = .ok (.putfield 29, 3) := by decide +kernel
theorem dX0_init_47 : decode cX0_init 47 = .ok (.return_, 1) := by decide +kernel
theorem dX0_takeUp_0 : decode cX0_takeUp 0 = .ok (.aload_n 0, 1) := by decide +kernel
theorem dX0_takeUp_1 : decode cX0_takeUp 1 = .ok (.iconst 0, 1) := by decide +kernel
theorem dX0_takeUp_2 : decode cX0_takeUp 2 = .ok (.putfield 25, 3) := by decide +kernel
theorem dX0_takeUp_5 : decode cX0_takeUp 5 = .ok (.aload_n 0, 1) := by decide +kernel
theorem dX0_takeUp_6 : decode cX0_takeUp 6 = .ok (.getfield 9, 3) := by decide +kernel
theorem dX0_takeUp_9 : decode cX0_takeUp 9 = .ok (.iconst 0, 1) := by decide +kernel
theorem dX0_takeUp_10 : decode cX0_takeUp 10 = .ok (.invokestatic 33, 3) := by decide +kernel
theorem dX0_takeUp_13 : decode cX0_takeUp 13 = .ok (.aload_n 0, 1) := by decide +kernel
theorem dX0_takeUp_14 : decode cX0_takeUp 14 = .ok (.getfield 15, 3) := by decide +kernel
theorem dX0_takeUp_17 : decode cX0_takeUp 17 = .ok (.iconst 0, 1) := by decide +kernel
theorem dX0_takeUp_18 : decode cX0_takeUp 18 = .ok (.invokestatic 33, 3) := by decide +kernel
theorem dX0_takeUp_21 : decode cX0_takeUp 21 = .ok (.iconst 0, 1) := by decide +kernel
theorem dX0_takeUp_22 : decode cX0_takeUp 22 = .ok (.istore_n 3, 1) := by decide +kernel
theorem dX0_takeUp_23 : decode cX0_takeUp 23 = .ok (.iload_n 3, 1) := by decide +kernel
theorem dX0_takeUp_24 : decode cX0_takeUp 24 = .ok (.aload_n 0, 1) := by decide +kernel
theorem dX0_takeUp_25 : decode cX0_takeUp 25 = .ok (.getfield 29, 3) := by decide +kernel
theorem dX0_takeUp_28 : decode cX0_takeUp 28 = .ok (.getfield 39, 3) := by decide +kernel
theorem dX0_takeUp_31 : decode cX0_takeUp 31 = .ok (.if_icmp .ge 51, 3) := by decide +kernel
theorem dX0_takeUp_34 : decode cX0_takeUp 34 = .ok (.iload_n 2, 1) := by decide +kernel
theorem dX0_takeUp_35 : decode cX0_takeUp 35 = .ok (.iload_n 3, 1) := by decide +kernel
theorem dX0_takeUp_36 : decode cX0_takeUp 36 = .ok (.ishr, 1) := by decide +kernel
theorem dX0_takeUp_37 : decode cX0_takeUp 37 = .ok (.iconst 1, 1) := by decide +kernel
theorem dX0_takeUp_38 : decode cX0_takeUp 38 = .ok (.iand, 1) := by decide +kernel
theorem dX0_takeUp_39 : decode cX0_takeUp 39 = .ok (.ifCond .eq 37, 3) := by decide +kernel
theorem dX0_takeUp_42 : decode cX0_takeUp 42 = .ok (.aload_n 0, 1) := by decide +kernel
theorem dX0_takeUp_43 : decode cX0_takeUp 43 = .ok (.getfield 29, 3) := by decide +kernel
theorem dX0_takeUp_46 : decode cX0_takeUp 46 = .ok (.getfield 44, 3) := by decide +kernel
theorem dX0_takeUp_49 : decode cX0_takeUp 49 = .ok (.iload_n 3, 1) := by decide +kernel
theorem dX0_takeUp_50 : decode cX0_takeUp 50 = .ok (.iaload, 1) := by decide +kernel
theorem dX0_takeUp_51 : decode cX0_takeUp 51 = .ok (.aload_n 1, 1) := by decide +kernel
theorem dX0_takeUp_52 : decode cX0_takeUp 52 = .ok (.getfield 47, 3) := by decide +kernel
theorem dX0_takeUp_55 : decode cX0_takeUp 55 = .ok (.if_icmp .lt 21, 3) := by decide +kernel
theorem dX0_takeUp_58 : decode cX0_takeUp 58 = .ok (.aload_n 0, 1) := by decide +kernel
theorem dX0_takeUp_59 : decode cX0_takeUp 59 = .ok (.dup, 1) := by decide +kernel
theorem dX0_takeUp_60 : decode cX0_takeUp 60 = .ok (.getfield 25, 3) := by decide +kernel
theorem dX0_takeUp_63 : decode cX0_takeUp 63 = .ok (.iconst 1, 1) := by decide +kernel
theorem dX0_takeUp_64 : decode cX0_takeUp 64 = .ok (.iload_n 3, 1) := by decide +kernel
theorem dX0_takeUp_65 : decode cX0_takeUp 65 = .ok (.ishl, 1) := by decide +kernel
theorem dX0_takeUp_66 : decode cX0_takeUp 66 = .ok (.ior, 1) := by decide +kernel
theorem dX0_takeUp_67 : decode cX0_takeUp 67 = .ok (.putfield 25, 3) := by decide +kernel
theorem dX0_takeUp_70 : decode cX0_takeUp 70 = .ok (.aload_n 0, 1) := by decide +kernel
theorem dX0_takeUp_71 : decode cX0_takeUp 71 = .ok (.aload_n 1, 1) := by decide +kernel
theorem dX0_takeUp_72 : decode cX0_takeUp 72 = .ok (.iload_n 3, 1) := by decide +kernel
theorem dX0_takeUp_73 : decode cX0_takeUp 73 = .ok (.invokevirtual 52, 3) := by decide +kernel
theorem dX0_takeUp_76 : decode cX0_takeUp 76 = .ok (.iinc 3 1, 3) := by decide +kernel
theorem dX0_takeUp_79 : decode cX0_takeUp 79 = .ok (.goto (-56), 3) := by decide +kernel
theorem dX0_takeUp_82 : decode cX0_takeUp 82 = .ok (.return_, 1) := by decide +kernel
theorem dX0_meetEarlier_0 : decode cX0_meetEarlier 0 = .ok (.aload_n 0, 1) := by decide +kernel
theorem dX0_meetEarlier_1 : decode cX0_meetEarlier 1 = .ok (.getfield 29, 3) := by decide +kernel
theorem dX0_meetEarlier_4 : decode cX0_meetEarlier 4 = .ok (.getfield 56, 3) := by decide +kernel
theorem dX0_meetEarlier_7 : decode cX0_meetEarlier 7 = .ok (.iload_n 2, 1) := by decide +kernel
theorem dX0_meetEarlier_8 : decode cX0_meetEarlier 8 = .ok (.iaload, 1) := by decide +kernel
theorem dX0_meetEarlier_9 : decode cX0_meetEarlier 9 = .ok (.istore_n 3, 1) := by decide +kernel
theorem dX0_meetEarlier_10 : decode cX0_meetEarlier 10 = .ok (.aload_n 0, 1) := by decide +kernel
theorem dX0_meetEarlier_11 : decode cX0_meetEarlier 11 = .ok (.getfield 29, 3) := by decide +kernel
theorem dX0_meetEarlier_14 : decode cX0_meetEarlier 14 = .ok (.getfield 59, 3) := by decide +kernel
theorem dX0_meetEarlier_17 : decode cX0_meetEarlier 17 = .ok (.iload_n 2, 1) := by decide +kernel
theorem dX0_meetEarlier_18 : decode cX0_meetEarlier 18 = .ok (.iaload, 1) := by decide +kernel
theorem dX0_meetEarlier_19 : decode cX0_meetEarlier 19 = .ok (.ifCond .eq 14, 3) := by decide +kernel
theorem dX0_meetEarlier_22 : decode cX0_meetEarlier 22 = .ok (.aload_n 0, 1) := by decide +kernel
theorem dX0_meetEarlier_23 : decode cX0_meetEarlier 23 = .ok (.getfield 25, 3) := by decide +kernel
theorem dX0_meetEarlier_26 : decode cX0_meetEarlier 26 = .ok (.iload_n 3, 1) := by decide +kernel
theorem dX0_meetEarlier_27 : decode cX0_meetEarlier 27 = .ok (.ishr, 1) := by decide +kernel
theorem dX0_meetEarlier_28 : decode cX0_meetEarlier 28 = .ok (.iconst 1, 1) := by decide +kernel
theorem dX0_meetEarlier_29 : decode cX0_meetEarlier 29 = .ok (.iand, 1) := by decide +kernel
theorem dX0_meetEarlier_30 : decode cX0_meetEarlier 30 = .ok (.ifCond .ne 4, 3) := by decide +kernel
theorem dX0_meetEarlier_33 : decode cX0_meetEarlier 33 = .ok (.return_, 1) := by decide +kernel
theorem dX0_meetEarlier_34 : decode cX0_meetEarlier 34 = .ok (.aload_n 0, 1) := by decide +kernel
theorem dX0_meetEarlier_35 : decode cX0_meetEarlier 35 = .ok (.getfield 29, 3) := by decide +kernel
theorem dX0_meetEarlier_38 : decode cX0_meetEarlier 38 = .ok (.getfield 59, 3) := by decide +kernel
theorem dX0_meetEarlier_41 : decode cX0_meetEarlier 41 = .ok (.iload_n 2, 1) := by decide +kernel
theorem dX0_meetEarlier_42 : decode cX0_meetEarlier 42 = .ok (.iaload, 1) := by decide +kernel
theorem dX0_meetEarlier_43 : decode cX0_meetEarlier 43 = .ok (.iconst 1, 1) := by decide +kernel
theorem dX0_meetEarlier_44 : decode cX0_meetEarlier 44 = .ok (.if_icmp .ne 16, 3) := by decide +kernel
theorem dX0_meetEarlier_47 : decode cX0_meetEarlier 47 = .ok (.aload_n 0, 1) := by decide +kernel
theorem dX0_meetEarlier_48 : decode cX0_meetEarlier 48 = .ok (.aload_n 1, 1) := by decide +kernel
theorem dX0_meetEarlier_49 : decode cX0_meetEarlier 49 = .ok (.getfield 62, 3) := by decide +kernel
theorem dX0_meetEarlier_52 : decode cX0_meetEarlier 52 = .ok (.iload_n 2, 1) := by decide +kernel
theorem dX0_meetEarlier_53 : decode cX0_meetEarlier 53 = .ok (.iload_n 3, 1) := by decide +kernel
theorem dX0_meetEarlier_54 : decode cX0_meetEarlier 54 = .ok (.invokevirtual 65, 3) := by decide +kernel
theorem dX0_meetEarlier_57 : decode cX0_meetEarlier 57 = .ok (.goto 21, 3) := by decide +kernel
theorem dX0_meetEarlier_60 : decode cX0_meetEarlier 60 = .ok (.aload_n 0, 1) := by decide +kernel
theorem dX0_meetEarlier_61 : decode cX0_meetEarlier 61 = .ok (.getfield 29, 3) := by decide +kernel
theorem dX0_meetEarlier_64 : decode cX0_meetEarlier 64 = .ok (.getfield 69, 3) := by decide +kernel
theorem dX0_meetEarlier_67 : decode cX0_meetEarlier 67 = .ok (.iload_n 2, 1) := by decide +kernel
theorem dX0_meetEarlier_68 : decode cX0_meetEarlier 68 = .ok (.iaload, 1) := by decide +kernel
theorem dX0_meetEarlier_69 : decode cX0_meetEarlier 69 = .ok (.ifCond .eq 9, 3) := by decide +kernel
theorem dX0_meetEarlier_72 : decode cX0_meetEarlier 72 = .ok (.aload_n 0, 1) := by decide +kernel
theorem dX0_meetEarlier_73 : decode cX0_meetEarlier 73 = .ok (.iload_n 2, 1) := by decide +kernel
theorem dX0_meetEarlier_74 : decode cX0_meetEarlier 74 = .ok (.iload_n 3, 1) := by decide +kernel
theorem dX0_meetEarlier_75 : decode cX0_meetEarlier 75 = .ok (.invokevirtual 72, 3) := by decide +kernel
theorem dX0_meetEarlier_78 : decode cX0_meetEarlier 78 = .ok (.return_, 1) := by decide +kernel
theorem dX0_meetFoe_0 : decode cX0_meetFoe 0 = .ok (.aload_n 0, 1) := by decide +kernel
theorem dX0_meetFoe_1 : decode cX0_meetFoe 1 = .ok (.getfield 29, 3) := by decide +kernel
theorem dX0_meetFoe_4 : decode cX0_meetFoe 4 = .ok (.getfield 44, 3) := by decide +kernel
theorem dX0_meetFoe_7 : decode cX0_meetFoe 7 = .ok (.iload_n 2, 1) := by decide +kernel
theorem dX0_meetFoe_8 : decode cX0_meetFoe 8 = .ok (.iaload, 1) := by decide +kernel
theorem dX0_meetFoe_9 : decode cX0_meetFoe 9 = .ok (.aload_n 0, 1) := by decide +kernel
theorem dX0_meetFoe_10 : decode cX0_meetFoe 10 = .ok (.getfield 29, 3) := by decide +kernel
theorem dX0_meetFoe_13 : decode cX0_meetFoe 13 = .ok (.getfield 44, 3) := by decide +kernel
theorem dX0_meetFoe_16 : decode cX0_meetFoe 16 = .ok (.iload_n 3, 1) := by decide +kernel
theorem dX0_meetFoe_17 : decode cX0_meetFoe 17 = .ok (.iaload, 1) := by decide +kernel
theorem dX0_meetFoe_18 : decode cX0_meetFoe 18 = .ok (.isub, 1) := by decide +kernel
theorem dX0_meetFoe_19 : decode cX0_meetFoe 19 = .ok (.istore 4, 2) := by decide +kernel
theorem dX0_meetFoe_21 : decode cX0_meetFoe 21 = .ok (.iload_n 1, 1) := by decide +kernel
theorem dX0_meetFoe_22 : decode cX0_meetFoe 22 = .ok (.ifCond .eq 13, 3) := by decide +kernel
theorem dX0_meetFoe_25 : decode cX0_meetFoe 25 = .ok (.iload_n 1, 1) := by decide +kernel
theorem dX0_meetFoe_26 : decode cX0_meetFoe 26 = .ok (.iconst 2, 1) := by decide +kernel
theorem dX0_meetFoe_27 : decode cX0_meetFoe 27 = .ok (.if_icmp .ne 14, 3) := by decide +kernel
theorem dX0_meetFoe_30 : decode cX0_meetFoe 30 = .ok (.iload 4, 2) := by decide +kernel
theorem dX0_meetFoe_32 : decode cX0_meetFoe 32 = .ok (.ifCond .lt 9, 3) := by decide +kernel
theorem dX0_meetFoe_35 : decode cX0_meetFoe 35 = .ok (.aload_n 0, 1) := by decide +kernel
theorem dX0_meetFoe_36 : decode cX0_meetFoe 36 = .ok (.iload_n 2, 1) := by decide +kernel
theorem dX0_meetFoe_37 : decode cX0_meetFoe 37 = .ok (.iload_n 3, 1) := by decide +kernel
theorem dX0_meetFoe_38 : decode cX0_meetFoe 38 = .ok (.invokevirtual 72, 3) := by decide +kernel
theorem dX0_meetFoe_41 : decode cX0_meetFoe 41 = .ok (.iload_n 1, 1) := by decide +kernel
theorem dX0_meetFoe_42 : decode cX0_meetFoe 42 = .ok (.iconst 2, 1) := by decide +kernel
theorem dX0_meetFoe_43 : decode cX0_meetFoe 43 = .ok (.if_icmp .ne 8, 3) := by decide +kernel
theorem dX0_meetFoe_46 : decode cX0_meetFoe 46 = .ok (.iload 4, 2) := by decide +kernel
theorem dX0_meetFoe_48 : decode cX0_meetFoe 48 = .ok (.ifCond .gt 9, 3) := by decide +kernel
theorem dX0_meetFoe_51 : decode cX0_meetFoe 51 = .ok (.aload_n 0, 1) := by decide +kernel
theorem dX0_meetFoe_52 : decode cX0_meetFoe 52 = .ok (.iload_n 3, 1) := by decide +kernel
theorem dX0_meetFoe_53 : decode cX0_meetFoe 53 = .ok (.iload_n 2, 1) := by decide +kernel
theorem dX0_meetFoe_54 : decode cX0_meetFoe 54 = .ok (.invokevirtual 72, 3) := by decide +kernel
theorem dX0_meetFoe_57 : decode cX0_meetFoe 57 = .ok (.return_, 1) := by decide +kernel
theorem dX0_strike_0 : decode cX0_strike 0 = .ok (.aload_n 0, 1) := by decide +kernel
theorem dX0_strike_1 : decode cX0_strike 1 = .ok (.getfield 9, 3) := by decide +kernel
theorem dX0_strike_4 : decode cX0_strike 4 = .ok (.iload_n 1, 1) := by decide +kernel
theorem dX0_strike_5 : decode cX0_strike 5 = .ok (.dup2, 1) := by decide +kernel
theorem dX0_strike_6 : decode cX0_strike 6 = .ok (.iaload, 1) := by decide +kernel
theorem dX0_strike_7 : decode cX0_strike 7 = .ok (.iconst 1, 1) := by decide +kernel
theorem dX0_strike_8 : decode cX0_strike 8 = .ok (.iload_n 2, 1) := by decide +kernel
theorem dX0_strike_9 : decode cX0_strike 9 = .ok (.ishl, 1) := by decide +kernel
theorem dX0_strike_10 : decode cX0_strike 10 = .ok (.ior, 1) := by decide +kernel
theorem dX0_strike_11 : decode cX0_strike 11 = .ok (.iastore, 1) := by decide +kernel
theorem dX0_strike_12 : decode cX0_strike 12 = .ok (.aload_n 0, 1) := by decide +kernel
theorem dX0_strike_13 : decode cX0_strike 13 = .ok (.getfield 15, 3) := by decide +kernel
theorem dX0_strike_16 : decode cX0_strike 16 = .ok (.iload_n 2, 1) := by decide +kernel
theorem dX0_strike_17 : decode cX0_strike 17 = .ok (.dup2, 1) := by decide +kernel
theorem dX0_strike_18 : decode cX0_strike 18 = .ok (.iaload, 1) := by decide +kernel
theorem dX0_strike_19 : decode cX0_strike 19 = .ok (.iconst 1, 1) := by decide +kernel
theorem dX0_strike_20 : decode cX0_strike 20 = .ok (.iload_n 1, 1) := by decide +kernel
theorem dX0_strike_21 : decode cX0_strike 21 = .ok (.ishl, 1) := by decide +kernel
theorem dX0_strike_22 : decode cX0_strike 22 = .ok (.ior, 1) := by decide +kernel
theorem dX0_strike_23 : decode cX0_strike 23 = .ok (.iastore, 1) := by decide +kernel
theorem dX0_strike_24 : decode cX0_strike 24 = .ok (.return_, 1) := by decide +kernel
theorem dX0_struckBy_0 : decode cX0_struckBy 0 = .ok (.aload_n 0, 1) := by decide +kernel
theorem dX0_struckBy_1 : decode cX0_struckBy 1 = .ok (.aload_n 0, 1) := by decide +kernel
theorem dX0_struckBy_2 : decode cX0_struckBy 2 = .ok (.getfield 9, 3) := by decide +kernel
theorem dX0_struckBy_5 : decode cX0_struckBy 5 = .ok (.iload_n 1, 1) := by decide +kernel
theorem dX0_struckBy_6 : decode cX0_struckBy 6 = .ok (.invokevirtual 76, 3) := by decide +kernel
theorem dX0_struckBy_9 : decode cX0_struckBy 9 = .ok (.ireturn, 1) := by decide +kernel
theorem dX0_unionOver_0 : decode cX0_unionOver 0 = .ok (.iconst 0, 1) := by decide +kernel
theorem dX0_unionOver_1 : decode cX0_unionOver 1 = .ok (.istore_n 3, 1) := by decide +kernel
theorem dX0_unionOver_2 : decode cX0_unionOver 2 = .ok (.iconst 0, 1) := by decide +kernel
theorem dX0_unionOver_3 : decode cX0_unionOver 3 = .ok (.istore 4, 2) := by decide +kernel
theorem dX0_unionOver_5 : decode cX0_unionOver 5 = .ok (.iload 4, 2) := by decide +kernel
theorem dX0_unionOver_7 : decode cX0_unionOver 7 = .ok (.aload_n 0, 1) := by decide +kernel
theorem dX0_unionOver_8 : decode cX0_unionOver 8 = .ok (.getfield 29, 3) := by decide +kernel
theorem dX0_unionOver_11 : decode cX0_unionOver 11 = .ok (.getfield 39, 3) := by decide +kernel
theorem dX0_unionOver_14 : decode cX0_unionOver 14 = .ok (.if_icmp .ge 25, 3) := by decide +kernel
theorem dX0_unionOver_17 : decode cX0_unionOver 17 = .ok (.iload_n 2, 1) := by decide +kernel
theorem dX0_unionOver_18 : decode cX0_unionOver 18 = .ok (.iload 4, 2) := by decide +kernel
theorem dX0_unionOver_20 : decode cX0_unionOver 20 = .ok (.ishr, 1) := by decide +kernel
theorem dX0_unionOver_21 : decode cX0_unionOver 21 = .ok (.iconst 1, 1) := by decide +kernel
theorem dX0_unionOver_22 : decode cX0_unionOver 22 = .ok (.iand, 1) := by decide +kernel
theorem dX0_unionOver_23 : decode cX0_unionOver 23 = .ok (.ifCond .eq 10, 3) := by decide +kernel
theorem dX0_unionOver_26 : decode cX0_unionOver 26 = .ok (.iload_n 3, 1) := by decide +kernel
theorem dX0_unionOver_27 : decode cX0_unionOver 27 = .ok (.aload_n 1, 1) := by decide +kernel
theorem dX0_unionOver_28 : decode cX0_unionOver 28 = .ok (.iload 4, 2) := by decide +kernel
theorem dX0_unionOver_30 : decode cX0_unionOver 30 = .ok (.iaload, 1) := by decide +kernel
theorem dX0_unionOver_31 : decode cX0_unionOver 31 = .ok (.ior, 1) := by decide +kernel
theorem dX0_unionOver_32 : decode cX0_unionOver 32 = .ok (.istore_n 3, 1) := by decide +kernel
theorem dX0_unionOver_33 : decode cX0_unionOver 33 = .ok (.iinc 4 1, 3) := by decide +kernel
theorem dX0_unionOver_36 : decode cX0_unionOver 36 = .ok (.goto (-31), 3) := by decide +kernel
theorem dX0_unionOver_39 : decode cX0_unionOver 39 = .ok (.iload_n 3, 1) := by decide +kernel
theorem dX0_unionOver_40 : decode cX0_unionOver 40 = .ok (.ireturn, 1) := by decide +kernel
theorem dX0_answersForItself_0 : decode cX0_answersForItself 0 = .ok (.iload_n 1, 1) := by decide +kernel
theorem dX0_answersForItself_1 : decode cX0_answersForItself 1 = .ok (.aload_n 0, 1) := by decide +kernel
theorem dX0_answersForItself_2 : decode cX0_answersForItself 2 = .ok (.getfield 25, 3) := by decide +kernel
theorem dX0_answersForItself_5 : decode cX0_answersForItself 5 = .ok (.iconst (-1), 1) := by decide +kernel
theorem dX0_answersForItself_6 : decode cX0_answersForItself 6 = .ok (.ixor, 1) := by decide +kernel
theorem dX0_answersForItself_7 : decode cX0_answersForItself 7 = .ok (.iand, 1) := by decide +kernel
theorem dX0_answersForItself_8 : decode cX0_answersForItself 8 = .ok (.ifCond .eq 5, 3) := by decide +kernel
theorem dX0_answersForItself_11 : decode cX0_answersForItself 11 = .ok (.iconst 0, 1) := by decide +kernel
theorem dX0_answersForItself_12 : decode cX0_answersForItself 12 = .ok (.ireturn, 1) := by decide +kernel
theorem dX0_answersForItself_13 : decode cX0_answersForItself 13 = .ok (.aload_n 0, 1) := by decide +kernel
theorem dX0_answersForItself_14 : decode cX0_answersForItself 14 = .ok (.iload_n 1, 1) := by decide +kernel
theorem dX0_answersForItself_15 : decode cX0_answersForItself 15 = .ok (.invokevirtual 80, 3) := by decide +kernel
theorem dX0_answersForItself_18 : decode cX0_answersForItself 18 = .ok (.istore_n 2, 1) := by decide +kernel
theorem dX0_answersForItself_19 : decode cX0_answersForItself 19 = .ok (.iload_n 2, 1) := by decide +kernel
theorem dX0_answersForItself_20 : decode cX0_answersForItself 20 = .ok (.iload_n 1, 1) := by decide +kernel
theorem dX0_answersForItself_21 : decode cX0_answersForItself 21 = .ok (.iand, 1) := by decide +kernel
theorem dX0_answersForItself_22 : decode cX0_answersForItself 22 = .ok (.ifCond .ne 23, 3) := by decide +kernel
theorem dX0_answersForItself_25 : decode cX0_answersForItself 25 = .ok (.aload_n 0, 1) := by decide +kernel
theorem dX0_answersForItself_26 : decode cX0_answersForItself 26 = .ok (.aload_n 0, 1) := by decide +kernel
theorem dX0_answersForItself_27 : decode cX0_answersForItself 27 = .ok (.getfield 15, 3) := by decide +kernel
theorem dX0_answersForItself_30 : decode cX0_answersForItself 30 = .ok (.iload_n 1, 1) := by decide +kernel
theorem dX0_answersForItself_31 : decode cX0_answersForItself 31 = .ok (.invokevirtual 76, 3) := by decide +kernel
theorem dX0_answersForItself_34 : decode cX0_answersForItself 34 = .ok (.iload_n 2, 1) := by decide +kernel
theorem dX0_answersForItself_35 : decode cX0_answersForItself 35 = .ok (.iconst (-1), 1) := by decide +kernel
theorem dX0_answersForItself_36 : decode cX0_answersForItself 36 = .ok (.ixor, 1) := by decide +kernel
theorem dX0_answersForItself_37 : decode cX0_answersForItself 37 = .ok (.iand, 1) := by decide +kernel
theorem dX0_answersForItself_38 : decode cX0_answersForItself 38 = .ok (.ifCond .ne 7, 3) := by decide +kernel
theorem dX0_answersForItself_41 : decode cX0_answersForItself 41 = .ok (.iconst 1, 1) := by decide +kernel
theorem dX0_answersForItself_42 : decode cX0_answersForItself 42 = .ok (.goto 4, 3) := by decide +kernel
theorem dX0_answersForItself_45 : decode cX0_answersForItself 45 = .ok (.iconst 0, 1) := by decide +kernel
theorem dX0_answersForItself_46 : decode cX0_answersForItself 46 = .ok (.ireturn, 1) := by decide +kernel
theorem dX0_leastSet_0 : decode cX0_leastSet 0 = .ok (.iconst 0, 1) := by decide +kernel
theorem dX0_leastSet_1 : decode cX0_leastSet 1 = .ok (.istore_n 1, 1) := by decide +kernel
theorem dX0_leastSet_2 : decode cX0_leastSet 2 = .ok (.iconst 0, 1) := by decide +kernel
theorem dX0_leastSet_3 : decode cX0_leastSet 3 = .ok (.istore_n 2, 1) := by decide +kernel
theorem dX0_leastSet_4 : decode cX0_leastSet 4 = .ok (.iload_n 2, 1) := by decide +kernel
theorem dX0_leastSet_5 : decode cX0_leastSet 5 = .ok (.aload_n 0, 1) := by decide +kernel
theorem dX0_leastSet_6 : decode cX0_leastSet 6 = .ok (.getfield 29, 3) := by decide +kernel
theorem dX0_leastSet_9 : decode cX0_leastSet 9 = .ok (.getfield 39, 3) := by decide +kernel
theorem dX0_leastSet_12 : decode cX0_leastSet 12 = .ok (.if_icmp .gt 28, 3) := by decide +kernel
theorem dX0_leastSet_15 : decode cX0_leastSet 15 = .ok (.aload_n 0, 1) := by decide +kernel
theorem dX0_leastSet_16 : decode cX0_leastSet 16 = .ok (.aload_n 0, 1) := by decide +kernel
theorem dX0_leastSet_17 : decode cX0_leastSet 17 = .ok (.iload_n 1, 1) := by decide +kernel
theorem dX0_leastSet_18 : decode cX0_leastSet 18 = .ok (.invokevirtual 80, 3) := by decide +kernel
theorem dX0_leastSet_21 : decode cX0_leastSet 21 = .ok (.invokevirtual 84, 3) := by decide +kernel
theorem dX0_leastSet_24 : decode cX0_leastSet 24 = .ok (.istore_n 3, 1) := by decide +kernel
theorem dX0_leastSet_25 : decode cX0_leastSet 25 = .ok (.iload_n 3, 1) := by decide +kernel
theorem dX0_leastSet_26 : decode cX0_leastSet 26 = .ok (.iload_n 1, 1) := by decide +kernel
end
section
theorem zz_last : True := trivial
end
