section
-- ===== PART A: goes FIRST, ahead of the names: the tables' words, and 'selects' of the private methods out of them =====
/-- a private method of a class that the tables say can be made, by its rows of tables_1 -/
def lw_okq (q : MethodName × Nat) : Prop := (q.1.cls ≠ "java/lang/invoke/MethodHandle" ∧ q.1.cls ≠ "java/lang/invoke/VarHandle") ∧ Cond.instantiable q.1.cls q.2 ∈ tables_1 ∧ Cond.privateMethod q.1 ∈ tables_1 ∧ Cond.instanceMethod q.1 ∈ tables_1
theorem lw_p0 : lw_okq (⟨"PieceWords", "refuse", "(I)I"⟩, 11) := ⟨⟨by decide +kernel, by decide +kernel⟩, List.mem_of_getElem? (i := 10) (by decide +kernel), List.mem_of_getElem? (i := 232) (by decide +kernel), List.mem_of_getElem? (i := 233) (by decide +kernel)⟩
theorem lw_p1 : lw_okq (⟨"PieceWords", "readText", "(IZ)I"⟩, 11) := ⟨⟨by decide +kernel, by decide +kernel⟩, List.mem_of_getElem? (i := 10) (by decide +kernel), List.mem_of_getElem? (i := 248) (by decide +kernel), List.mem_of_getElem? (i := 249) (by decide +kernel)⟩
theorem lw_p2 : lw_okq (⟨"PieceWords$Text", "standsNext", "(I)Z"⟩, 6) := ⟨⟨by decide +kernel, by decide +kernel⟩, List.mem_of_getElem? (i := 40) (by decide +kernel), List.mem_of_getElem? (i := 260) (by decide +kernel), List.mem_of_getElem? (i := 261) (by decide +kernel)⟩
theorem lw_p3 : lw_okq (⟨"PieceWords$Text", "factorEnds", "()Z"⟩, 6) := ⟨⟨by decide +kernel, by decide +kernel⟩, List.mem_of_getElem? (i := 40) (by decide +kernel), List.mem_of_getElem? (i := 270) (by decide +kernel), List.mem_of_getElem? (i := 271) (by decide +kernel)⟩
theorem lw_p4 : lw_okq (⟨"PieceWords$Text", "bracketOpens", "()Z"⟩, 6) := ⟨⟨by decide +kernel, by decide +kernel⟩, List.mem_of_getElem? (i := 40) (by decide +kernel), List.mem_of_getElem? (i := 274) (by decide +kernel), List.mem_of_getElem? (i := 275) (by decide +kernel)⟩
theorem lw_p5 : lw_okq (⟨"PieceWords$Text", "bracketCloses", "()Z"⟩, 6) := ⟨⟨by decide +kernel, by decide +kernel⟩, List.mem_of_getElem? (i := 40) (by decide +kernel), List.mem_of_getElem? (i := 278) (by decide +kernel), List.mem_of_getElem? (i := 279) (by decide +kernel)⟩
theorem lw_p6 : lw_okq (⟨"PieceWords$Text", "wordEnds", "()Z"⟩, 6) := ⟨⟨by decide +kernel, by decide +kernel⟩, List.mem_of_getElem? (i := 40) (by decide +kernel), List.mem_of_getElem? (i := 282) (by decide +kernel), List.mem_of_getElem? (i := 283) (by decide +kernel)⟩
theorem lw_p7 : lw_okq (⟨"PieceWords$Reader", "startWord", "()V"⟩, 8) := ⟨⟨by decide +kernel, by decide +kernel⟩, List.mem_of_getElem? (i := 67) (by decide +kernel), List.mem_of_getElem? (i := 291) (by decide +kernel), List.mem_of_getElem? (i := 292) (by decide +kernel)⟩
theorem lw_p8 : lw_okq (⟨"PieceWords$Reader", "readByte", "(I)V"⟩, 8) := ⟨⟨by decide +kernel, by decide +kernel⟩, List.mem_of_getElem? (i := 67) (by decide +kernel), List.mem_of_getElem? (i := 295) (by decide +kernel), List.mem_of_getElem? (i := 296) (by decide +kernel)⟩
theorem lw_p9 : lw_okq (⟨"PieceWords$Reader", "putRaw", "(I)V"⟩, 8) := ⟨⟨by decide +kernel, by decide +kernel⟩, List.mem_of_getElem? (i := 67) (by decide +kernel), List.mem_of_getElem? (i := 301) (by decide +kernel), List.mem_of_getElem? (i := 302) (by decide +kernel)⟩
theorem lw_p10 : lw_okq (⟨"PieceWords$Reader", "repeatFactor", "(I)V"⟩, 8) := ⟨⟨by decide +kernel, by decide +kernel⟩, List.mem_of_getElem? (i := 67) (by decide +kernel), List.mem_of_getElem? (i := 305) (by decide +kernel), List.mem_of_getElem? (i := 306) (by decide +kernel)⟩
theorem lw_p11 : lw_okq (⟨"PieceWords$Reader", "takeWord", "(IZ)Z"⟩, 8) := ⟨⟨by decide +kernel, by decide +kernel⟩, List.mem_of_getElem? (i := 67) (by decide +kernel), List.mem_of_getElem? (i := 309) (by decide +kernel), List.mem_of_getElem? (i := 310) (by decide +kernel)⟩
theorem lw_p12 : lw_okq (⟨"PieceWords$Members", "addTurns", "(ILPieceWords$Row;)V"⟩, 13) := ⟨⟨by decide +kernel, by decide +kernel⟩, List.mem_of_getElem? (i := 104) (by decide +kernel), List.mem_of_getElem? (i := 344) (by decide +kernel), List.mem_of_getElem? (i := 345) (by decide +kernel)⟩
theorem lw_p13 : lw_okq (⟨"PieceWords$Members", "earlierLike", "(LPieceWords$Row;)I"⟩, 13) := ⟨⟨by decide +kernel, by decide +kernel⟩, List.mem_of_getElem? (i := 104) (by decide +kernel), List.mem_of_getElem? (i := 358) (by decide +kernel), List.mem_of_getElem? (i := 359) (by decide +kernel)⟩
theorem lw_p14 : lw_okq (⟨"PieceWords$Members", "listByFirstLetter", "(I)V"⟩, 13) := ⟨⟨by decide +kernel, by decide +kernel⟩, List.mem_of_getElem? (i := 104) (by decide +kernel), List.mem_of_getElem? (i := 375) (by decide +kernel), List.mem_of_getElem? (i := 376) (by decide +kernel)⟩
theorem lw_p15 : lw_okq (⟨"PieceWords$Members", "measure", "()V"⟩, 13) := ⟨⟨by decide +kernel, by decide +kernel⟩, List.mem_of_getElem? (i := 104) (by decide +kernel), List.mem_of_getElem? (i := 383) (by decide +kernel), List.mem_of_getElem? (i := 384) (by decide +kernel)⟩
def lw_privs_1 : List (MethodName × Nat) := [(⟨"PieceWords", "refuse", "(I)I"⟩, 11), (⟨"PieceWords", "readText", "(IZ)I"⟩, 11), (⟨"PieceWords$Text", "standsNext", "(I)Z"⟩, 6), (⟨"PieceWords$Text", "factorEnds", "()Z"⟩, 6), (⟨"PieceWords$Text", "bracketOpens", "()Z"⟩, 6), (⟨"PieceWords$Text", "bracketCloses", "()Z"⟩, 6), (⟨"PieceWords$Text", "wordEnds", "()Z"⟩, 6), (⟨"PieceWords$Reader", "startWord", "()V"⟩, 8), (⟨"PieceWords$Reader", "readByte", "(I)V"⟩, 8), (⟨"PieceWords$Reader", "putRaw", "(I)V"⟩, 8), (⟨"PieceWords$Reader", "repeatFactor", "(I)V"⟩, 8), (⟨"PieceWords$Reader", "takeWord", "(IZ)Z"⟩, 8), (⟨"PieceWords$Members", "addTurns", "(ILPieceWords$Row;)V"⟩, 13), (⟨"PieceWords$Members", "earlierLike", "(LPieceWords$Row;)I"⟩, 13), (⟨"PieceWords$Members", "listByFirstLetter", "(I)V"⟩, 13), (⟨"PieceWords$Members", "measure", "()V"⟩, 13)]
theorem lw_r1 : ∀ q ∈ lw_privs_1, lw_okq q := List.forall_mem_cons.mpr ⟨lw_p0, List.forall_mem_cons.mpr ⟨lw_p1, List.forall_mem_cons.mpr ⟨lw_p2, List.forall_mem_cons.mpr ⟨lw_p3, List.forall_mem_cons.mpr ⟨lw_p4, List.forall_mem_cons.mpr ⟨lw_p5, List.forall_mem_cons.mpr ⟨lw_p6, List.forall_mem_cons.mpr ⟨lw_p7, List.forall_mem_cons.mpr ⟨lw_p8, List.forall_mem_cons.mpr ⟨lw_p9, List.forall_mem_cons.mpr ⟨lw_p10, List.forall_mem_cons.mpr ⟨lw_p11, List.forall_mem_cons.mpr ⟨lw_p12, List.forall_mem_cons.mpr ⟨lw_p13, List.forall_mem_cons.mpr ⟨lw_p14, List.forall_mem_cons.mpr ⟨lw_p15, fun _ h => absurd h List.not_mem_nil⟩⟩⟩⟩⟩⟩⟩⟩⟩⟩⟩⟩⟩⟩⟩⟩
theorem lw_p16 : lw_okq (⟨"PieceWords$Members", "notePiece", "(II)V"⟩, 13) := ⟨⟨by decide +kernel, by decide +kernel⟩, List.mem_of_getElem? (i := 104) (by decide +kernel), List.mem_of_getElem? (i := 392) (by decide +kernel), List.mem_of_getElem? (i := 393) (by decide +kernel)⟩
theorem lw_p17 : lw_okq (⟨"PieceWords$Members", "bringPivot", "(II)Z"⟩, 13) := ⟨⟨by decide +kernel, by decide +kernel⟩, List.mem_of_getElem? (i := 104) (by decide +kernel), List.mem_of_getElem? (i := 453) (by decide +kernel), List.mem_of_getElem? (i := 454) (by decide +kernel)⟩
theorem lw_p18 : lw_okq (⟨"PieceWords$Members", "clearBelow", "(III)V"⟩, 13) := ⟨⟨by decide +kernel, by decide +kernel⟩, List.mem_of_getElem? (i := 104) (by decide +kernel), List.mem_of_getElem? (i := 457) (by decide +kernel), List.mem_of_getElem? (i := 458) (by decide +kernel)⟩
theorem lw_p19 : lw_okq (⟨"PieceWords", "keep", "(I)I"⟩, 11) := ⟨⟨by decide +kernel, by decide +kernel⟩, List.mem_of_getElem? (i := 10) (by decide +kernel), List.mem_of_getElem? (i := 475) (by decide +kernel), List.mem_of_getElem? (i := 476) (by decide +kernel)⟩
theorem lw_p20 : lw_okq (⟨"PieceWords", "makePower", "(II)V"⟩, 11) := ⟨⟨by decide +kernel, by decide +kernel⟩, List.mem_of_getElem? (i := 10) (by decide +kernel), List.mem_of_getElem? (i := 497) (by decide +kernel), List.mem_of_getElem? (i := 498) (by decide +kernel)⟩
theorem lw_p21 : lw_okq (⟨"PieceWords$Shortening", "isBetter", "(III)Z"⟩, 7) := ⟨⟨by decide +kernel, by decide +kernel⟩, List.mem_of_getElem? (i := 160) (by decide +kernel), List.mem_of_getElem? (i := 540) (by decide +kernel), List.mem_of_getElem? (i := 541) (by decide +kernel)⟩
theorem lw_p22 : lw_okq (⟨"PieceWords$Shortening", "take", "(III)V"⟩, 7) := ⟨⟨by decide +kernel, by decide +kernel⟩, List.mem_of_getElem? (i := 160) (by decide +kernel), List.mem_of_getElem? (i := 544) (by decide +kernel), List.mem_of_getElem? (i := 545) (by decide +kernel)⟩
theorem lw_p23 : lw_okq (⟨"PieceWords", "someBeginningTurns", "(II)Z"⟩, 11) := ⟨⟨by decide +kernel, by decide +kernel⟩, List.mem_of_getElem? (i := 10) (by decide +kernel), List.mem_of_getElem? (i := 597) (by decide +kernel), List.mem_of_getElem? (i := 598) (by decide +kernel)⟩
theorem lw_p24 : lw_okq (⟨"PieceWords", "beginningTurns", "(III)Z"⟩, 11) := ⟨⟨by decide +kernel, by decide +kernel⟩, List.mem_of_getElem? (i := 10) (by decide +kernel), List.mem_of_getElem? (i := 601) (by decide +kernel), List.mem_of_getElem? (i := 602) (by decide +kernel)⟩
theorem lw_p25 : lw_okq (⟨"PieceWords", "putLoop", "(II)V"⟩, 11) := ⟨⟨by decide +kernel, by decide +kernel⟩, List.mem_of_getElem? (i := 10) (by decide +kernel), List.mem_of_getElem? (i := 633) (by decide +kernel), List.mem_of_getElem? (i := 634) (by decide +kernel)⟩
theorem lw_p26 : lw_okq (⟨"PieceWords", "tell", "(I)I"⟩, 11) := ⟨⟨by decide +kernel, by decide +kernel⟩, List.mem_of_getElem? (i := 10) (by decide +kernel), List.mem_of_getElem? (i := 641) (by decide +kernel), List.mem_of_getElem? (i := 642) (by decide +kernel)⟩
theorem lw_p27 : lw_okq (⟨"PieceWords", "lettersOfAll", "()I"⟩, 11) := ⟨⟨by decide +kernel, by decide +kernel⟩, List.mem_of_getElem? (i := 10) (by decide +kernel), List.mem_of_getElem? (i := 645) (by decide +kernel), List.mem_of_getElem? (i := 646) (by decide +kernel)⟩
theorem lw_p28 : lw_okq (⟨"PieceWordsModel", "isRelator", "(I)Z"⟩, 32) := ⟨⟨by decide +kernel, by decide +kernel⟩, List.mem_of_getElem? (i := 658) (by decide +kernel), List.mem_of_getElem? (i := 765) (by decide +kernel), List.mem_of_getElem? (i := 766) (by decide +kernel)⟩
theorem lw_p29 : lw_okq (⟨"PieceWordsModel", "bad", "()I"⟩, 32) := ⟨⟨by decide +kernel, by decide +kernel⟩, List.mem_of_getElem? (i := 658) (by decide +kernel), List.mem_of_getElem? (i := 773) (by decide +kernel), List.mem_of_getElem? (i := 774) (by decide +kernel)⟩
theorem lw_p30 : lw_okq (⟨"PieceWordsModel", "pieceOf", "(I)I"⟩, 32) := ⟨⟨by decide +kernel, by decide +kernel⟩, List.mem_of_getElem? (i := 658) (by decide +kernel), List.mem_of_getElem? (i := 777) (by decide +kernel), List.mem_of_getElem? (i := 778) (by decide +kernel)⟩
theorem lw_p31 : lw_okq (⟨"PieceWordsModel", "isOf", "(II)Z"⟩, 32) := ⟨⟨by decide +kernel, by decide +kernel⟩, List.mem_of_getElem? (i := 658) (by decide +kernel), List.mem_of_getElem? (i := 781) (by decide +kernel), List.mem_of_getElem? (i := 782) (by decide +kernel)⟩
def lw_privs_2 : List (MethodName × Nat) := [(⟨"PieceWords$Members", "notePiece", "(II)V"⟩, 13), (⟨"PieceWords$Members", "bringPivot", "(II)Z"⟩, 13), (⟨"PieceWords$Members", "clearBelow", "(III)V"⟩, 13), (⟨"PieceWords", "keep", "(I)I"⟩, 11), (⟨"PieceWords", "makePower", "(II)V"⟩, 11), (⟨"PieceWords$Shortening", "isBetter", "(III)Z"⟩, 7), (⟨"PieceWords$Shortening", "take", "(III)V"⟩, 7), (⟨"PieceWords", "someBeginningTurns", "(II)Z"⟩, 11), (⟨"PieceWords", "beginningTurns", "(III)Z"⟩, 11), (⟨"PieceWords", "putLoop", "(II)V"⟩, 11), (⟨"PieceWords", "tell", "(I)I"⟩, 11), (⟨"PieceWords", "lettersOfAll", "()I"⟩, 11), (⟨"PieceWordsModel", "isRelator", "(I)Z"⟩, 32), (⟨"PieceWordsModel", "bad", "()I"⟩, 32), (⟨"PieceWordsModel", "pieceOf", "(I)I"⟩, 32), (⟨"PieceWordsModel", "isOf", "(II)Z"⟩, 32)]
theorem lw_r2 : ∀ q ∈ lw_privs_2, lw_okq q := List.forall_mem_cons.mpr ⟨lw_p16, List.forall_mem_cons.mpr ⟨lw_p17, List.forall_mem_cons.mpr ⟨lw_p18, List.forall_mem_cons.mpr ⟨lw_p19, List.forall_mem_cons.mpr ⟨lw_p20, List.forall_mem_cons.mpr ⟨lw_p21, List.forall_mem_cons.mpr ⟨lw_p22, List.forall_mem_cons.mpr ⟨lw_p23, List.forall_mem_cons.mpr ⟨lw_p24, List.forall_mem_cons.mpr ⟨lw_p25, List.forall_mem_cons.mpr ⟨lw_p26, List.forall_mem_cons.mpr ⟨lw_p27, List.forall_mem_cons.mpr ⟨lw_p28, List.forall_mem_cons.mpr ⟨lw_p29, List.forall_mem_cons.mpr ⟨lw_p30, List.forall_mem_cons.mpr ⟨lw_p31, fun _ h => absurd h List.not_mem_nil⟩⟩⟩⟩⟩⟩⟩⟩⟩⟩⟩⟩⟩⟩⟩⟩
theorem lw_p32 : lw_okq (⟨"PieceWordsModel", "isTurn", "(IIIZ)Z"⟩, 32) := ⟨⟨by decide +kernel, by decide +kernel⟩, List.mem_of_getElem? (i := 658) (by decide +kernel), List.mem_of_getElem? (i := 785) (by decide +kernel), List.mem_of_getElem? (i := 786) (by decide +kernel)⟩
theorem lw_p33 : lw_okq (⟨"PieceWordsModel", "relatorLetter", "(IIIZ)I"⟩, 32) := ⟨⟨by decide +kernel, by decide +kernel⟩, List.mem_of_getElem? (i := 658) (by decide +kernel), List.mem_of_getElem? (i := 789) (by decide +kernel), List.mem_of_getElem? (i := 790) (by decide +kernel)⟩
theorem lw_p34 : lw_okq (⟨"PieceWordsModel", "beginAlike", "(II)I"⟩, 32) := ⟨⟨by decide +kernel, by decide +kernel⟩, List.mem_of_getElem? (i := 658) (by decide +kernel), List.mem_of_getElem? (i := 796) (by decide +kernel), List.mem_of_getElem? (i := 797) (by decide +kernel)⟩
theorem lw_p35 : lw_okq (⟨"PieceWordsModel", "isMember", "(I)Z"⟩, 32) := ⟨⟨by decide +kernel, by decide +kernel⟩, List.mem_of_getElem? (i := 658) (by decide +kernel), List.mem_of_getElem? (i := 804) (by decide +kernel), List.mem_of_getElem? (i := 805) (by decide +kernel)⟩
theorem lw_p36 : lw_okq (⟨"PieceWordsModel", "isGood", "(I)Z"⟩, 32) := ⟨⟨by decide +kernel, by decide +kernel⟩, List.mem_of_getElem? (i := 658) (by decide +kernel), List.mem_of_getElem? (i := 813) (by decide +kernel), List.mem_of_getElem? (i := 814) (by decide +kernel)⟩
theorem lw_p37 : lw_okq (⟨"PieceWordsModel", "layMatrix", "(I)V"⟩, 32) := ⟨⟨by decide +kernel, by decide +kernel⟩, List.mem_of_getElem? (i := 658) (by decide +kernel), List.mem_of_getElem? (i := 825) (by decide +kernel), List.mem_of_getElem? (i := 826) (by decide +kernel)⟩
theorem lw_p38 : lw_okq (⟨"PieceWordsModel", "swapRows", "(II)V"⟩, 32) := ⟨⟨by decide +kernel, by decide +kernel⟩, List.mem_of_getElem? (i := 658) (by decide +kernel), List.mem_of_getElem? (i := 829) (by decide +kernel), List.mem_of_getElem? (i := 830) (by decide +kernel)⟩
theorem lw_p39 : lw_okq (⟨"PieceWordsModel", "handWord", "(I)V"⟩, 32) := ⟨⟨by decide +kernel, by decide +kernel⟩, List.mem_of_getElem? (i := 658) (by decide +kernel), List.mem_of_getElem? (i := 858) (by decide +kernel), List.mem_of_getElem? (i := 859) (by decide +kernel)⟩
theorem lw_p40 : lw_okq (⟨"PieceWordsModel", "pushWord", "(I)V"⟩, 32) := ⟨⟨by decide +kernel, by decide +kernel⟩, List.mem_of_getElem? (i := 658) (by decide +kernel), List.mem_of_getElem? (i := 862) (by decide +kernel), List.mem_of_getElem? (i := 863) (by decide +kernel)⟩
theorem lw_p41 : lw_okq (⟨"PieceWordsModel", "push", "(I)V"⟩, 32) := ⟨⟨by decide +kernel, by decide +kernel⟩, List.mem_of_getElem? (i := 658) (by decide +kernel), List.mem_of_getElem? (i := 866) (by decide +kernel), List.mem_of_getElem? (i := 867) (by decide +kernel)⟩
theorem lw_p42 : lw_okq (⟨"PieceWordsModel", "layIfFits", "(I)I"⟩, 32) := ⟨⟨by decide +kernel, by decide +kernel⟩, List.mem_of_getElem? (i := 658) (by decide +kernel), List.mem_of_getElem? (i := 870) (by decide +kernel), List.mem_of_getElem? (i := 871) (by decide +kernel)⟩
theorem lw_p43 : lw_okq (⟨"PieceWordsModel", "full", "()I"⟩, 32) := ⟨⟨by decide +kernel, by decide +kernel⟩, List.mem_of_getElem? (i := 658) (by decide +kernel), List.mem_of_getElem? (i := 874) (by decide +kernel), List.mem_of_getElem? (i := 875) (by decide +kernel)⟩
theorem lw_p44 : lw_okq (⟨"PieceWordsModel", "layWord", "(I)I"⟩, 32) := ⟨⟨by decide +kernel, by decide +kernel⟩, List.mem_of_getElem? (i := 658) (by decide +kernel), List.mem_of_getElem? (i := 878) (by decide +kernel), List.mem_of_getElem? (i := 879) (by decide +kernel)⟩
theorem lw_p45 : lw_okq (⟨"PieceWordsModel", "pushInverse", "(I)V"⟩, 32) := ⟨⟨by decide +kernel, by decide +kernel⟩, List.mem_of_getElem? (i := 658) (by decide +kernel), List.mem_of_getElem? (i := 890) (by decide +kernel), List.mem_of_getElem? (i := 891) (by decide +kernel)⟩
theorem lw_p46 : lw_okq (⟨"PieceWordsModel", "ringHand", "()V"⟩, 32) := ⟨⟨by decide +kernel, by decide +kernel⟩, List.mem_of_getElem? (i := 658) (by decide +kernel), List.mem_of_getElem? (i := 903) (by decide +kernel), List.mem_of_getElem? (i := 904) (by decide +kernel)⟩
theorem lw_p47 : lw_okq (⟨"PieceWordsModel", "no", "()I"⟩, 32) := ⟨⟨by decide +kernel, by decide +kernel⟩, List.mem_of_getElem? (i := 658) (by decide +kernel), List.mem_of_getElem? (i := 912) (by decide +kernel), List.mem_of_getElem? (i := 913) (by decide +kernel)⟩
def lw_privs_3 : List (MethodName × Nat) := [(⟨"PieceWordsModel", "isTurn", "(IIIZ)Z"⟩, 32), (⟨"PieceWordsModel", "relatorLetter", "(IIIZ)I"⟩, 32), (⟨"PieceWordsModel", "beginAlike", "(II)I"⟩, 32), (⟨"PieceWordsModel", "isMember", "(I)Z"⟩, 32), (⟨"PieceWordsModel", "isGood", "(I)Z"⟩, 32), (⟨"PieceWordsModel", "layMatrix", "(I)V"⟩, 32), (⟨"PieceWordsModel", "swapRows", "(II)V"⟩, 32), (⟨"PieceWordsModel", "handWord", "(I)V"⟩, 32), (⟨"PieceWordsModel", "pushWord", "(I)V"⟩, 32), (⟨"PieceWordsModel", "push", "(I)V"⟩, 32), (⟨"PieceWordsModel", "layIfFits", "(I)I"⟩, 32), (⟨"PieceWordsModel", "full", "()I"⟩, 32), (⟨"PieceWordsModel", "layWord", "(I)I"⟩, 32), (⟨"PieceWordsModel", "pushInverse", "(I)V"⟩, 32), (⟨"PieceWordsModel", "ringHand", "()V"⟩, 32), (⟨"PieceWordsModel", "no", "()I"⟩, 32)]
theorem lw_r3 : ∀ q ∈ lw_privs_3, lw_okq q := List.forall_mem_cons.mpr ⟨lw_p32, List.forall_mem_cons.mpr ⟨lw_p33, List.forall_mem_cons.mpr ⟨lw_p34, List.forall_mem_cons.mpr ⟨lw_p35, List.forall_mem_cons.mpr ⟨lw_p36, List.forall_mem_cons.mpr ⟨lw_p37, List.forall_mem_cons.mpr ⟨lw_p38, List.forall_mem_cons.mpr ⟨lw_p39, List.forall_mem_cons.mpr ⟨lw_p40, List.forall_mem_cons.mpr ⟨lw_p41, List.forall_mem_cons.mpr ⟨lw_p42, List.forall_mem_cons.mpr ⟨lw_p43, List.forall_mem_cons.mpr ⟨lw_p44, List.forall_mem_cons.mpr ⟨lw_p45, List.forall_mem_cons.mpr ⟨lw_p46, List.forall_mem_cons.mpr ⟨lw_p47, fun _ h => absurd h List.not_mem_nil⟩⟩⟩⟩⟩⟩⟩⟩⟩⟩⟩⟩⟩⟩⟩⟩
theorem lw_p48 : lw_okq (⟨"PieceWordsModel", "findCut", "()V"⟩, 32) := ⟨⟨by decide +kernel, by decide +kernel⟩, List.mem_of_getElem? (i := 658) (by decide +kernel), List.mem_of_getElem? (i := 925) (by decide +kernel), List.mem_of_getElem? (i := 926) (by decide +kernel)⟩
theorem lw_p49 : lw_okq (⟨"PieceWordsModel", "matches", "(II)I"⟩, 32) := ⟨⟨by decide +kernel, by decide +kernel⟩, List.mem_of_getElem? (i := 658) (by decide +kernel), List.mem_of_getElem? (i := 929) (by decide +kernel), List.mem_of_getElem? (i := 930) (by decide +kernel)⟩
theorem lw_p50 : lw_okq (⟨"PieceWordsModel", "isBetter", "(III)Z"⟩, 32) := ⟨⟨by decide +kernel, by decide +kernel⟩, List.mem_of_getElem? (i := 658) (by decide +kernel), List.mem_of_getElem? (i := 936) (by decide +kernel), List.mem_of_getElem? (i := 937) (by decide +kernel)⟩
theorem lw_p51 : lw_okq (⟨"PieceWordsModel", "doCut", "()V"⟩, 32) := ⟨⟨by decide +kernel, by decide +kernel⟩, List.mem_of_getElem? (i := 658) (by decide +kernel), List.mem_of_getElem? (i := 944) (by decide +kernel), List.mem_of_getElem? (i := 945) (by decide +kernel)⟩
theorem lw_p52 : lw_okq (⟨"PieceWordsModel", "shortenHand", "(I)I"⟩, 32) := ⟨⟨by decide +kernel, by decide +kernel⟩, List.mem_of_getElem? (i := 658) (by decide +kernel), List.mem_of_getElem? (i := 953) (by decide +kernel), List.mem_of_getElem? (i := 954) (by decide +kernel)⟩
theorem lw_p53 : lw_okq (⟨"PieceWordsModel", "isNothing", "()Z"⟩, 32) := ⟨⟨by decide +kernel, by decide +kernel⟩, List.mem_of_getElem? (i := 658) (by decide +kernel), List.mem_of_getElem? (i := 965) (by decide +kernel), List.mem_of_getElem? (i := 966) (by decide +kernel)⟩
theorem lw_p54 : lw_okq (⟨"PieceWordsModel", "layRings", "(II)V"⟩, 32) := ⟨⟨by decide +kernel, by decide +kernel⟩, List.mem_of_getElem? (i := 658) (by decide +kernel), List.mem_of_getElem? (i := 981) (by decide +kernel), List.mem_of_getElem? (i := 982) (by decide +kernel)⟩
theorem lw_p55 : lw_okq (⟨"PieceWordsModel", "turnsBy", "(III)Z"⟩, 32) := ⟨⟨by decide +kernel, by decide +kernel⟩, List.mem_of_getElem? (i := 658) (by decide +kernel), List.mem_of_getElem? (i := 985) (by decide +kernel), List.mem_of_getElem? (i := 986) (by decide +kernel)⟩
theorem lw_p56 : lw_okq (⟨"PieceWordsModel", "tellWords", "(IZ)I"⟩, 32) := ⟨⟨by decide +kernel, by decide +kernel⟩, List.mem_of_getElem? (i := 658) (by decide +kernel), List.mem_of_getElem? (i := 1026) (by decide +kernel), List.mem_of_getElem? (i := 1027) (by decide +kernel)⟩
theorem lw_p57 : lw_okq (⟨"PieceWordsModel", "syntax", "()I"⟩, 32) := ⟨⟨by decide +kernel, by decide +kernel⟩, List.mem_of_getElem? (i := 658) (by decide +kernel), List.mem_of_getElem? (i := 1030) (by decide +kernel), List.mem_of_getElem? (i := 1031) (by decide +kernel)⟩
theorem lw_p58 : lw_okq (⟨"PieceWordsModel", "isFigure", "(I)Z"⟩, 32) := ⟨⟨by decide +kernel, by decide +kernel⟩, List.mem_of_getElem? (i := 658) (by decide +kernel), List.mem_of_getElem? (i := 1044) (by decide +kernel), List.mem_of_getElem? (i := 1045) (by decide +kernel)⟩
theorem lw_p59 : lw_okq (⟨"PieceWordsModel", "skip", "()V"⟩, 32) := ⟨⟨by decide +kernel, by decide +kernel⟩, List.mem_of_getElem? (i := 658) (by decide +kernel), List.mem_of_getElem? (i := 1050) (by decide +kernel), List.mem_of_getElem? (i := 1051) (by decide +kernel)⟩
theorem lw_p60 : lw_okq (⟨"PieceWordsModel", "tellWord", "()V"⟩, 32) := ⟨⟨by decide +kernel, by decide +kernel⟩, List.mem_of_getElem? (i := 658) (by decide +kernel), List.mem_of_getElem? (i := 1054) (by decide +kernel), List.mem_of_getElem? (i := 1055) (by decide +kernel)⟩
theorem lw_p61 : lw_okq (⟨"PieceWordsModel", "repeat", "(II)V"⟩, 32) := ⟨⟨by decide +kernel, by decide +kernel⟩, List.mem_of_getElem? (i := 658) (by decide +kernel), List.mem_of_getElem? (i := 1058) (by decide +kernel), List.mem_of_getElem? (i := 1059) (by decide +kernel)⟩
theorem lw_p62 : lw_okq (⟨"PieceWordsModel", "put", "(I)V"⟩, 32) := ⟨⟨by decide +kernel, by decide +kernel⟩, List.mem_of_getElem? (i := 658) (by decide +kernel), List.mem_of_getElem? (i := 1062) (by decide +kernel), List.mem_of_getElem? (i := 1063) (by decide +kernel)⟩
theorem lw_p63 : lw_okq (⟨"PieceWordsModel", "listMembers", "()V"⟩, 32) := ⟨⟨by decide +kernel, by decide +kernel⟩, List.mem_of_getElem? (i := 658) (by decide +kernel), List.mem_of_getElem? (i := 1067) (by decide +kernel), List.mem_of_getElem? (i := 1068) (by decide +kernel)⟩
def lw_privs_4 : List (MethodName × Nat) := [(⟨"PieceWordsModel", "findCut", "()V"⟩, 32), (⟨"PieceWordsModel", "matches", "(II)I"⟩, 32), (⟨"PieceWordsModel", "isBetter", "(III)Z"⟩, 32), (⟨"PieceWordsModel", "doCut", "()V"⟩, 32), (⟨"PieceWordsModel", "shortenHand", "(I)I"⟩, 32), (⟨"PieceWordsModel", "isNothing", "()Z"⟩, 32), (⟨"PieceWordsModel", "layRings", "(II)V"⟩, 32), (⟨"PieceWordsModel", "turnsBy", "(III)Z"⟩, 32), (⟨"PieceWordsModel", "tellWords", "(IZ)I"⟩, 32), (⟨"PieceWordsModel", "syntax", "()I"⟩, 32), (⟨"PieceWordsModel", "isFigure", "(I)Z"⟩, 32), (⟨"PieceWordsModel", "skip", "()V"⟩, 32), (⟨"PieceWordsModel", "tellWord", "()V"⟩, 32), (⟨"PieceWordsModel", "repeat", "(II)V"⟩, 32), (⟨"PieceWordsModel", "put", "(I)V"⟩, 32), (⟨"PieceWordsModel", "listMembers", "()V"⟩, 32)]
theorem lw_r4 : ∀ q ∈ lw_privs_4, lw_okq q := List.forall_mem_cons.mpr ⟨lw_p48, List.forall_mem_cons.mpr ⟨lw_p49, List.forall_mem_cons.mpr ⟨lw_p50, List.forall_mem_cons.mpr ⟨lw_p51, List.forall_mem_cons.mpr ⟨lw_p52, List.forall_mem_cons.mpr ⟨lw_p53, List.forall_mem_cons.mpr ⟨lw_p54, List.forall_mem_cons.mpr ⟨lw_p55, List.forall_mem_cons.mpr ⟨lw_p56, List.forall_mem_cons.mpr ⟨lw_p57, List.forall_mem_cons.mpr ⟨lw_p58, List.forall_mem_cons.mpr ⟨lw_p59, List.forall_mem_cons.mpr ⟨lw_p60, List.forall_mem_cons.mpr ⟨lw_p61, List.forall_mem_cons.mpr ⟨lw_p62, List.forall_mem_cons.mpr ⟨lw_p63, fun _ h => absurd h List.not_mem_nil⟩⟩⟩⟩⟩⟩⟩⟩⟩⟩⟩⟩⟩⟩⟩⟩
theorem lw_p64 : lw_okq (⟨"PieceWordsModel", "listTurns", "(IZ)V"⟩, 32) := ⟨⟨by decide +kernel, by decide +kernel⟩, List.mem_of_getElem? (i := 658) (by decide +kernel), List.mem_of_getElem? (i := 1071) (by decide +kernel), List.mem_of_getElem? (i := 1072) (by decide +kernel)⟩
theorem lw_p65 : lw_okq (⟨"PieceWordsModel", "isListed", "(IIZ)Z"⟩, 32) := ⟨⟨by decide +kernel, by decide +kernel⟩, List.mem_of_getElem? (i := 658) (by decide +kernel), List.mem_of_getElem? (i := 1075) (by decide +kernel), List.mem_of_getElem? (i := 1076) (by decide +kernel)⟩
theorem lw_p66 : lw_okq (⟨"PieceWordsModel", "toldOf", "(I)I"⟩, 32) := ⟨⟨by decide +kernel, by decide +kernel⟩, List.mem_of_getElem? (i := 658) (by decide +kernel), List.mem_of_getElem? (i := 1087) (by decide +kernel), List.mem_of_getElem? (i := 1088) (by decide +kernel)⟩
theorem lw_p67 : lw_okq (⟨"PieceWordsModel", "lettersOfAll", "()I"⟩, 32) := ⟨⟨by decide +kernel, by decide +kernel⟩, List.mem_of_getElem? (i := 658) (by decide +kernel), List.mem_of_getElem? (i := 1091) (by decide +kernel), List.mem_of_getElem? (i := 1092) (by decide +kernel)⟩
def lw_privs_5 : List (MethodName × Nat) := [(⟨"PieceWordsModel", "listTurns", "(IZ)V"⟩, 32), (⟨"PieceWordsModel", "isListed", "(IIZ)Z"⟩, 32), (⟨"PieceWordsModel", "toldOf", "(I)I"⟩, 32), (⟨"PieceWordsModel", "lettersOfAll", "()I"⟩, 32)]
theorem lw_r5 : ∀ q ∈ lw_privs_5, lw_okq q := List.forall_mem_cons.mpr ⟨lw_p64, List.forall_mem_cons.mpr ⟨lw_p65, List.forall_mem_cons.mpr ⟨lw_p66, List.forall_mem_cons.mpr ⟨lw_p67, fun _ h => absurd h List.not_mem_nil⟩⟩⟩⟩
def lw_privs : List (MethodName × Nat) := lw_privs_1 ++ (lw_privs_2 ++ (lw_privs_3 ++ (lw_privs_4 ++ (lw_privs_5))))
def lw_tbl : List Cond := k2_sels lw_privs ++ tables_1
theorem lw_privs_ok : ∀ q ∈ lw_privs, lw_okq q := by
  show ∀ q ∈ lw_privs_1 ++ (lw_privs_2 ++ (lw_privs_3 ++ (lw_privs_4 ++ (lw_privs_5)))), lw_okq q
  exact List.forall_mem_append.mpr ⟨lw_r1, List.forall_mem_append.mpr ⟨lw_r2, List.forall_mem_append.mpr ⟨lw_r3, List.forall_mem_append.mpr ⟨lw_r4, lw_r5⟩⟩⟩⟩
end
section
/-! ===== BEGIN printed: names, fields, word lists, decode rows ===== -/
def RX0 : String := "PieceWords$Members"
def TX0 : u_T := fun k => match k with
  | 0 => ("PieceWords$Members", "relator", "[LPieceWords$Row;", true)
  | 1 => ("PieceWords$Members", "relatorCount", "I", false)
  | 2 => ("PieceWords$Members", "piece", "[I", true)
  | 3 => ("PieceWords$Members", "ownFirst", "[I", true)
  | 4 => ("PieceWords$Members", "turning", "LPieceWords$Row;", true)
  | 5 => ("PieceWords$Members", "member", "[LPieceWords$Row;", true)
  | 6 => ("PieceWords$Members", "count", "I", false)
  | 7 => ("PieceWords$Members", "shortest", "I", false)
  | 8 => ("PieceWords$Members", "owners", "[I", true)
  | 9 => ("PieceWords$Members", "sharedAhead", "[I", true)
  | 10 => ("PieceWords$Members", "starters", "[[I", true)
  | 11 => ("PieceWords$Members", "starterCount", "[I", true)
  | _ => ("PieceWords$Members", "matrix", "[[I", true)
def tyX0 : Nat → FieldType := fun k => match k with
  | 0 => .array (.object "PieceWords$Row")
  | 1 => .int
  | 2 => .array .int
  | 3 => .array .int
  | 4 => .object "PieceWords$Row"
  | 5 => .array (.object "PieceWords$Row")
  | 6 => .int
  | 7 => .int
  | 8 => .array .int
  | 9 => .array .int
  | 10 => .array (.array .int)
  | 11 => .array .int
  | _ => .array (.array .int)
abbrev wsX00 : List Cond := u_ws RX0 TX0 13
theorem nmX0 : ∀ a, a < 13 → ∀ b, b < 13 → a ≠ b → (TX0 a).2.1 ≠ (TX0 b).2.1 := by decide +kernel
theorem tyX0_ok : ∀ k, k < 13 → parseFieldDescriptor (TX0 k).2.2.1 = some (tyX0 k) := by decide +kernel
abbrev cX0_init : ByteArray := prog_2_method_1_code
def yX0_init : MethodName := ⟨RX0, "<init>", "()V"⟩
abbrev cX0_become : ByteArray := prog_2_method_2_code
def yX0_become : MethodName := ⟨RX0, "become", "(LPieceWords$Reader;)V"⟩
abbrev cX0_addTurns : ByteArray := prog_2_method_3_code
def yX0_addTurns : MethodName := ⟨RX0, "addTurns", "(ILPieceWords$Row;)V"⟩
abbrev cX0_earlierLike : ByteArray := prog_2_method_4_code
def yX0_earlierLike : MethodName := ⟨RX0, "earlierLike", "(LPieceWords$Row;)I"⟩
abbrev cX0_listByFirstLetter : ByteArray := prog_2_method_5_code
def yX0_listByFirstLetter : MethodName := ⟨RX0, "listByFirstLetter", "(I)V"⟩
abbrev cX0_measure : ByteArray := prog_2_method_6_code
def yX0_measure : MethodName := ⟨RX0, "measure", "()V"⟩
abbrev cX0_notePiece : ByteArray := prog_2_method_7_code
def yX0_notePiece : MethodName := ⟨RX0, "notePiece", "(II)V"⟩
abbrev cX0_has : ByteArray := prog_2_method_8_code
def yX0_has : MethodName := ⟨RX0, "has", "(I)Z"⟩
abbrev cX0_sizeOf : ByteArray := prog_2_method_9_code
def yX0_sizeOf : MethodName := ⟨RX0, "sizeOf", "(I)I"⟩
abbrev cX0_letterOf : ByteArray := prog_2_method_10_code
def yX0_letterOf : MethodName := ⟨RX0, "letterOf", "(II)I"⟩
abbrev cX0_sharedStart : ByteArray := prog_2_method_11_code
def yX0_sharedStart : MethodName := ⟨RX0, "sharedStart", "(II)I"⟩
abbrev cX0_matchAt : ByteArray := prog_2_method_12_code
def yX0_matchAt : MethodName := ⟨RX0, "matchAt", "(LPieceWords$Row;II)I"⟩
abbrev cX0_beginsFresh : ByteArray := prog_2_method_13_code
def yX0_beginsFresh : MethodName := ⟨RX0, "beginsFresh", "(II)Z"⟩
abbrev cX0_startersWith : ByteArray := prog_2_method_14_code
def yX0_startersWith : MethodName := ⟨RX0, "startersWith", "(I)I"⟩
abbrev cX0_starter : ByteArray := prog_2_method_15_code
def yX0_starter : MethodName := ⟨RX0, "starter", "(II)I"⟩
abbrev cX0_areGood : ByteArray := prog_2_method_16_code
def yX0_areGood : MethodName := ⟨RX0, "areGood", "(I)Z"⟩
abbrev cX0_rankBy : ByteArray := prog_2_method_17_code
def yX0_rankBy : MethodName := ⟨RX0, "rankBy", "(I)I"⟩
abbrev cX0_bringPivot : ByteArray := prog_2_method_18_code
def yX0_bringPivot : MethodName := ⟨RX0, "bringPivot", "(II)Z"⟩
abbrev cX0_clearBelow : ByteArray := prog_2_method_19_code
def yX0_clearBelow : MethodName := ⟨RX0, "clearBelow", "(III)V"⟩
def RX1 : String := "PieceWords$Reader"
def TX1 : u_T := fun k => match k with
  | 0 => ("PieceWords$Reader", "read", "[LPieceWords$Row;", true)
  | 1 => ("PieceWords$Reader", "count", "I", false)
  | 2 => ("PieceWords$Reader", "raw", "[I", true)
  | 3 => ("PieceWords$Reader", "rawCount", "I", false)
  | 4 => ("PieceWords$Reader", "tooLong", "Z", false)
  | 5 => ("PieceWords$Reader", "factorStart", "I", false)
  | 6 => ("PieceWords$Reader", "openedAt", "[I", true)
  | _ => ("PieceWords$Reader", "depth", "I", false)
def tyX1 : Nat → FieldType := fun k => match k with
  | 0 => .array (.object "PieceWords$Row")
  | 1 => .int
  | 2 => .array .int
  | 3 => .int
  | 4 => .boolean
  | 5 => .int
  | 6 => .array .int
  | _ => .int
abbrev wsX10 : List Cond := u_ws RX1 TX1 8
theorem nmX1 : ∀ a, a < 8 → ∀ b, b < 8 → a ≠ b → (TX1 a).2.1 ≠ (TX1 b).2.1 := by decide +kernel
theorem tyX1_ok : ∀ k, k < 8 → parseFieldDescriptor (TX1 k).2.2.1 = some (tyX1 k) := by decide +kernel
abbrev cX1_init : ByteArray := prog_3_method_1_code
def yX1_init : MethodName := ⟨RX1, "<init>", "()V"⟩
abbrev cX1_readAll : ByteArray := prog_3_method_2_code
def yX1_readAll : MethodName := ⟨RX1, "readAll", "(LPieceWords$Text;IZ)I"⟩
abbrev cX1_startWord : ByteArray := prog_3_method_3_code
def yX1_startWord : MethodName := ⟨RX1, "startWord", "()V"⟩
abbrev cX1_readByte : ByteArray := prog_3_method_4_code
def yX1_readByte : MethodName := ⟨RX1, "readByte", "(I)V"⟩
abbrev cX1_putRaw : ByteArray := prog_3_method_5_code
def yX1_putRaw : MethodName := ⟨RX1, "putRaw", "(I)V"⟩
abbrev cX1_repeatFactor : ByteArray := prog_3_method_6_code
def yX1_repeatFactor : MethodName := ⟨RX1, "repeatFactor", "(I)V"⟩
abbrev cX1_takeWord : ByteArray := prog_3_method_7_code
def yX1_takeWord : MethodName := ⟨RX1, "takeWord", "(IZ)Z"⟩
def RX2 : String := "PieceWords$Row"
def TX2 : u_T := fun k => match k with
  | 0 => ("PieceWords$Row", "letters", "[I", true)
  | _ => ("PieceWords$Row", "count", "I", false)
def tyX2 : Nat → FieldType := fun k => match k with
  | 0 => .array .int
  | _ => .int
abbrev wsX20 : List Cond := u_ws RX2 TX2 2
theorem nmX2 : ∀ a, a < 2 → ∀ b, b < 2 → a ≠ b → (TX2 a).2.1 ≠ (TX2 b).2.1 := by decide +kernel
theorem tyX2_ok : ∀ k, k < 2 → parseFieldDescriptor (TX2 k).2.2.1 = some (tyX2 k) := by decide +kernel
abbrev cX2_init : ByteArray := prog_4_method_1_code
def yX2_init : MethodName := ⟨RX2, "<init>", "(I)V"⟩
abbrev cX2_at : ByteArray := prog_4_method_2_code
def yX2_at : MethodName := ⟨RX2, "at", "(I)I"⟩
abbrev cX2_wipe : ByteArray := prog_4_method_3_code
def yX2_wipe : MethodName := ⟨RX2, "wipe", "()V"⟩
abbrev cX2_put : ByteArray := prog_4_method_4_code
def yX2_put : MethodName := ⟨RX2, "put", "(I)V"⟩
abbrev cX2_copy : ByteArray := prog_4_method_5_code
def yX2_copy : MethodName := ⟨RX2, "copy", "(LPieceWords$Row;)V"⟩
abbrev cX2_putRow : ByteArray := prog_4_method_6_code
def yX2_putRow : MethodName := ⟨RX2, "putRow", "(LPieceWords$Row;)V"⟩
abbrev cX2_putPart : ByteArray := prog_4_method_7_code
def yX2_putPart : MethodName := ⟨RX2, "putPart", "(LPieceWords$Row;II)V"⟩
abbrev cX2_putInverse : ByteArray := prog_4_method_8_code
def yX2_putInverse : MethodName := ⟨RX2, "putInverse", "(LPieceWords$Row;)V"⟩
abbrev cX2_putTurn : ByteArray := prog_4_method_9_code
def yX2_putTurn : MethodName := ⟨RX2, "putTurn", "(LPieceWords$Row;I)V"⟩
abbrev cX2_cutToRing : ByteArray := prog_4_method_10_code
def yX2_cutToRing : MethodName := ⟨RX2, "cutToRing", "()V"⟩
abbrev cX2_likeFrom : ByteArray := prog_4_method_11_code
def yX2_likeFrom : MethodName := ⟨RX2, "likeFrom", "(ILPieceWords$Row;)I"⟩
abbrev cX2_surplusOf : ByteArray := prog_4_method_12_code
def yX2_surplusOf : MethodName := ⟨RX2, "surplusOf", "(I)I"⟩
def RX3 : String := "PieceWords$Shortening"
def TX3 : u_T := fun k => match k with
  | 0 => ("PieceWords$Shortening", "members", "LPieceWords$Members;", true)
  | 1 => ("PieceWords$Shortening", "spare", "LPieceWords$Row;", true)
  | 2 => ("PieceWords$Shortening", "kind", "I", false)
  | 3 => ("PieceWords$Shortening", "place", "I", false)
  | 4 => ("PieceWords$Shortening", "member", "I", false)
  | 5 => ("PieceWords$Shortening", "matched", "I", false)
  | _ => ("PieceWords$Shortening", "saved", "I", false)
def tyX3 : Nat → FieldType := fun k => match k with
  | 0 => .object "PieceWords$Members"
  | 1 => .object "PieceWords$Row"
  | 2 => .int
  | 3 => .int
  | 4 => .int
  | 5 => .int
  | _ => .int
abbrev wsX30 : List Cond := u_ws RX3 TX3 7
theorem nmX3 : ∀ a, a < 7 → ∀ b, b < 7 → a ≠ b → (TX3 a).2.1 ≠ (TX3 b).2.1 := by decide +kernel
theorem tyX3_ok : ∀ k, k < 7 → parseFieldDescriptor (TX3 k).2.2.1 = some (tyX3 k) := by decide +kernel
abbrev cX3_init : ByteArray := prog_5_method_1_code
def yX3_init : MethodName := ⟨RX3, "<init>", "(LPieceWords$Members;)V"⟩
abbrev cX3_seek : ByteArray := prog_5_method_2_code
def yX3_seek : MethodName := ⟨RX3, "seek", "(LPieceWords$Row;)I"⟩
abbrev cX3_isBetter : ByteArray := prog_5_method_3_code
def yX3_isBetter : MethodName := ⟨RX3, "isBetter", "(III)Z"⟩
abbrev cX3_take : ByteArray := prog_5_method_4_code
def yX3_take : MethodName := ⟨RX3, "take", "(III)V"⟩
abbrev cX3_doCut : ByteArray := prog_5_method_5_code
def yX3_doCut : MethodName := ⟨RX3, "doCut", "(LPieceWords$Row;)V"⟩
abbrev cX3_doAll : ByteArray := prog_5_method_6_code
def yX3_doAll : MethodName := ⟨RX3, "doAll", "(LPieceWords$Row;)I"⟩
abbrev cX3_doThrough : ByteArray := prog_5_method_7_code
def yX3_doThrough : MethodName := ⟨RX3, "doThrough", "(LPieceWords$Row;I)Z"⟩
def RX4 : String := "PieceWords$Text"
def TX4 : u_T := fun k => match k with
  | 0 => ("PieceWords$Text", "bytes", "[I", true)
  | 1 => ("PieceWords$Text", "size", "I", false)
  | 2 => ("PieceWords$Text", "depth", "I", false)
  | 3 => ("PieceWords$Text", "filled", "Z", false)
  | 4 => ("PieceWords$Text", "factorJustEnded", "Z", false)
  | _ => ("PieceWords$Text", "wordEnded", "Z", false)
def tyX4 : Nat → FieldType := fun k => match k with
  | 0 => .array .int
  | 1 => .int
  | 2 => .int
  | 3 => .boolean
  | 4 => .boolean
  | _ => .boolean
abbrev wsX40 : List Cond := u_ws RX4 TX4 6
theorem nmX4 : ∀ a, a < 6 → ∀ b, b < 6 → a ≠ b → (TX4 a).2.1 ≠ (TX4 b).2.1 := by decide +kernel
theorem tyX4_ok : ∀ k, k < 6 → parseFieldDescriptor (TX4 k).2.2.1 = some (tyX4 k) := by decide +kernel
abbrev cX4_init : ByteArray := prog_6_method_1_code
def yX4_init : MethodName := ⟨RX4, "<init>", "()V"⟩
abbrev cX4_accept : ByteArray := prog_6_method_2_code
def yX4_accept : MethodName := ⟨RX4, "accept", "(I)Z"⟩
abbrev cX4_byteAt : ByteArray := prog_6_method_3_code
def yX4_byteAt : MethodName := ⟨RX4, "byteAt", "(I)I"⟩
abbrev cX4_wrongPlace : ByteArray := prog_6_method_4_code
def yX4_wrongPlace : MethodName := ⟨RX4, "wrongPlace", "()I"⟩
abbrev cX4_standsNext : ByteArray := prog_6_method_5_code
def yX4_standsNext : MethodName := ⟨RX4, "standsNext", "(I)Z"⟩
abbrev cX4_factorEnds : ByteArray := prog_6_method_6_code
def yX4_factorEnds : MethodName := ⟨RX4, "factorEnds", "()Z"⟩
abbrev cX4_bracketOpens : ByteArray := prog_6_method_7_code
def yX4_bracketOpens : MethodName := ⟨RX4, "bracketOpens", "()Z"⟩
abbrev cX4_bracketCloses : ByteArray := prog_6_method_8_code
def yX4_bracketCloses : MethodName := ⟨RX4, "bracketCloses", "()Z"⟩
abbrev cX4_wordEnds : ByteArray := prog_6_method_9_code
def yX4_wordEnds : MethodName := ⟨RX4, "wordEnds", "()Z"⟩
abbrev cX4_letterFor : ByteArray := prog_6_method_10_code
def yX4_letterFor : MethodName := ⟨RX4, "letterFor", "(I)I"⟩
abbrev cX4_figureFor : ByteArray := prog_6_method_11_code
def yX4_figureFor : MethodName := ⟨RX4, "figureFor", "(I)I"⟩
def RX5 : String := "PieceWords"
def TX5 : u_T := fun k => match k with
  | 0 => ("PieceWords", "row", "[LPieceWords$Row;", true)
  | 1 => ("PieceWords", "text", "LPieceWords$Text;", true)
  | 2 => ("PieceWords", "reader", "LPieceWords$Reader;", true)
  | 3 => ("PieceWords", "members", "LPieceWords$Members;", true)
  | 4 => ("PieceWords", "shortening", "LPieceWords$Shortening;", true)
  | 5 => ("PieceWords", "made", "LPieceWords$Row;", true)
  | 6 => ("PieceWords", "ringOfA", "LPieceWords$Row;", true)
  | 7 => ("PieceWords", "ringOfB", "LPieceWords$Row;", true)
  | 8 => ("PieceWords", "bads", "I", false)
  | 9 => ("PieceWords", "noes", "I", false)
  | _ => ("PieceWords", "fulls", "I", false)
def tyX5 : Nat → FieldType := fun k => match k with
  | 0 => .array (.object "PieceWords$Row")
  | 1 => .object "PieceWords$Text"
  | 2 => .object "PieceWords$Reader"
  | 3 => .object "PieceWords$Members"
  | 4 => .object "PieceWords$Shortening"
  | 5 => .object "PieceWords$Row"
  | 6 => .object "PieceWords$Row"
  | 7 => .object "PieceWords$Row"
  | 8 => .int
  | 9 => .int
  | _ => .int
abbrev wsX50 : List Cond := u_ws RX5 TX5 11
theorem nmX5 : ∀ a, a < 11 → ∀ b, b < 11 → a ≠ b → (TX5 a).2.1 ≠ (TX5 b).2.1 := by decide +kernel
theorem tyX5_ok : ∀ k, k < 11 → parseFieldDescriptor (TX5 k).2.2.1 = some (tyX5 k) := by decide +kernel
abbrev cX5_init : ByteArray := prog_1_method_1_code
def yX5_init : MethodName := ⟨RX5, "<init>", "()V"⟩
abbrev cX5_type : ByteArray := prog_1_method_2_code
def yX5_type : MethodName := ⟨RX5, "type", "(I)I"⟩
abbrev cX5_clear : ByteArray := prog_1_method_3_code
def yX5_clear : MethodName := ⟨RX5, "clear", "()I"⟩
abbrev cX5_relators : ByteArray := prog_1_method_4_code
def yX5_relators : MethodName := ⟨RX5, "relators", "()I"⟩
abbrev cX5_words : ByteArray := prog_1_method_5_code
def yX5_words : MethodName := ⟨RX5, "words", "(I)I"⟩
abbrev cX5_chooser : ByteArray := prog_1_method_6_code
def yX5_chooser : MethodName := ⟨RX5, "chooser", "(I)I"⟩
abbrev cX5_relator : ByteArray := prog_1_method_7_code
def yX5_relator : MethodName := ⟨RX5, "relator", "(II)I"⟩
abbrev cX5_member : ByteArray := prog_1_method_8_code
def yX5_member : MethodName := ⟨RX5, "member", "(II)I"⟩
abbrev cX5_good : ByteArray := prog_1_method_9_code
def yX5_good : MethodName := ⟨RX5, "good", "(I)I"⟩
abbrev cX5_alike : ByteArray := prog_1_method_10_code
def yX5_alike : MethodName := ⟨RX5, "alike", "(II)I"⟩
abbrev cX5_rank : ByteArray := prog_1_method_11_code
def yX5_rank : MethodName := ⟨RX5, "rank", "(I)I"⟩
abbrev cX5_length : ByteArray := prog_1_method_12_code
def yX5_length : MethodName := ⟨RX5, "length", "(I)I"⟩
abbrev cX5_letter : ByteArray := prog_1_method_13_code
def yX5_letter : MethodName := ⟨RX5, "letter", "(II)I"⟩
abbrev cX5_adds : ByteArray := prog_1_method_14_code
def yX5_adds : MethodName := ⟨RX5, "adds", "(II)I"⟩
abbrev cX5_times : ByteArray := prog_1_method_15_code
def yX5_times : MethodName := ⟨RX5, "times", "(III)I"⟩
abbrev cX5_inverse : ByteArray := prog_1_method_16_code
def yX5_inverse : MethodName := ⟨RX5, "inverse", "(II)I"⟩
abbrev cX5_power : ByteArray := prog_1_method_17_code
def yX5_power : MethodName := ⟨RX5, "power", "(III)I"⟩
abbrev cX5_ring : ByteArray := prog_1_method_18_code
def yX5_ring : MethodName := ⟨RX5, "ring", "(II)I"⟩
abbrev cX5_turn : ByteArray := prog_1_method_19_code
def yX5_turn : MethodName := ⟨RX5, "turn", "(III)I"⟩
abbrev cX5_sum : ByteArray := prog_1_method_20_code
def yX5_sum : MethodName := ⟨RX5, "sum", "(II)I"⟩
abbrev cX5_cuts : ByteArray := prog_1_method_21_code
def yX5_cuts : MethodName := ⟨RX5, "cuts", "(I)I"⟩
abbrev cX5_cut : ByteArray := prog_1_method_22_code
def yX5_cut : MethodName := ⟨RX5, "cut", "(I)I"⟩
abbrev cX5_shorten : ByteArray := prog_1_method_23_code
def yX5_shorten : MethodName := ⟨RX5, "shorten", "(I)I"⟩
abbrev cX5_trail : ByteArray := prog_1_method_24_code
def yX5_trail : MethodName := ⟨RX5, "trail", "(III)I"⟩
abbrev cX5_nothing : ByteArray := prog_1_method_25_code
def yX5_nothing : MethodName := ⟨RX5, "nothing", "(I)I"⟩
abbrev cX5_same : ByteArray := prog_1_method_26_code
def yX5_same : MethodName := ⟨RX5, "same", "(II)I"⟩
abbrev cX5_order : ByteArray := prog_1_method_27_code
def yX5_order : MethodName := ⟨RX5, "order", "(I)I"⟩
abbrev cX5_turned : ByteArray := prog_1_method_28_code
def yX5_turned : MethodName := ⟨RX5, "turned", "(II)I"⟩
abbrev cX5_nothings : ByteArray := prog_1_method_29_code
def yX5_nothings : MethodName := ⟨RX5, "nothings", "(I)I"⟩
abbrev cX5_draw : ByteArray := prog_1_method_30_code
def yX5_draw : MethodName := ⟨RX5, "draw", "(III)I"⟩
abbrev cX5_loops : ByteArray := prog_1_method_31_code
def yX5_loops : MethodName := ⟨RX5, "loops", "(III)I"⟩
abbrev cX5_told : ByteArray := prog_1_method_32_code
def yX5_told : MethodName := ⟨RX5, "told", "(I)I"⟩
abbrev cX5_digest : ByteArray := prog_1_method_33_code
def yX5_digest : MethodName := ⟨RX5, "digest", "()J"⟩
abbrev cX5_isWord : ByteArray := prog_1_method_34_code
def yX5_isWord : MethodName := ⟨RX5, "isWord", "(I)Z"⟩
abbrev cX5_refuse : ByteArray := prog_1_method_35_code
def yX5_refuse : MethodName := ⟨RX5, "refuse", "(I)I"⟩
abbrev cX5_keep : ByteArray := prog_1_method_36_code
def yX5_keep : MethodName := ⟨RX5, "keep", "(I)I"⟩
abbrev cX5_readText : ByteArray := prog_1_method_37_code
def yX5_readText : MethodName := ⟨RX5, "readText", "(IZ)I"⟩
abbrev cX5_makePower : ByteArray := prog_1_method_38_code
def yX5_makePower : MethodName := ⟨RX5, "makePower", "(II)V"⟩
abbrev cX5_someBeginningTurns : ByteArray := prog_1_method_39_code
def yX5_someBeginningTurns : MethodName := ⟨RX5, "someBeginningTurns", "(II)Z"⟩
abbrev cX5_beginningTurns : ByteArray := prog_1_method_40_code
def yX5_beginningTurns : MethodName := ⟨RX5, "beginningTurns", "(III)Z"⟩
abbrev cX5_putLoop : ByteArray := prog_1_method_41_code
def yX5_putLoop : MethodName := ⟨RX5, "putLoop", "(II)V"⟩
abbrev cX5_tell : ByteArray := prog_1_method_42_code
def yX5_tell : MethodName := ⟨RX5, "tell", "(I)I"⟩
abbrev cX5_lettersOfAll : ByteArray := prog_1_method_43_code
def yX5_lettersOfAll : MethodName := ⟨RX5, "lettersOfAll", "()I"⟩
abbrev cX5_digestOf : ByteArray := prog_1_method_44_code
def yX5_digestOf : MethodName := ⟨RX5, "digestOf", "(LPieceWords$Row;J)J"⟩
abbrev cX5_nextDraw : ByteArray := prog_1_method_45_code
def yX5_nextDraw : MethodName := ⟨RX5, "nextDraw", "(J)J"⟩
abbrev cX5_opposite : ByteArray := prog_1_method_46_code
def yX5_opposite : MethodName := ⟨RX5, "opposite", "(I)I"⟩
def RX6 : String := "PieceWordsModel"
def TX6 : u_T := fun k => match k with
  | 0 => ("PieceWordsModel", "relators", "[I", true)
  | 1 => ("PieceWordsModel", "relatorLong", "[I", true)
  | 2 => ("PieceWordsModel", "relatorMany", "I", false)
  | 3 => ("PieceWordsModel", "members", "[I", true)
  | 4 => ("PieceWordsModel", "memberLong", "[I", true)
  | 5 => ("PieceWordsModel", "memberBy", "[I", true)
  | 6 => ("PieceWordsModel", "memberMany", "I", false)
  | 7 => ("PieceWordsModel", "words", "[I", true)
  | 8 => ("PieceWordsModel", "wordLong", "[I", true)
  | 9 => ("PieceWordsModel", "refused", "[I", true)
  | 10 => ("PieceWordsModel", "kind", "I", false)
  | 11 => ("PieceWordsModel", "hand", "[I", true)
  | 12 => ("PieceWordsModel", "handLong", "I", false)
  | 13 => ("PieceWordsModel", "matrix", "[I", true)
  | 14 => ("PieceWordsModel", "cutAt", "I", false)
  | 15 => ("PieceWordsModel", "cutBy", "I", false)
  | 16 => ("PieceWordsModel", "cutLong", "I", false)
  | 17 => ("PieceWordsModel", "cutMany", "I", false)
  | 18 => ("PieceWordsModel", "behind", "[I", true)
  | 19 => ("PieceWordsModel", "ringA", "[I", true)
  | 20 => ("PieceWordsModel", "ringB", "[I", true)
  | 21 => ("PieceWordsModel", "longA", "I", false)
  | 22 => ("PieceWordsModel", "longB", "I", false)
  | 23 => ("PieceWordsModel", "text", "[I", true)
  | 24 => ("PieceWordsModel", "textLong", "I", false)
  | 25 => ("PieceWordsModel", "wordsTold", "I", false)
  | 26 => ("PieceWordsModel", "starts", "[I", true)
  | 27 => ("PieceWordsModel", "row", "[I", true)
  | 28 => ("PieceWordsModel", "rowLong", "I", false)
  | 29 => ("PieceWordsModel", "place", "I", false)
  | 30 => ("PieceWordsModel", "told", "[I", true)
  | _ => ("PieceWordsModel", "toldLong", "[I", true)
def tyX6 : Nat → FieldType := fun k => match k with
  | 0 => .array .int
  | 1 => .array .int
  | 2 => .int
  | 3 => .array .int
  | 4 => .array .int
  | 5 => .array .int
  | 6 => .int
  | 7 => .array .int
  | 8 => .array .int
  | 9 => .array .int
  | 10 => .int
  | 11 => .array .int
  | 12 => .int
  | 13 => .array .int
  | 14 => .int
  | 15 => .int
  | 16 => .int
  | 17 => .int
  | 18 => .array .int
  | 19 => .array .int
  | 20 => .array .int
  | 21 => .int
  | 22 => .int
  | 23 => .array .int
  | 24 => .int
  | 25 => .int
  | 26 => .array .int
  | 27 => .array .int
  | 28 => .int
  | 29 => .int
  | 30 => .array .int
  | _ => .array .int
abbrev wsX60 : List Cond := u_ws RX6 TX6 32
theorem nmX6 : ∀ a, a < 32 → ∀ b, b < 32 → a ≠ b → (TX6 a).2.1 ≠ (TX6 b).2.1 := by decide +kernel
theorem tyX6_ok : ∀ k, k < 32 → parseFieldDescriptor (TX6 k).2.2.1 = some (tyX6 k) := by decide +kernel
abbrev cX6_init : ByteArray := prog_8_method_1_code
def yX6_init : MethodName := ⟨RX6, "<init>", "()V"⟩
abbrev cX6_in : ByteArray := prog_8_method_3_code
def yX6_in : MethodName := ⟨RX6, "in", "(JJJ)Z"⟩
abbrev cX6_bad : ByteArray := prog_8_method_4_code
def yX6_bad : MethodName := ⟨RX6, "bad", "()I"⟩
abbrev cX6_no : ByteArray := prog_8_method_5_code
def yX6_no : MethodName := ⟨RX6, "no", "()I"⟩
abbrev cX6_full : ByteArray := prog_8_method_6_code
def yX6_full : MethodName := ⟨RX6, "full", "()I"⟩
abbrev cX6_isWord : ByteArray := prog_8_method_7_code
def yX6_isWord : MethodName := ⟨RX6, "isWord", "(I)Z"⟩
abbrev cX6_isLetter : ByteArray := prog_8_method_8_code
def yX6_isLetter : MethodName := ⟨RX6, "isLetter", "(I)Z"⟩
abbrev cX6_opposite : ByteArray := prog_8_method_9_code
def yX6_opposite : MethodName := ⟨RX6, "opposite", "(I)I"⟩
abbrev cX6_push : ByteArray := prog_8_method_10_code
def yX6_push : MethodName := ⟨RX6, "push", "(I)V"⟩
abbrev cX6_pushWord : ByteArray := prog_8_method_11_code
def yX6_pushWord : MethodName := ⟨RX6, "pushWord", "(I)V"⟩
abbrev cX6_pushInverse : ByteArray := prog_8_method_12_code
def yX6_pushInverse : MethodName := ⟨RX6, "pushInverse", "(I)V"⟩
abbrev cX6_handWord : ByteArray := prog_8_method_13_code
def yX6_handWord : MethodName := ⟨RX6, "handWord", "(I)V"⟩
abbrev cX6_layWord : ByteArray := prog_8_method_14_code
def yX6_layWord : MethodName := ⟨RX6, "layWord", "(I)I"⟩
abbrev cX6_layIfFits : ByteArray := prog_8_method_15_code
def yX6_layIfFits : MethodName := ⟨RX6, "layIfFits", "(I)I"⟩
abbrev cX6_ringHand : ByteArray := prog_8_method_16_code
def yX6_ringHand : MethodName := ⟨RX6, "ringHand", "()V"⟩
abbrev cX6_relatorLetter : ByteArray := prog_8_method_17_code
def yX6_relatorLetter : MethodName := ⟨RX6, "relatorLetter", "(IIIZ)I"⟩
abbrev cX6_isTurn : ByteArray := prog_8_method_18_code
def yX6_isTurn : MethodName := ⟨RX6, "isTurn", "(IIIZ)Z"⟩
abbrev cX6_isListed : ByteArray := prog_8_method_19_code
def yX6_isListed : MethodName := ⟨RX6, "isListed", "(IIZ)Z"⟩
abbrev cX6_listTurns : ByteArray := prog_8_method_20_code
def yX6_listTurns : MethodName := ⟨RX6, "listTurns", "(IZ)V"⟩
abbrev cX6_listMembers : ByteArray := prog_8_method_21_code
def yX6_listMembers : MethodName := ⟨RX6, "listMembers", "()V"⟩
abbrev cX6_isMember : ByteArray := prog_8_method_22_code
def yX6_isMember : MethodName := ⟨RX6, "isMember", "(I)Z"⟩
abbrev cX6_isRelator : ByteArray := prog_8_method_23_code
def yX6_isRelator : MethodName := ⟨RX6, "isRelator", "(I)Z"⟩
abbrev cX6_beginAlike : ByteArray := prog_8_method_24_code
def yX6_beginAlike : MethodName := ⟨RX6, "beginAlike", "(II)I"⟩
abbrev cX6_isOf : ByteArray := prog_8_method_25_code
def yX6_isOf : MethodName := ⟨RX6, "isOf", "(II)Z"⟩
abbrev cX6_pieceOf : ByteArray := prog_8_method_26_code
def yX6_pieceOf : MethodName := ⟨RX6, "pieceOf", "(I)I"⟩
abbrev cX6_isGood : ByteArray := prog_8_method_27_code
def yX6_isGood : MethodName := ⟨RX6, "isGood", "(I)Z"⟩
abbrev cX6_relator : ByteArray := prog_8_method_28_code
def yX6_relator : MethodName := ⟨RX6, "relator", "(II)I"⟩
abbrev cX6_member : ByteArray := prog_8_method_29_code
def yX6_member : MethodName := ⟨RX6, "member", "(II)I"⟩
abbrev cX6_good : ByteArray := prog_8_method_30_code
def yX6_good : MethodName := ⟨RX6, "good", "(I)I"⟩
abbrev cX6_alike : ByteArray := prog_8_method_31_code
def yX6_alike : MethodName := ⟨RX6, "alike", "(II)I"⟩
abbrev cX6_layMatrix : ByteArray := prog_8_method_32_code
def yX6_layMatrix : MethodName := ⟨RX6, "layMatrix", "(I)V"⟩
abbrev cX6_swapRows : ByteArray := prog_8_method_33_code
def yX6_swapRows : MethodName := ⟨RX6, "swapRows", "(II)V"⟩
abbrev cX6_rank : ByteArray := prog_8_method_34_code
def yX6_rank : MethodName := ⟨RX6, "rank", "(I)I"⟩
abbrev cX6_chooser : ByteArray := prog_8_method_35_code
def yX6_chooser : MethodName := ⟨RX6, "chooser", "(I)I"⟩
abbrev cX6_length : ByteArray := prog_8_method_36_code
def yX6_length : MethodName := ⟨RX6, "length", "(I)I"⟩
abbrev cX6_letter : ByteArray := prog_8_method_37_code
def yX6_letter : MethodName := ⟨RX6, "letter", "(II)I"⟩
abbrev cX6_adds : ByteArray := prog_8_method_38_code
def yX6_adds : MethodName := ⟨RX6, "adds", "(II)I"⟩
abbrev cX6_times : ByteArray := prog_8_method_39_code
def yX6_times : MethodName := ⟨RX6, "times", "(III)I"⟩
abbrev cX6_inverse : ByteArray := prog_8_method_40_code
def yX6_inverse : MethodName := ⟨RX6, "inverse", "(II)I"⟩
abbrev cX6_power : ByteArray := prog_8_method_41_code
def yX6_power : MethodName := ⟨RX6, "power", "(III)I"⟩
abbrev cX6_ring : ByteArray := prog_8_method_42_code
def yX6_ring : MethodName := ⟨RX6, "ring", "(II)I"⟩
abbrev cX6_turn : ByteArray := prog_8_method_43_code
def yX6_turn : MethodName := ⟨RX6, "turn", "(III)I"⟩
abbrev cX6_sum : ByteArray := prog_8_method_44_code
def yX6_sum : MethodName := ⟨RX6, "sum", "(II)I"⟩
abbrev cX6_matches : ByteArray := prog_8_method_45_code
def yX6_matches : MethodName := ⟨RX6, "matches", "(II)I"⟩
abbrev cX6_saves : ByteArray := prog_8_method_46_code
def yX6_saves : MethodName := ⟨RX6, "saves", "(II)I"⟩
abbrev cX6_isBetter : ByteArray := prog_8_method_47_code
def yX6_isBetter : MethodName := ⟨RX6, "isBetter", "(III)Z"⟩
abbrev cX6_findCut : ByteArray := prog_8_method_48_code
def yX6_findCut : MethodName := ⟨RX6, "findCut", "()V"⟩
abbrev cX6_doCut : ByteArray := prog_8_method_49_code
def yX6_doCut : MethodName := ⟨RX6, "doCut", "()V"⟩
abbrev cX6_shortenHand : ByteArray := prog_8_method_50_code
def yX6_shortenHand : MethodName := ⟨RX6, "shortenHand", "(I)I"⟩
abbrev cX6_isNothing : ByteArray := prog_8_method_51_code
def yX6_isNothing : MethodName := ⟨RX6, "isNothing", "()Z"⟩
abbrev cX6_cuts : ByteArray := prog_8_method_52_code
def yX6_cuts : MethodName := ⟨RX6, "cuts", "(I)I"⟩
abbrev cX6_cut : ByteArray := prog_8_method_53_code
def yX6_cut : MethodName := ⟨RX6, "cut", "(I)I"⟩
abbrev cX6_shorten : ByteArray := prog_8_method_54_code
def yX6_shorten : MethodName := ⟨RX6, "shorten", "(I)I"⟩
abbrev cX6_trail : ByteArray := prog_8_method_55_code
def yX6_trail : MethodName := ⟨RX6, "trail", "(III)I"⟩
abbrev cX6_nothing : ByteArray := prog_8_method_56_code
def yX6_nothing : MethodName := ⟨RX6, "nothing", "(I)I"⟩
abbrev cX6_same : ByteArray := prog_8_method_57_code
def yX6_same : MethodName := ⟨RX6, "same", "(II)I"⟩
abbrev cX6_order : ByteArray := prog_8_method_58_code
def yX6_order : MethodName := ⟨RX6, "order", "(I)I"⟩
abbrev cX6_layRings : ByteArray := prog_8_method_59_code
def yX6_layRings : MethodName := ⟨RX6, "layRings", "(II)V"⟩
abbrev cX6_turnsBy : ByteArray := prog_8_method_60_code
def yX6_turnsBy : MethodName := ⟨RX6, "turnsBy", "(III)Z"⟩
abbrev cX6_turned : ByteArray := prog_8_method_61_code
def yX6_turned : MethodName := ⟨RX6, "turned", "(II)I"⟩
abbrev cX6_nothings : ByteArray := prog_8_method_62_code
def yX6_nothings : MethodName := ⟨RX6, "nothings", "(I)I"⟩
abbrev cX6_drawn : ByteArray := prog_8_method_63_code
def yX6_drawn : MethodName := ⟨RX6, "drawn", "(J)J"⟩
abbrev cX6_draw : ByteArray := prog_8_method_64_code
def yX6_draw : MethodName := ⟨RX6, "draw", "(III)I"⟩
abbrev cX6_loops : ByteArray := prog_8_method_65_code
def yX6_loops : MethodName := ⟨RX6, "loops", "(III)I"⟩
abbrev cX6_type : ByteArray := prog_8_method_66_code
def yX6_type : MethodName := ⟨RX6, "type", "(I)I"⟩
abbrev cX6_clear : ByteArray := prog_8_method_67_code
def yX6_clear : MethodName := ⟨RX6, "clear", "()I"⟩
abbrev cX6_isBlank : ByteArray := prog_8_method_68_code
def yX6_isBlank : MethodName := ⟨RX6, "isBlank", "(I)Z"⟩
abbrev cX6_letterBy : ByteArray := prog_8_method_69_code
def yX6_letterBy : MethodName := ⟨RX6, "letterBy", "(I)I"⟩
abbrev cX6_isFigure : ByteArray := prog_8_method_70_code
def yX6_isFigure : MethodName := ⟨RX6, "isFigure", "(I)Z"⟩
abbrev cX6_syntax : ByteArray := prog_8_method_71_code
def yX6_syntax : MethodName := ⟨RX6, "syntax", "()I"⟩
abbrev cX6_put : ByteArray := prog_8_method_72_code
def yX6_put : MethodName := ⟨RX6, "put", "(I)V"⟩
abbrev cX6_repeat : ByteArray := prog_8_method_73_code
def yX6_repeat : MethodName := ⟨RX6, "repeat", "(II)V"⟩
abbrev cX6_tellWord : ByteArray := prog_8_method_74_code
def yX6_tellWord : MethodName := ⟨RX6, "tellWord", "()V"⟩
abbrev cX6_skip : ByteArray := prog_8_method_75_code
def yX6_skip : MethodName := ⟨RX6, "skip", "()V"⟩
abbrev cX6_tellWords : ByteArray := prog_8_method_76_code
def yX6_tellWords : MethodName := ⟨RX6, "tellWords", "(IZ)I"⟩
abbrev cX6_relators : ByteArray := prog_8_method_77_code
def yX6_relators : MethodName := ⟨RX6, "relators", "()I"⟩
abbrev cX6_words : ByteArray := prog_8_method_78_code
def yX6_words : MethodName := ⟨RX6, "words", "(I)I"⟩
abbrev cX6_lettersOfAll : ByteArray := prog_8_method_79_code
def yX6_lettersOfAll : MethodName := ⟨RX6, "lettersOfAll", "()I"⟩
abbrev cX6_toldOf : ByteArray := prog_8_method_80_code
def yX6_toldOf : MethodName := ⟨RX6, "toldOf", "(I)I"⟩
abbrev cX6_told : ByteArray := prog_8_method_81_code
def yX6_told : MethodName := ⟨RX6, "told", "(I)I"⟩
abbrev cX6_sums : ByteArray := prog_8_method_82_code
def yX6_sums : MethodName := ⟨RX6, "sums", "(J[III)J"⟩
abbrev cX6_digest : ByteArray := prog_8_method_83_code
def yX6_digest : MethodName := ⟨RX6, "digest", "()J"⟩
def RJ9 : String := "java/lang/Math"
def TJ9 : u_T := fun k => match k with
  | _ => ("", "", "", false)
def tyJ9 : Nat → FieldType := fun k => match k with
  | _ => .int
abbrev wsJ90 : List Cond := u_ws RJ9 TJ9 0
theorem nmJ9 : ∀ a, a < 0 → ∀ b, b < 0 → a ≠ b → (TJ9 a).2.1 ≠ (TJ9 b).2.1 := by decide +kernel
theorem tyJ9_ok : ∀ k, k < 0 → parseFieldDescriptor (TJ9 k).2.2.1 = some (tyJ9 k) := by decide +kernel
abbrev cJ9_floorMod_7cf53 : ByteArray := prog_9_method_50_code
def yJ9_floorMod_7cf53 : MethodName := ⟨RJ9, "floorMod", "(II)I"⟩
abbrev cJ9_abs_0f7a4 : ByteArray := prog_9_method_59_code
def yJ9_abs_0f7a4 : MethodName := ⟨RJ9, "abs", "(I)I"⟩
abbrev cJ9_max_7cf53 : ByteArray := prog_9_method_65_code
def yJ9_max_7cf53 : MethodName := ⟨RJ9, "max", "(II)I"⟩
abbrev cJ9_min_7cf53 : ByteArray := prog_9_method_69_code
def yJ9_min_7cf53 : MethodName := ⟨RJ9, "min", "(II)I"⟩
def RL : String := "PieceWordsLaw"
abbrev cL_law : ByteArray := code
def yL_law : MethodName := ⟨RL, "law", "([I)Z"⟩
abbrev vwCl : List vw_C := [(RX0, TX0, 13), (RX1, TX1, 8), (RX2, TX2, 2), (RX3, TX3, 7), (RX4, TX4, 6), (RX5, TX5, 11), (RX6, TX6, 32)]
end
section
/-! ===== the good words of the tables, each by its place ===== -/
def ww_ws : List Cond := lw_tbl.filter goodWord
theorem ww_allgood : ww_ws.all goodWord = true := List.all_eq_true.mpr (fun _ h => (List.mem_filter.mp h).2)
theorem ww_t0 {w : Cond} (h : w ∈ tables_1) (hg : goodWord w = true) : w ∈ ww_ws := List.mem_filter.mpr ⟨List.mem_append_right _ h, hg⟩
theorem ww_t1 {w : Cond} (i : Nat) (h : tables_1_1[i]? = some w) (hg : goodWord w = true) : w ∈ ww_ws := ww_t0 (List.mem_append_left _ (List.mem_of_getElem? h)) hg
theorem ww_t2 {w : Cond} (i : Nat) (h : tables_1_2[i]? = some w) (hg : goodWord w = true) : w ∈ ww_ws := ww_t0 (List.mem_append_right _ (List.mem_append_left _ (List.mem_of_getElem? h))) hg
theorem ww_t3 {w : Cond} (i : Nat) (h : tables_1_3[i]? = some w) (hg : goodWord w = true) : w ∈ ww_ws := ww_t0 (List.mem_append_right _ (List.mem_append_right _ (List.mem_append_left _ (List.mem_of_getElem? h)))) hg
theorem ww_t4 {w : Cond} (i : Nat) (h : tables_1_4[i]? = some w) (hg : goodWord w = true) : w ∈ ww_ws := ww_t0 (List.mem_append_right _ (List.mem_append_right _ (List.mem_append_right _ (List.mem_append_left _ (List.mem_of_getElem? h))))) hg
theorem ww_t5 {w : Cond} (i : Nat) (h : tables_1_5[i]? = some w) (hg : goodWord w = true) : w ∈ ww_ws := ww_t0 (List.mem_append_right _ (List.mem_append_right _ (List.mem_append_right _ (List.mem_append_right _ (List.mem_of_getElem? h))))) hg
theorem ww_s0 {q : MethodName × Nat} (h : q ∈ lw_privs) (hg : goodWord (Cond.selects q.1.cls q.1 q.1) = true) : Cond.selects q.1.cls q.1 q.1 ∈ ww_ws := List.mem_filter.mpr ⟨List.mem_append_left _ (List.mem_map.mpr ⟨q, h, rfl⟩), hg⟩
theorem ww_s1 (y : MethodName) (n i : Nat) (h : lw_privs_1[i]? = some (y, n)) (hg : goodWord (Cond.selects y.cls y y) = true) : Cond.selects y.cls y y ∈ ww_ws := ww_s0 (q := (y, n)) (List.mem_append_left _ (List.mem_of_getElem? h)) hg
theorem ww_s2 (y : MethodName) (n i : Nat) (h : lw_privs_2[i]? = some (y, n)) (hg : goodWord (Cond.selects y.cls y y) = true) : Cond.selects y.cls y y ∈ ww_ws := ww_s0 (q := (y, n)) (List.mem_append_right _ (List.mem_append_left _ (List.mem_of_getElem? h))) hg
theorem ww_s3 (y : MethodName) (n i : Nat) (h : lw_privs_3[i]? = some (y, n)) (hg : goodWord (Cond.selects y.cls y y) = true) : Cond.selects y.cls y y ∈ ww_ws := ww_s0 (q := (y, n)) (List.mem_append_right _ (List.mem_append_right _ (List.mem_append_left _ (List.mem_of_getElem? h)))) hg
theorem ww_s4 (y : MethodName) (n i : Nat) (h : lw_privs_4[i]? = some (y, n)) (hg : goodWord (Cond.selects y.cls y y) = true) : Cond.selects y.cls y y ∈ ww_ws := ww_s0 (q := (y, n)) (List.mem_append_right _ (List.mem_append_right _ (List.mem_append_right _ (List.mem_append_left _ (List.mem_of_getElem? h))))) hg
theorem ww_s5 (y : MethodName) (n i : Nat) (h : lw_privs_5[i]? = some (y, n)) (hg : goodWord (Cond.selects y.cls y y) = true) : Cond.selects y.cls y y ∈ ww_ws := ww_s0 (q := (y, n)) (List.mem_append_right _ (List.mem_append_right _ (List.mem_append_right _ (List.mem_append_right _ (List.mem_of_getElem? h))))) hg
theorem wi_X0 : Cond.initialized RX0 ∈ ww_ws := ww_t1 6 rfl rfl
theorem wi_X1 : Cond.initialized RX1 ∈ ww_ws := ww_t1 5 rfl rfl
theorem wi_X2 : Cond.initialized RX2 ∈ ww_ws := ww_t1 2 rfl rfl
theorem wi_X3 : Cond.initialized RX3 ∈ ww_ws := ww_t1 7 rfl rfl
theorem wi_X4 : Cond.initialized RX4 ∈ ww_ws := ww_t1 4 rfl rfl
theorem wi_X5 : Cond.initialized RX5 ∈ ww_ws := ww_t1 1 rfl rfl
theorem wi_X6 : Cond.initialized RX6 ∈ ww_ws := ww_t1 8 rfl rfl
theorem wi_J9 : Cond.initialized RJ9 ∈ ww_ws := ww_t1 3 rfl rfl
theorem wc_X0_init : Cond.code yX0_init cX0_init 2 none ∈ ww_ws := ww_t1 107 rfl rfl
theorem wn_X0_init : Cond.instanceMethod yX0_init ∈ ww_ws := ww_t1 106 rfl rfl
theorem wp_X0_init : yX0_init.cls ≠ "java/lang/invoke/MethodHandle" ∧ yX0_init.cls ≠ "java/lang/invoke/VarHandle" ∧ (parseMethodDescriptor yX0_init.desc).map (fun d => d.parameters.length) = some 0 := by decide +kernel
theorem wc_X0_become : Cond.code yX0_become cX0_become 3 none ∈ ww_ws := ww_t2 94 rfl rfl
theorem wn_X0_become : Cond.instanceMethod yX0_become ∈ ww_ws := ww_t2 92 rfl rfl
theorem we_X0_become : Cond.selects RX0 yX0_become yX0_become ∈ ww_ws := ww_t2 93 rfl rfl
theorem wp_X0_become : yX0_become.cls ≠ "java/lang/invoke/MethodHandle" ∧ yX0_become.cls ≠ "java/lang/invoke/VarHandle" ∧ (parseMethodDescriptor yX0_become.desc).map (fun d => d.parameters.length) = some 1 := by decide +kernel
theorem wc_X0_addTurns : Cond.code yX0_addTurns cX0_addTurns 6 none ∈ ww_ws := ww_t2 106 rfl rfl
theorem wn_X0_addTurns : Cond.instanceMethod yX0_addTurns ∈ ww_ws := ww_t2 105 rfl rfl
theorem we_X0_addTurns : Cond.selects RX0 yX0_addTurns yX0_addTurns ∈ ww_ws := ww_s1 yX0_addTurns 13 12 rfl rfl
theorem wp_X0_addTurns : yX0_addTurns.cls ≠ "java/lang/invoke/MethodHandle" ∧ yX0_addTurns.cls ≠ "java/lang/invoke/VarHandle" ∧ (parseMethodDescriptor yX0_addTurns.desc).map (fun d => d.parameters.length) = some 2 := by decide +kernel
theorem wc_X0_earlierLike : Cond.code yX0_earlierLike cX0_earlierLike 3 (some .int) ∈ ww_ws := ww_t2 120 rfl rfl
theorem wn_X0_earlierLike : Cond.instanceMethod yX0_earlierLike ∈ ww_ws := ww_t2 119 rfl rfl
theorem we_X0_earlierLike : Cond.selects RX0 yX0_earlierLike yX0_earlierLike ∈ ww_ws := ww_s1 yX0_earlierLike 13 13 rfl rfl
theorem wp_X0_earlierLike : yX0_earlierLike.cls ≠ "java/lang/invoke/MethodHandle" ∧ yX0_earlierLike.cls ≠ "java/lang/invoke/VarHandle" ∧ (parseMethodDescriptor yX0_earlierLike.desc).map (fun d => d.parameters.length) = some 1 := by decide +kernel
theorem wc_X0_listByFirstLetter : Cond.code yX0_listByFirstLetter cX0_listByFirstLetter 2 none ∈ ww_ws := ww_t2 137 rfl rfl
theorem wn_X0_listByFirstLetter : Cond.instanceMethod yX0_listByFirstLetter ∈ ww_ws := ww_t2 136 rfl rfl
theorem we_X0_listByFirstLetter : Cond.selects RX0 yX0_listByFirstLetter yX0_listByFirstLetter ∈ ww_ws := ww_s1 yX0_listByFirstLetter 13 14 rfl rfl
theorem wp_X0_listByFirstLetter : yX0_listByFirstLetter.cls ≠ "java/lang/invoke/MethodHandle" ∧ yX0_listByFirstLetter.cls ≠ "java/lang/invoke/VarHandle" ∧ (parseMethodDescriptor yX0_listByFirstLetter.desc).map (fun d => d.parameters.length) = some 1 := by decide +kernel
theorem wc_X0_measure : Cond.code yX0_measure cX0_measure 4 none ∈ ww_ws := ww_t2 145 rfl rfl
theorem wn_X0_measure : Cond.instanceMethod yX0_measure ∈ ww_ws := ww_t2 144 rfl rfl
theorem we_X0_measure : Cond.selects RX0 yX0_measure yX0_measure ∈ ww_ws := ww_s1 yX0_measure 13 15 rfl rfl
theorem wp_X0_measure : yX0_measure.cls ≠ "java/lang/invoke/MethodHandle" ∧ yX0_measure.cls ≠ "java/lang/invoke/VarHandle" ∧ (parseMethodDescriptor yX0_measure.desc).map (fun d => d.parameters.length) = some 0 := by decide +kernel
theorem wc_X0_notePiece : Cond.code yX0_notePiece cX0_notePiece 4 none ∈ ww_ws := ww_t2 154 rfl rfl
theorem wn_X0_notePiece : Cond.instanceMethod yX0_notePiece ∈ ww_ws := ww_t2 153 rfl rfl
theorem we_X0_notePiece : Cond.selects RX0 yX0_notePiece yX0_notePiece ∈ ww_ws := ww_s2 yX0_notePiece 13 0 rfl rfl
theorem wp_X0_notePiece : yX0_notePiece.cls ≠ "java/lang/invoke/MethodHandle" ∧ yX0_notePiece.cls ≠ "java/lang/invoke/VarHandle" ∧ (parseMethodDescriptor yX0_notePiece.desc).map (fun d => d.parameters.length) = some 2 := by decide +kernel
theorem wc_X0_has : Cond.code yX0_has cX0_has 2 (some .boolean) ∈ ww_ws := ww_t2 128 rfl rfl
theorem wn_X0_has : Cond.instanceMethod yX0_has ∈ ww_ws := ww_t2 126 rfl rfl
theorem we_X0_has : Cond.selects RX0 yX0_has yX0_has ∈ ww_ws := ww_t2 127 rfl rfl
theorem wp_X0_has : yX0_has.cls ≠ "java/lang/invoke/MethodHandle" ∧ yX0_has.cls ≠ "java/lang/invoke/VarHandle" ∧ (parseMethodDescriptor yX0_has.desc).map (fun d => d.parameters.length) = some 1 := by decide +kernel
theorem wc_X0_sizeOf : Cond.code yX0_sizeOf cX0_sizeOf 2 (some .int) ∈ ww_ws := ww_t2 179 rfl rfl
theorem wn_X0_sizeOf : Cond.instanceMethod yX0_sizeOf ∈ ww_ws := ww_t2 177 rfl rfl
theorem we_X0_sizeOf : Cond.selects RX0 yX0_sizeOf yX0_sizeOf ∈ ww_ws := ww_t2 178 rfl rfl
theorem wp_X0_sizeOf : yX0_sizeOf.cls ≠ "java/lang/invoke/MethodHandle" ∧ yX0_sizeOf.cls ≠ "java/lang/invoke/VarHandle" ∧ (parseMethodDescriptor yX0_sizeOf.desc).map (fun d => d.parameters.length) = some 1 := by decide +kernel
theorem wc_X0_letterOf : Cond.code yX0_letterOf cX0_letterOf 3 (some .int) ∈ ww_ws := ww_t2 183 rfl rfl
theorem wn_X0_letterOf : Cond.instanceMethod yX0_letterOf ∈ ww_ws := ww_t2 181 rfl rfl
theorem we_X0_letterOf : Cond.selects RX0 yX0_letterOf yX0_letterOf ∈ ww_ws := ww_t2 182 rfl rfl
theorem wp_X0_letterOf : yX0_letterOf.cls ≠ "java/lang/invoke/MethodHandle" ∧ yX0_letterOf.cls ≠ "java/lang/invoke/VarHandle" ∧ (parseMethodDescriptor yX0_letterOf.desc).map (fun d => d.parameters.length) = some 2 := by decide +kernel
theorem wc_X0_sharedStart : Cond.code yX0_sharedStart cX0_sharedStart 3 (some .int) ∈ ww_ws := ww_t2 149 rfl rfl
theorem wn_X0_sharedStart : Cond.instanceMethod yX0_sharedStart ∈ ww_ws := ww_t2 147 rfl rfl
theorem we_X0_sharedStart : Cond.selects RX0 yX0_sharedStart yX0_sharedStart ∈ ww_ws := ww_t2 148 rfl rfl
theorem wp_X0_sharedStart : yX0_sharedStart.cls ≠ "java/lang/invoke/MethodHandle" ∧ yX0_sharedStart.cls ≠ "java/lang/invoke/VarHandle" ∧ (parseMethodDescriptor yX0_sharedStart.desc).map (fun d => d.parameters.length) = some 2 := by decide +kernel
theorem wc_X0_matchAt : Cond.code yX0_matchAt cX0_matchAt 4 (some .int) ∈ ww_ws := ww_t2 124 rfl rfl
theorem wn_X0_matchAt : Cond.instanceMethod yX0_matchAt ∈ ww_ws := ww_t2 122 rfl rfl
theorem we_X0_matchAt : Cond.selects RX0 yX0_matchAt yX0_matchAt ∈ ww_ws := ww_t2 123 rfl rfl
theorem wp_X0_matchAt : yX0_matchAt.cls ≠ "java/lang/invoke/MethodHandle" ∧ yX0_matchAt.cls ≠ "java/lang/invoke/VarHandle" ∧ (parseMethodDescriptor yX0_matchAt.desc).map (fun d => d.parameters.length) = some 3 := by decide +kernel
theorem wc_X0_beginsFresh : Cond.code yX0_beginsFresh cX0_beginsFresh 3 (some .boolean) ∈ ww_ws := ww_t3 128 rfl rfl
theorem wn_X0_beginsFresh : Cond.instanceMethod yX0_beginsFresh ∈ ww_ws := ww_t3 126 rfl rfl
theorem we_X0_beginsFresh : Cond.selects RX0 yX0_beginsFresh yX0_beginsFresh ∈ ww_ws := ww_t3 127 rfl rfl
theorem wp_X0_beginsFresh : yX0_beginsFresh.cls ≠ "java/lang/invoke/MethodHandle" ∧ yX0_beginsFresh.cls ≠ "java/lang/invoke/VarHandle" ∧ (parseMethodDescriptor yX0_beginsFresh.desc).map (fun d => d.parameters.length) = some 2 := by decide +kernel
theorem wc_X0_startersWith : Cond.code yX0_startersWith cX0_startersWith 2 (some .int) ∈ ww_ws := ww_t3 51 rfl rfl
theorem wn_X0_startersWith : Cond.instanceMethod yX0_startersWith ∈ ww_ws := ww_t3 49 rfl rfl
theorem we_X0_startersWith : Cond.selects RX0 yX0_startersWith yX0_startersWith ∈ ww_ws := ww_t3 50 rfl rfl
theorem wp_X0_startersWith : yX0_startersWith.cls ≠ "java/lang/invoke/MethodHandle" ∧ yX0_startersWith.cls ≠ "java/lang/invoke/VarHandle" ∧ (parseMethodDescriptor yX0_startersWith.desc).map (fun d => d.parameters.length) = some 1 := by decide +kernel
theorem wc_X0_starter : Cond.code yX0_starter cX0_starter 3 (some .int) ∈ ww_ws := ww_t3 55 rfl rfl
theorem wn_X0_starter : Cond.instanceMethod yX0_starter ∈ ww_ws := ww_t3 53 rfl rfl
theorem we_X0_starter : Cond.selects RX0 yX0_starter yX0_starter ∈ ww_ws := ww_t3 54 rfl rfl
theorem wp_X0_starter : yX0_starter.cls ≠ "java/lang/invoke/MethodHandle" ∧ yX0_starter.cls ≠ "java/lang/invoke/VarHandle" ∧ (parseMethodDescriptor yX0_starter.desc).map (fun d => d.parameters.length) = some 2 := by decide +kernel
theorem wc_X0_areGood : Cond.code yX0_areGood cX0_areGood 3 (some .boolean) ∈ ww_ws := ww_t2 191 rfl rfl
theorem wn_X0_areGood : Cond.instanceMethod yX0_areGood ∈ ww_ws := ww_t2 189 rfl rfl
theorem we_X0_areGood : Cond.selects RX0 yX0_areGood yX0_areGood ∈ ww_ws := ww_t2 190 rfl rfl
theorem wp_X0_areGood : yX0_areGood.cls ≠ "java/lang/invoke/MethodHandle" ∧ yX0_areGood.cls ≠ "java/lang/invoke/VarHandle" ∧ (parseMethodDescriptor yX0_areGood.desc).map (fun d => d.parameters.length) = some 1 := by decide +kernel
theorem wc_X0_rankBy : Cond.code yX0_rankBy cX0_rankBy 4 (some .int) ∈ ww_ws := ww_t2 204 rfl rfl
theorem wn_X0_rankBy : Cond.instanceMethod yX0_rankBy ∈ ww_ws := ww_t2 202 rfl rfl
theorem we_X0_rankBy : Cond.selects RX0 yX0_rankBy yX0_rankBy ∈ ww_ws := ww_t2 203 rfl rfl
theorem wp_X0_rankBy : yX0_rankBy.cls ≠ "java/lang/invoke/MethodHandle" ∧ yX0_rankBy.cls ≠ "java/lang/invoke/VarHandle" ∧ (parseMethodDescriptor yX0_rankBy.desc).map (fun d => d.parameters.length) = some 1 := by decide +kernel
theorem wc_X0_bringPivot : Cond.code yX0_bringPivot cX0_bringPivot 6 (some .boolean) ∈ ww_ws := ww_t2 215 rfl rfl
theorem wn_X0_bringPivot : Cond.instanceMethod yX0_bringPivot ∈ ww_ws := ww_t2 214 rfl rfl
theorem we_X0_bringPivot : Cond.selects RX0 yX0_bringPivot yX0_bringPivot ∈ ww_ws := ww_s2 yX0_bringPivot 13 1 rfl rfl
theorem wp_X0_bringPivot : yX0_bringPivot.cls ≠ "java/lang/invoke/MethodHandle" ∧ yX0_bringPivot.cls ≠ "java/lang/invoke/VarHandle" ∧ (parseMethodDescriptor yX0_bringPivot.desc).map (fun d => d.parameters.length) = some 2 := by decide +kernel
theorem wc_X0_clearBelow : Cond.code yX0_clearBelow cX0_clearBelow 8 none ∈ ww_ws := ww_t2 219 rfl rfl
theorem wn_X0_clearBelow : Cond.instanceMethod yX0_clearBelow ∈ ww_ws := ww_t2 218 rfl rfl
theorem we_X0_clearBelow : Cond.selects RX0 yX0_clearBelow yX0_clearBelow ∈ ww_ws := ww_s2 yX0_clearBelow 13 2 rfl rfl
theorem wp_X0_clearBelow : yX0_clearBelow.cls ≠ "java/lang/invoke/MethodHandle" ∧ yX0_clearBelow.cls ≠ "java/lang/invoke/VarHandle" ∧ (parseMethodDescriptor yX0_clearBelow.desc).map (fun d => d.parameters.length) = some 3 := by decide +kernel
theorem wc_X1_init : Cond.code yX1_init cX1_init 2 none ∈ ww_ws := ww_t1 70 rfl rfl
theorem wn_X1_init : Cond.instanceMethod yX1_init ∈ ww_ws := ww_t1 69 rfl rfl
theorem wp_X1_init : yX1_init.cls ≠ "java/lang/invoke/MethodHandle" ∧ yX1_init.cls ≠ "java/lang/invoke/VarHandle" ∧ (parseMethodDescriptor yX1_init.desc).map (fun d => d.parameters.length) = some 0 := by decide +kernel
theorem wc_X1_readAll : Cond.code yX1_readAll cX1_readAll 7 (some .int) ∈ ww_ws := ww_t2 48 rfl rfl
theorem wn_X1_readAll : Cond.instanceMethod yX1_readAll ∈ ww_ws := ww_t2 46 rfl rfl
theorem we_X1_readAll : Cond.selects RX1 yX1_readAll yX1_readAll ∈ ww_ws := ww_t2 47 rfl rfl
theorem wp_X1_readAll : yX1_readAll.cls ≠ "java/lang/invoke/MethodHandle" ∧ yX1_readAll.cls ≠ "java/lang/invoke/VarHandle" ∧ (parseMethodDescriptor yX1_readAll.desc).map (fun d => d.parameters.length) = some 3 := by decide +kernel
theorem wc_X1_startWord : Cond.code yX1_startWord cX1_startWord 1 none ∈ ww_ws := ww_t2 53 rfl rfl
theorem wn_X1_startWord : Cond.instanceMethod yX1_startWord ∈ ww_ws := ww_t2 52 rfl rfl
theorem we_X1_startWord : Cond.selects RX1 yX1_startWord yX1_startWord ∈ ww_ws := ww_s1 yX1_startWord 8 7 rfl rfl
theorem wp_X1_startWord : yX1_startWord.cls ≠ "java/lang/invoke/MethodHandle" ∧ yX1_startWord.cls ≠ "java/lang/invoke/VarHandle" ∧ (parseMethodDescriptor yX1_startWord.desc).map (fun d => d.parameters.length) = some 0 := by decide +kernel
theorem wc_X1_readByte : Cond.code yX1_readByte cX1_readByte 4 none ∈ ww_ws := ww_t2 57 rfl rfl
theorem wn_X1_readByte : Cond.instanceMethod yX1_readByte ∈ ww_ws := ww_t2 56 rfl rfl
theorem we_X1_readByte : Cond.selects RX1 yX1_readByte yX1_readByte ∈ ww_ws := ww_s1 yX1_readByte 8 8 rfl rfl
theorem wp_X1_readByte : yX1_readByte.cls ≠ "java/lang/invoke/MethodHandle" ∧ yX1_readByte.cls ≠ "java/lang/invoke/VarHandle" ∧ (parseMethodDescriptor yX1_readByte.desc).map (fun d => d.parameters.length) = some 1 := by decide +kernel
theorem wc_X1_putRaw : Cond.code yX1_putRaw cX1_putRaw 2 none ∈ ww_ws := ww_t2 63 rfl rfl
theorem wn_X1_putRaw : Cond.instanceMethod yX1_putRaw ∈ ww_ws := ww_t2 62 rfl rfl
theorem we_X1_putRaw : Cond.selects RX1 yX1_putRaw yX1_putRaw ∈ ww_ws := ww_s1 yX1_putRaw 8 9 rfl rfl
theorem wp_X1_putRaw : yX1_putRaw.cls ≠ "java/lang/invoke/MethodHandle" ∧ yX1_putRaw.cls ≠ "java/lang/invoke/VarHandle" ∧ (parseMethodDescriptor yX1_putRaw.desc).map (fun d => d.parameters.length) = some 1 := by decide +kernel
theorem wc_X1_repeatFactor : Cond.code yX1_repeatFactor cX1_repeatFactor 5 none ∈ ww_ws := ww_t2 67 rfl rfl
theorem wn_X1_repeatFactor : Cond.instanceMethod yX1_repeatFactor ∈ ww_ws := ww_t2 66 rfl rfl
theorem we_X1_repeatFactor : Cond.selects RX1 yX1_repeatFactor yX1_repeatFactor ∈ ww_ws := ww_s1 yX1_repeatFactor 8 10 rfl rfl
theorem wp_X1_repeatFactor : yX1_repeatFactor.cls ≠ "java/lang/invoke/MethodHandle" ∧ yX1_repeatFactor.cls ≠ "java/lang/invoke/VarHandle" ∧ (parseMethodDescriptor yX1_repeatFactor.desc).map (fun d => d.parameters.length) = some 1 := by decide +kernel
theorem wc_X1_takeWord : Cond.code yX1_takeWord cX1_takeWord 5 (some .boolean) ∈ ww_ws := ww_t2 71 rfl rfl
theorem wn_X1_takeWord : Cond.instanceMethod yX1_takeWord ∈ ww_ws := ww_t2 70 rfl rfl
theorem we_X1_takeWord : Cond.selects RX1 yX1_takeWord yX1_takeWord ∈ ww_ws := ww_s1 yX1_takeWord 8 11 rfl rfl
theorem wp_X1_takeWord : yX1_takeWord.cls ≠ "java/lang/invoke/MethodHandle" ∧ yX1_takeWord.cls ≠ "java/lang/invoke/VarHandle" ∧ (parseMethodDescriptor yX1_takeWord.desc).map (fun d => d.parameters.length) = some 2 := by decide +kernel
theorem wc_X2_init : Cond.code yX2_init cX2_init 2 none ∈ ww_ws := ww_t1 22 rfl rfl
theorem wn_X2_init : Cond.instanceMethod yX2_init ∈ ww_ws := ww_t1 21 rfl rfl
theorem wp_X2_init : yX2_init.cls ≠ "java/lang/invoke/MethodHandle" ∧ yX2_init.cls ≠ "java/lang/invoke/VarHandle" ∧ (parseMethodDescriptor yX2_init.desc).map (fun d => d.parameters.length) = some 1 := by decide +kernel
theorem wc_X2_at : Cond.code yX2_at cX2_at 2 (some .int) ∈ ww_ws := ww_t2 83 rfl rfl
theorem wn_X2_at : Cond.instanceMethod yX2_at ∈ ww_ws := ww_t2 81 rfl rfl
theorem we_X2_at : Cond.selects RX2 yX2_at yX2_at ∈ ww_ws := ww_t2 82 rfl rfl
theorem wp_X2_at : yX2_at.cls ≠ "java/lang/invoke/MethodHandle" ∧ yX2_at.cls ≠ "java/lang/invoke/VarHandle" ∧ (parseMethodDescriptor yX2_at.desc).map (fun d => d.parameters.length) = some 1 := by decide +kernel
theorem wc_X2_wipe : Cond.code yX2_wipe cX2_wipe 1 none ∈ ww_ws := ww_t2 75 rfl rfl
theorem wn_X2_wipe : Cond.instanceMethod yX2_wipe ∈ ww_ws := ww_t2 73 rfl rfl
theorem we_X2_wipe : Cond.selects RX2 yX2_wipe yX2_wipe ∈ ww_ws := ww_t2 74 rfl rfl
theorem wp_X2_wipe : yX2_wipe.cls ≠ "java/lang/invoke/MethodHandle" ∧ yX2_wipe.cls ≠ "java/lang/invoke/VarHandle" ∧ (parseMethodDescriptor yX2_wipe.desc).map (fun d => d.parameters.length) = some 0 := by decide +kernel
theorem wc_X2_put : Cond.code yX2_put cX2_put 2 none ∈ ww_ws := ww_t2 79 rfl rfl
theorem wn_X2_put : Cond.instanceMethod yX2_put ∈ ww_ws := ww_t2 77 rfl rfl
theorem we_X2_put : Cond.selects RX2 yX2_put yX2_put ∈ ww_ws := ww_t2 78 rfl rfl
theorem wp_X2_put : yX2_put.cls ≠ "java/lang/invoke/MethodHandle" ∧ yX2_put.cls ≠ "java/lang/invoke/VarHandle" ∧ (parseMethodDescriptor yX2_put.desc).map (fun d => d.parameters.length) = some 1 := by decide +kernel
theorem wc_X2_copy : Cond.code yX2_copy cX2_copy 4 none ∈ ww_ws := ww_t2 101 rfl rfl
theorem wn_X2_copy : Cond.instanceMethod yX2_copy ∈ ww_ws := ww_t2 99 rfl rfl
theorem we_X2_copy : Cond.selects RX2 yX2_copy yX2_copy ∈ ww_ws := ww_t2 100 rfl rfl
theorem wp_X2_copy : yX2_copy.cls ≠ "java/lang/invoke/MethodHandle" ∧ yX2_copy.cls ≠ "java/lang/invoke/VarHandle" ∧ (parseMethodDescriptor yX2_copy.desc).map (fun d => d.parameters.length) = some 1 := by decide +kernel
theorem wc_X2_putRow : Cond.code yX2_putRow cX2_putRow 2 none ∈ ww_ws := ww_t3 5 rfl rfl
theorem wn_X2_putRow : Cond.instanceMethod yX2_putRow ∈ ww_ws := ww_t3 3 rfl rfl
theorem we_X2_putRow : Cond.selects RX2 yX2_putRow yX2_putRow ∈ ww_ws := ww_t3 4 rfl rfl
theorem wp_X2_putRow : yX2_putRow.cls ≠ "java/lang/invoke/MethodHandle" ∧ yX2_putRow.cls ≠ "java/lang/invoke/VarHandle" ∧ (parseMethodDescriptor yX2_putRow.desc).map (fun d => d.parameters.length) = some 1 := by decide +kernel
theorem wc_X2_putPart : Cond.code yX2_putPart cX2_putPart 5 none ∈ ww_ws := ww_t2 115 rfl rfl
theorem wn_X2_putPart : Cond.instanceMethod yX2_putPart ∈ ww_ws := ww_t2 113 rfl rfl
theorem we_X2_putPart : Cond.selects RX2 yX2_putPart yX2_putPart ∈ ww_ws := ww_t2 114 rfl rfl
theorem wp_X2_putPart : yX2_putPart.cls ≠ "java/lang/invoke/MethodHandle" ∧ yX2_putPart.cls ≠ "java/lang/invoke/VarHandle" ∧ (parseMethodDescriptor yX2_putPart.desc).map (fun d => d.parameters.length) = some 3 := by decide +kernel
theorem wc_X2_putInverse : Cond.code yX2_putInverse cX2_putInverse 3 none ∈ ww_ws := ww_t2 141 rfl rfl
theorem wn_X2_putInverse : Cond.instanceMethod yX2_putInverse ∈ ww_ws := ww_t2 139 rfl rfl
theorem we_X2_putInverse : Cond.selects RX2 yX2_putInverse yX2_putInverse ∈ ww_ws := ww_t2 140 rfl rfl
theorem wp_X2_putInverse : yX2_putInverse.cls ≠ "java/lang/invoke/MethodHandle" ∧ yX2_putInverse.cls ≠ "java/lang/invoke/VarHandle" ∧ (parseMethodDescriptor yX2_putInverse.desc).map (fun d => d.parameters.length) = some 1 := by decide +kernel
theorem wc_X2_putTurn : Cond.code yX2_putTurn cX2_putTurn 3 none ∈ ww_ws := ww_t2 111 rfl rfl
theorem wn_X2_putTurn : Cond.instanceMethod yX2_putTurn ∈ ww_ws := ww_t2 109 rfl rfl
theorem we_X2_putTurn : Cond.selects RX2 yX2_putTurn yX2_putTurn ∈ ww_ws := ww_t2 110 rfl rfl
theorem wp_X2_putTurn : yX2_putTurn.cls ≠ "java/lang/invoke/MethodHandle" ∧ yX2_putTurn.cls ≠ "java/lang/invoke/VarHandle" ∧ (parseMethodDescriptor yX2_putTurn.desc).map (fun d => d.parameters.length) = some 2 := by decide +kernel
theorem wc_X2_cutToRing : Cond.code yX2_cutToRing cX2_cutToRing 4 none ∈ ww_ws := ww_t2 90 rfl rfl
theorem wn_X2_cutToRing : Cond.instanceMethod yX2_cutToRing ∈ ww_ws := ww_t2 88 rfl rfl
theorem we_X2_cutToRing : Cond.selects RX2 yX2_cutToRing yX2_cutToRing ∈ ww_ws := ww_t2 89 rfl rfl
theorem wp_X2_cutToRing : yX2_cutToRing.cls ≠ "java/lang/invoke/MethodHandle" ∧ yX2_cutToRing.cls ≠ "java/lang/invoke/VarHandle" ∧ (parseMethodDescriptor yX2_cutToRing.desc).map (fun d => d.parameters.length) = some 0 := by decide +kernel
theorem wc_X2_likeFrom : Cond.code yX2_likeFrom cX2_likeFrom 5 (some .int) ∈ ww_ws := ww_t2 132 rfl rfl
theorem wn_X2_likeFrom : Cond.instanceMethod yX2_likeFrom ∈ ww_ws := ww_t2 130 rfl rfl
theorem we_X2_likeFrom : Cond.selects RX2 yX2_likeFrom yX2_likeFrom ∈ ww_ws := ww_t2 131 rfl rfl
theorem wp_X2_likeFrom : yX2_likeFrom.cls ≠ "java/lang/invoke/MethodHandle" ∧ yX2_likeFrom.cls ≠ "java/lang/invoke/VarHandle" ∧ (parseMethodDescriptor yX2_likeFrom.desc).map (fun d => d.parameters.length) = some 2 := by decide +kernel
theorem wc_X2_surplusOf : Cond.code yX2_surplusOf cX2_surplusOf 4 (some .int) ∈ ww_ws := ww_t2 208 rfl rfl
theorem wn_X2_surplusOf : Cond.instanceMethod yX2_surplusOf ∈ ww_ws := ww_t2 206 rfl rfl
theorem we_X2_surplusOf : Cond.selects RX2 yX2_surplusOf yX2_surplusOf ∈ ww_ws := ww_t2 207 rfl rfl
theorem wp_X2_surplusOf : yX2_surplusOf.cls ≠ "java/lang/invoke/MethodHandle" ∧ yX2_surplusOf.cls ≠ "java/lang/invoke/VarHandle" ∧ (parseMethodDescriptor yX2_surplusOf.desc).map (fun d => d.parameters.length) = some 1 := by decide +kernel
theorem wc_X3_init : Cond.code yX3_init cX3_init 2 none ∈ ww_ws := ww_t1 163 rfl rfl
theorem wn_X3_init : Cond.instanceMethod yX3_init ∈ ww_ws := ww_t1 162 rfl rfl
theorem wp_X3_init : yX3_init.cls ≠ "java/lang/invoke/MethodHandle" ∧ yX3_init.cls ≠ "java/lang/invoke/VarHandle" ∧ (parseMethodDescriptor yX3_init.desc).map (fun d => d.parameters.length) = some 1 := by decide +kernel
theorem wc_X3_seek : Cond.code yX3_seek cX3_seek 10 (some .int) ∈ ww_ws := ww_t3 46 rfl rfl
theorem wn_X3_seek : Cond.instanceMethod yX3_seek ∈ ww_ws := ww_t3 44 rfl rfl
theorem we_X3_seek : Cond.selects RX3 yX3_seek yX3_seek ∈ ww_ws := ww_t3 45 rfl rfl
theorem wp_X3_seek : yX3_seek.cls ≠ "java/lang/invoke/MethodHandle" ∧ yX3_seek.cls ≠ "java/lang/invoke/VarHandle" ∧ (parseMethodDescriptor yX3_seek.desc).map (fun d => d.parameters.length) = some 1 := by decide +kernel
theorem wc_X3_isBetter : Cond.code yX3_isBetter cX3_isBetter 4 (some .boolean) ∈ ww_ws := ww_t3 62 rfl rfl
theorem wn_X3_isBetter : Cond.instanceMethod yX3_isBetter ∈ ww_ws := ww_t3 61 rfl rfl
theorem we_X3_isBetter : Cond.selects RX3 yX3_isBetter yX3_isBetter ∈ ww_ws := ww_s2 yX3_isBetter 7 5 rfl rfl
theorem wp_X3_isBetter : yX3_isBetter.cls ≠ "java/lang/invoke/MethodHandle" ∧ yX3_isBetter.cls ≠ "java/lang/invoke/VarHandle" ∧ (parseMethodDescriptor yX3_isBetter.desc).map (fun d => d.parameters.length) = some 3 := by decide +kernel
theorem wc_X3_take : Cond.code yX3_take cX3_take 4 none ∈ ww_ws := ww_t3 66 rfl rfl
theorem wn_X3_take : Cond.instanceMethod yX3_take ∈ ww_ws := ww_t3 65 rfl rfl
theorem we_X3_take : Cond.selects RX3 yX3_take yX3_take ∈ ww_ws := ww_s2 yX3_take 7 6 rfl rfl
theorem wp_X3_take : yX3_take.cls ≠ "java/lang/invoke/MethodHandle" ∧ yX3_take.cls ≠ "java/lang/invoke/VarHandle" ∧ (parseMethodDescriptor yX3_take.desc).map (fun d => d.parameters.length) = some 3 := by decide +kernel
theorem wc_X3_doCut : Cond.code yX3_doCut cX3_doCut 3 none ∈ ww_ws := ww_t3 74 rfl rfl
theorem wn_X3_doCut : Cond.instanceMethod yX3_doCut ∈ ww_ws := ww_t3 72 rfl rfl
theorem we_X3_doCut : Cond.selects RX3 yX3_doCut yX3_doCut ∈ ww_ws := ww_t3 73 rfl rfl
theorem wp_X3_doCut : yX3_doCut.cls ≠ "java/lang/invoke/MethodHandle" ∧ yX3_doCut.cls ≠ "java/lang/invoke/VarHandle" ∧ (parseMethodDescriptor yX3_doCut.desc).map (fun d => d.parameters.length) = some 1 := by decide +kernel
theorem wc_X3_doAll : Cond.code yX3_doAll cX3_doAll 3 (some .int) ∈ ww_ws := ww_t3 88 rfl rfl
theorem wn_X3_doAll : Cond.instanceMethod yX3_doAll ∈ ww_ws := ww_t3 86 rfl rfl
theorem we_X3_doAll : Cond.selects RX3 yX3_doAll yX3_doAll ∈ ww_ws := ww_t3 87 rfl rfl
theorem wp_X3_doAll : yX3_doAll.cls ≠ "java/lang/invoke/MethodHandle" ∧ yX3_doAll.cls ≠ "java/lang/invoke/VarHandle" ∧ (parseMethodDescriptor yX3_doAll.desc).map (fun d => d.parameters.length) = some 1 := by decide +kernel
theorem wc_X3_doThrough : Cond.code yX3_doThrough cX3_doThrough 4 (some .boolean) ∈ ww_ws := ww_t3 98 rfl rfl
theorem wn_X3_doThrough : Cond.instanceMethod yX3_doThrough ∈ ww_ws := ww_t3 96 rfl rfl
theorem we_X3_doThrough : Cond.selects RX3 yX3_doThrough yX3_doThrough ∈ ww_ws := ww_t3 97 rfl rfl
theorem wp_X3_doThrough : yX3_doThrough.cls ≠ "java/lang/invoke/MethodHandle" ∧ yX3_doThrough.cls ≠ "java/lang/invoke/VarHandle" ∧ (parseMethodDescriptor yX3_doThrough.desc).map (fun d => d.parameters.length) = some 2 := by decide +kernel
theorem wc_X4_init : Cond.code yX4_init cX4_init 1 none ∈ ww_ws := ww_t1 43 rfl rfl
theorem wn_X4_init : Cond.instanceMethod yX4_init ∈ ww_ws := ww_t1 42 rfl rfl
theorem wp_X4_init : yX4_init.cls ≠ "java/lang/invoke/MethodHandle" ∧ yX4_init.cls ≠ "java/lang/invoke/VarHandle" ∧ (parseMethodDescriptor yX4_init.desc).map (fun d => d.parameters.length) = some 0 := by decide +kernel
theorem wc_X4_accept : Cond.code yX4_accept cX4_accept 2 (some .boolean) ∈ ww_ws := ww_t1 238 rfl rfl
theorem wn_X4_accept : Cond.instanceMethod yX4_accept ∈ ww_ws := ww_t1 236 rfl rfl
theorem we_X4_accept : Cond.selects RX4 yX4_accept yX4_accept ∈ ww_ws := ww_t1 237 rfl rfl
theorem wp_X4_accept : yX4_accept.cls ≠ "java/lang/invoke/MethodHandle" ∧ yX4_accept.cls ≠ "java/lang/invoke/VarHandle" ∧ (parseMethodDescriptor yX4_accept.desc).map (fun d => d.parameters.length) = some 1 := by decide +kernel
theorem wc_X4_byteAt : Cond.code yX4_byteAt cX4_byteAt 2 (some .int) ∈ ww_ws := ww_t2 18 rfl rfl
theorem wn_X4_byteAt : Cond.instanceMethod yX4_byteAt ∈ ww_ws := ww_t2 16 rfl rfl
theorem we_X4_byteAt : Cond.selects RX4 yX4_byteAt yX4_byteAt ∈ ww_ws := ww_t2 17 rfl rfl
theorem wp_X4_byteAt : yX4_byteAt.cls ≠ "java/lang/invoke/MethodHandle" ∧ yX4_byteAt.cls ≠ "java/lang/invoke/VarHandle" ∧ (parseMethodDescriptor yX4_byteAt.desc).map (fun d => d.parameters.length) = some 1 := by decide +kernel
theorem wc_X4_wrongPlace : Cond.code yX4_wrongPlace cX4_wrongPlace 2 (some .int) ∈ ww_ws := ww_t2 14 rfl rfl
theorem wn_X4_wrongPlace : Cond.instanceMethod yX4_wrongPlace ∈ ww_ws := ww_t2 12 rfl rfl
theorem we_X4_wrongPlace : Cond.selects RX4 yX4_wrongPlace yX4_wrongPlace ∈ ww_ws := ww_t2 13 rfl rfl
theorem wp_X4_wrongPlace : yX4_wrongPlace.cls ≠ "java/lang/invoke/MethodHandle" ∧ yX4_wrongPlace.cls ≠ "java/lang/invoke/VarHandle" ∧ (parseMethodDescriptor yX4_wrongPlace.desc).map (fun d => d.parameters.length) = some 0 := by decide +kernel
theorem wc_X4_standsNext : Cond.code yX4_standsNext cX4_standsNext 3 (some .boolean) ∈ ww_ws := ww_t2 22 rfl rfl
theorem wn_X4_standsNext : Cond.instanceMethod yX4_standsNext ∈ ww_ws := ww_t2 21 rfl rfl
theorem we_X4_standsNext : Cond.selects RX4 yX4_standsNext yX4_standsNext ∈ ww_ws := ww_s1 yX4_standsNext 6 2 rfl rfl
theorem wp_X4_standsNext : yX4_standsNext.cls ≠ "java/lang/invoke/MethodHandle" ∧ yX4_standsNext.cls ≠ "java/lang/invoke/VarHandle" ∧ (parseMethodDescriptor yX4_standsNext.desc).map (fun d => d.parameters.length) = some 1 := by decide +kernel
theorem wc_X4_factorEnds : Cond.code yX4_factorEnds cX4_factorEnds 1 (some .boolean) ∈ ww_ws := ww_t2 32 rfl rfl
theorem wn_X4_factorEnds : Cond.instanceMethod yX4_factorEnds ∈ ww_ws := ww_t2 31 rfl rfl
theorem we_X4_factorEnds : Cond.selects RX4 yX4_factorEnds yX4_factorEnds ∈ ww_ws := ww_s1 yX4_factorEnds 6 3 rfl rfl
theorem wp_X4_factorEnds : yX4_factorEnds.cls ≠ "java/lang/invoke/MethodHandle" ∧ yX4_factorEnds.cls ≠ "java/lang/invoke/VarHandle" ∧ (parseMethodDescriptor yX4_factorEnds.desc).map (fun d => d.parameters.length) = some 0 := by decide +kernel
theorem wc_X4_bracketOpens : Cond.code yX4_bracketOpens cX4_bracketOpens 1 (some .boolean) ∈ ww_ws := ww_t2 36 rfl rfl
theorem wn_X4_bracketOpens : Cond.instanceMethod yX4_bracketOpens ∈ ww_ws := ww_t2 35 rfl rfl
theorem we_X4_bracketOpens : Cond.selects RX4 yX4_bracketOpens yX4_bracketOpens ∈ ww_ws := ww_s1 yX4_bracketOpens 6 4 rfl rfl
theorem wp_X4_bracketOpens : yX4_bracketOpens.cls ≠ "java/lang/invoke/MethodHandle" ∧ yX4_bracketOpens.cls ≠ "java/lang/invoke/VarHandle" ∧ (parseMethodDescriptor yX4_bracketOpens.desc).map (fun d => d.parameters.length) = some 0 := by decide +kernel
theorem wc_X4_bracketCloses : Cond.code yX4_bracketCloses cX4_bracketCloses 1 (some .boolean) ∈ ww_ws := ww_t2 40 rfl rfl
theorem wn_X4_bracketCloses : Cond.instanceMethod yX4_bracketCloses ∈ ww_ws := ww_t2 39 rfl rfl
theorem we_X4_bracketCloses : Cond.selects RX4 yX4_bracketCloses yX4_bracketCloses ∈ ww_ws := ww_s1 yX4_bracketCloses 6 5 rfl rfl
theorem wp_X4_bracketCloses : yX4_bracketCloses.cls ≠ "java/lang/invoke/MethodHandle" ∧ yX4_bracketCloses.cls ≠ "java/lang/invoke/VarHandle" ∧ (parseMethodDescriptor yX4_bracketCloses.desc).map (fun d => d.parameters.length) = some 0 := by decide +kernel
theorem wc_X4_wordEnds : Cond.code yX4_wordEnds cX4_wordEnds 1 (some .boolean) ∈ ww_ws := ww_t2 44 rfl rfl
theorem wn_X4_wordEnds : Cond.instanceMethod yX4_wordEnds ∈ ww_ws := ww_t2 43 rfl rfl
theorem we_X4_wordEnds : Cond.selects RX4 yX4_wordEnds yX4_wordEnds ∈ ww_ws := ww_s1 yX4_wordEnds 6 6 rfl rfl
theorem wp_X4_wordEnds : yX4_wordEnds.cls ≠ "java/lang/invoke/MethodHandle" ∧ yX4_wordEnds.cls ≠ "java/lang/invoke/VarHandle" ∧ (parseMethodDescriptor yX4_wordEnds.desc).map (fun d => d.parameters.length) = some 0 := by decide +kernel
theorem wc_X4_letterFor : Cond.code yX4_letterFor cX4_letterFor 1 (some .int) ∈ ww_ws := ww_t2 28 rfl rfl
theorem wn_X4_letterFor : Cond.static yX4_letterFor ∈ ww_ws := ww_t2 27 rfl rfl
theorem wp_X4_letterFor : yX4_letterFor.cls ≠ "java/lang/invoke/MethodHandle" ∧ yX4_letterFor.cls ≠ "java/lang/invoke/VarHandle" ∧ (parseMethodDescriptor yX4_letterFor.desc).map (fun d => d.parameters.length) = some 1 := by decide +kernel
theorem wc_X4_figureFor : Cond.code yX4_figureFor cX4_figureFor 1 (some .int) ∈ ww_ws := ww_t2 25 rfl rfl
theorem wn_X4_figureFor : Cond.static yX4_figureFor ∈ ww_ws := ww_t2 24 rfl rfl
theorem wp_X4_figureFor : yX4_figureFor.cls ≠ "java/lang/invoke/MethodHandle" ∧ yX4_figureFor.cls ≠ "java/lang/invoke/VarHandle" ∧ (parseMethodDescriptor yX4_figureFor.desc).map (fun d => d.parameters.length) = some 1 := by decide +kernel
theorem wc_X5_init : Cond.code yX5_init cX5_init 2 none ∈ ww_ws := ww_t1 13 rfl rfl
theorem wn_X5_init : Cond.instanceMethod yX5_init ∈ ww_ws := ww_t1 12 rfl rfl
theorem wp_X5_init : yX5_init.cls ≠ "java/lang/invoke/MethodHandle" ∧ yX5_init.cls ≠ "java/lang/invoke/VarHandle" ∧ (parseMethodDescriptor yX5_init.desc).map (fun d => d.parameters.length) = some 0 := by decide +kernel
theorem wc_X5_type : Cond.code yX5_type cX5_type 2 (some .int) ∈ ww_ws := ww_t1 230 rfl rfl
theorem wn_X5_type : Cond.instanceMethod yX5_type ∈ ww_ws := ww_t1 228 rfl rfl
theorem we_X5_type : Cond.selects RX5 yX5_type yX5_type ∈ ww_ws := ww_t1 229 rfl rfl
theorem wp_X5_type : yX5_type.cls ≠ "java/lang/invoke/MethodHandle" ∧ yX5_type.cls ≠ "java/lang/invoke/VarHandle" ∧ (parseMethodDescriptor yX5_type.desc).map (fun d => d.parameters.length) = some 1 := by decide +kernel
theorem wc_X5_clear : Cond.code yX5_clear cX5_clear 2 (some .int) ∈ ww_ws := ww_t2 2 rfl rfl
theorem wn_X5_clear : Cond.instanceMethod yX5_clear ∈ ww_ws := ww_t2 0 rfl rfl
theorem we_X5_clear : Cond.selects RX5 yX5_clear yX5_clear ∈ ww_ws := ww_t2 1 rfl rfl
theorem wp_X5_clear : yX5_clear.cls ≠ "java/lang/invoke/MethodHandle" ∧ yX5_clear.cls ≠ "java/lang/invoke/VarHandle" ∧ (parseMethodDescriptor yX5_clear.desc).map (fun d => d.parameters.length) = some 0 := by decide +kernel
theorem wc_X5_relators : Cond.code yX5_relators cX5_relators 2 (some .int) ∈ ww_ws := ww_t2 6 rfl rfl
theorem wn_X5_relators : Cond.instanceMethod yX5_relators ∈ ww_ws := ww_t2 4 rfl rfl
theorem we_X5_relators : Cond.selects RX5 yX5_relators yX5_relators ∈ ww_ws := ww_t2 5 rfl rfl
theorem wp_X5_relators : yX5_relators.cls ≠ "java/lang/invoke/MethodHandle" ∧ yX5_relators.cls ≠ "java/lang/invoke/VarHandle" ∧ (parseMethodDescriptor yX5_relators.desc).map (fun d => d.parameters.length) = some 0 := by decide +kernel
theorem wc_X5_words : Cond.code yX5_words cX5_words 4 (some .int) ∈ ww_ws := ww_t2 158 rfl rfl
theorem wn_X5_words : Cond.instanceMethod yX5_words ∈ ww_ws := ww_t2 156 rfl rfl
theorem we_X5_words : Cond.selects RX5 yX5_words yX5_words ∈ ww_ws := ww_t2 157 rfl rfl
theorem wp_X5_words : yX5_words.cls ≠ "java/lang/invoke/MethodHandle" ∧ yX5_words.cls ≠ "java/lang/invoke/VarHandle" ∧ (parseMethodDescriptor yX5_words.desc).map (fun d => d.parameters.length) = some 1 := by decide +kernel
theorem wc_X5_chooser : Cond.code yX5_chooser cX5_chooser 3 (some .int) ∈ ww_ws := ww_t2 166 rfl rfl
theorem wn_X5_chooser : Cond.instanceMethod yX5_chooser ∈ ww_ws := ww_t2 164 rfl rfl
theorem we_X5_chooser : Cond.selects RX5 yX5_chooser yX5_chooser ∈ ww_ws := ww_t2 165 rfl rfl
theorem wp_X5_chooser : yX5_chooser.cls ≠ "java/lang/invoke/MethodHandle" ∧ yX5_chooser.cls ≠ "java/lang/invoke/VarHandle" ∧ (parseMethodDescriptor yX5_chooser.desc).map (fun d => d.parameters.length) = some 1 := by decide +kernel
theorem wc_X5_relator : Cond.code yX5_relator cX5_relator 3 (some .int) ∈ ww_ws := ww_t2 170 rfl rfl
theorem wn_X5_relator : Cond.instanceMethod yX5_relator ∈ ww_ws := ww_t2 168 rfl rfl
theorem we_X5_relator : Cond.selects RX5 yX5_relator yX5_relator ∈ ww_ws := ww_t2 169 rfl rfl
theorem wp_X5_relator : yX5_relator.cls ≠ "java/lang/invoke/MethodHandle" ∧ yX5_relator.cls ≠ "java/lang/invoke/VarHandle" ∧ (parseMethodDescriptor yX5_relator.desc).map (fun d => d.parameters.length) = some 2 := by decide +kernel
theorem wc_X5_member : Cond.code yX5_member cX5_member 3 (some .int) ∈ ww_ws := ww_t2 174 rfl rfl
theorem wn_X5_member : Cond.instanceMethod yX5_member ∈ ww_ws := ww_t2 172 rfl rfl
theorem we_X5_member : Cond.selects RX5 yX5_member yX5_member ∈ ww_ws := ww_t2 173 rfl rfl
theorem wp_X5_member : yX5_member.cls ≠ "java/lang/invoke/MethodHandle" ∧ yX5_member.cls ≠ "java/lang/invoke/VarHandle" ∧ (parseMethodDescriptor yX5_member.desc).map (fun d => d.parameters.length) = some 2 := by decide +kernel
theorem wc_X5_good : Cond.code yX5_good cX5_good 2 (some .int) ∈ ww_ws := ww_t2 187 rfl rfl
theorem wn_X5_good : Cond.instanceMethod yX5_good ∈ ww_ws := ww_t2 185 rfl rfl
theorem we_X5_good : Cond.selects RX5 yX5_good yX5_good ∈ ww_ws := ww_t2 186 rfl rfl
theorem wp_X5_good : yX5_good.cls ≠ "java/lang/invoke/MethodHandle" ∧ yX5_good.cls ≠ "java/lang/invoke/VarHandle" ∧ (parseMethodDescriptor yX5_good.desc).map (fun d => d.parameters.length) = some 1 := by decide +kernel
theorem wc_X5_alike : Cond.code yX5_alike cX5_alike 3 (some .int) ∈ ww_ws := ww_t2 195 rfl rfl
theorem wn_X5_alike : Cond.instanceMethod yX5_alike ∈ ww_ws := ww_t2 193 rfl rfl
theorem we_X5_alike : Cond.selects RX5 yX5_alike yX5_alike ∈ ww_ws := ww_t2 194 rfl rfl
theorem wp_X5_alike : yX5_alike.cls ≠ "java/lang/invoke/MethodHandle" ∧ yX5_alike.cls ≠ "java/lang/invoke/VarHandle" ∧ (parseMethodDescriptor yX5_alike.desc).map (fun d => d.parameters.length) = some 2 := by decide +kernel
theorem wc_X5_rank : Cond.code yX5_rank cX5_rank 2 (some .int) ∈ ww_ws := ww_t2 200 rfl rfl
theorem wn_X5_rank : Cond.instanceMethod yX5_rank ∈ ww_ws := ww_t2 198 rfl rfl
theorem we_X5_rank : Cond.selects RX5 yX5_rank yX5_rank ∈ ww_ws := ww_t2 199 rfl rfl
theorem wp_X5_rank : yX5_rank.cls ≠ "java/lang/invoke/MethodHandle" ∧ yX5_rank.cls ≠ "java/lang/invoke/VarHandle" ∧ (parseMethodDescriptor yX5_rank.desc).map (fun d => d.parameters.length) = some 1 := by decide +kernel
theorem wc_X5_length : Cond.code yX5_length cX5_length 2 (some .int) ∈ ww_ws := ww_t2 223 rfl rfl
theorem wn_X5_length : Cond.instanceMethod yX5_length ∈ ww_ws := ww_t2 221 rfl rfl
theorem we_X5_length : Cond.selects RX5 yX5_length yX5_length ∈ ww_ws := ww_t2 222 rfl rfl
theorem wp_X5_length : yX5_length.cls ≠ "java/lang/invoke/MethodHandle" ∧ yX5_length.cls ≠ "java/lang/invoke/VarHandle" ∧ (parseMethodDescriptor yX5_length.desc).map (fun d => d.parameters.length) = some 1 := by decide +kernel
theorem wc_X5_letter : Cond.code yX5_letter cX5_letter 3 (some .int) ∈ ww_ws := ww_t2 227 rfl rfl
theorem wn_X5_letter : Cond.instanceMethod yX5_letter ∈ ww_ws := ww_t2 225 rfl rfl
theorem we_X5_letter : Cond.selects RX5 yX5_letter yX5_letter ∈ ww_ws := ww_t2 226 rfl rfl
theorem wp_X5_letter : yX5_letter.cls ≠ "java/lang/invoke/MethodHandle" ∧ yX5_letter.cls ≠ "java/lang/invoke/VarHandle" ∧ (parseMethodDescriptor yX5_letter.desc).map (fun d => d.parameters.length) = some 2 := by decide +kernel
theorem wc_X5_adds : Cond.code yX5_adds cX5_adds 3 (some .int) ∈ ww_ws := ww_t2 232 rfl rfl
theorem wn_X5_adds : Cond.instanceMethod yX5_adds ∈ ww_ws := ww_t2 230 rfl rfl
theorem we_X5_adds : Cond.selects RX5 yX5_adds yX5_adds ∈ ww_ws := ww_t2 231 rfl rfl
theorem wp_X5_adds : yX5_adds.cls ≠ "java/lang/invoke/MethodHandle" ∧ yX5_adds.cls ≠ "java/lang/invoke/VarHandle" ∧ (parseMethodDescriptor yX5_adds.desc).map (fun d => d.parameters.length) = some 2 := by decide +kernel
theorem wc_X5_times : Cond.code yX5_times cX5_times 4 (some .int) ∈ ww_ws := ww_t3 1 rfl rfl
theorem wn_X5_times : Cond.instanceMethod yX5_times ∈ ww_ws := ww_t2 239 rfl rfl
theorem we_X5_times : Cond.selects RX5 yX5_times yX5_times ∈ ww_ws := ww_t3 0 rfl rfl
theorem wp_X5_times : yX5_times.cls ≠ "java/lang/invoke/MethodHandle" ∧ yX5_times.cls ≠ "java/lang/invoke/VarHandle" ∧ (parseMethodDescriptor yX5_times.desc).map (fun d => d.parameters.length) = some 3 := by decide +kernel
theorem wc_X5_inverse : Cond.code yX5_inverse cX5_inverse 3 (some .int) ∈ ww_ws := ww_t3 9 rfl rfl
theorem wn_X5_inverse : Cond.instanceMethod yX5_inverse ∈ ww_ws := ww_t3 7 rfl rfl
theorem we_X5_inverse : Cond.selects RX5 yX5_inverse yX5_inverse ∈ ww_ws := ww_t3 8 rfl rfl
theorem wp_X5_inverse : yX5_inverse.cls ≠ "java/lang/invoke/MethodHandle" ∧ yX5_inverse.cls ≠ "java/lang/invoke/VarHandle" ∧ (parseMethodDescriptor yX5_inverse.desc).map (fun d => d.parameters.length) = some 2 := by decide +kernel
theorem wc_X5_power : Cond.code yX5_power cX5_power 4 (some .int) ∈ ww_ws := ww_t3 15 rfl rfl
theorem wn_X5_power : Cond.instanceMethod yX5_power ∈ ww_ws := ww_t3 13 rfl rfl
theorem we_X5_power : Cond.selects RX5 yX5_power yX5_power ∈ ww_ws := ww_t3 14 rfl rfl
theorem wp_X5_power : yX5_power.cls ≠ "java/lang/invoke/MethodHandle" ∧ yX5_power.cls ≠ "java/lang/invoke/VarHandle" ∧ (parseMethodDescriptor yX5_power.desc).map (fun d => d.parameters.length) = some 3 := by decide +kernel
theorem wc_X5_ring : Cond.code yX5_ring cX5_ring 3 (some .int) ∈ ww_ws := ww_t3 27 rfl rfl
theorem wn_X5_ring : Cond.instanceMethod yX5_ring ∈ ww_ws := ww_t3 25 rfl rfl
theorem we_X5_ring : Cond.selects RX5 yX5_ring yX5_ring ∈ ww_ws := ww_t3 26 rfl rfl
theorem wp_X5_ring : yX5_ring.cls ≠ "java/lang/invoke/MethodHandle" ∧ yX5_ring.cls ≠ "java/lang/invoke/VarHandle" ∧ (parseMethodDescriptor yX5_ring.desc).map (fun d => d.parameters.length) = some 2 := by decide +kernel
theorem wc_X5_turn : Cond.code yX5_turn cX5_turn 4 (some .int) ∈ ww_ws := ww_t3 32 rfl rfl
theorem wn_X5_turn : Cond.instanceMethod yX5_turn ∈ ww_ws := ww_t3 30 rfl rfl
theorem we_X5_turn : Cond.selects RX5 yX5_turn yX5_turn ∈ ww_ws := ww_t3 31 rfl rfl
theorem wp_X5_turn : yX5_turn.cls ≠ "java/lang/invoke/MethodHandle" ∧ yX5_turn.cls ≠ "java/lang/invoke/VarHandle" ∧ (parseMethodDescriptor yX5_turn.desc).map (fun d => d.parameters.length) = some 3 := by decide +kernel
theorem wc_X5_sum : Cond.code yX5_sum cX5_sum 3 (some .int) ∈ ww_ws := ww_t3 37 rfl rfl
theorem wn_X5_sum : Cond.instanceMethod yX5_sum ∈ ww_ws := ww_t3 35 rfl rfl
theorem we_X5_sum : Cond.selects RX5 yX5_sum yX5_sum ∈ ww_ws := ww_t3 36 rfl rfl
theorem wp_X5_sum : yX5_sum.cls ≠ "java/lang/invoke/MethodHandle" ∧ yX5_sum.cls ≠ "java/lang/invoke/VarHandle" ∧ (parseMethodDescriptor yX5_sum.desc).map (fun d => d.parameters.length) = some 2 := by decide +kernel
theorem wc_X5_cuts : Cond.code yX5_cuts cX5_cuts 2 (some .int) ∈ ww_ws := ww_t3 42 rfl rfl
theorem wn_X5_cuts : Cond.instanceMethod yX5_cuts ∈ ww_ws := ww_t3 40 rfl rfl
theorem we_X5_cuts : Cond.selects RX5 yX5_cuts yX5_cuts ∈ ww_ws := ww_t3 41 rfl rfl
theorem wp_X5_cuts : yX5_cuts.cls ≠ "java/lang/invoke/MethodHandle" ∧ yX5_cuts.cls ≠ "java/lang/invoke/VarHandle" ∧ (parseMethodDescriptor yX5_cuts.desc).map (fun d => d.parameters.length) = some 1 := by decide +kernel
theorem wc_X5_cut : Cond.code yX5_cut cX5_cut 2 (some .int) ∈ ww_ws := ww_t3 70 rfl rfl
theorem wn_X5_cut : Cond.instanceMethod yX5_cut ∈ ww_ws := ww_t3 68 rfl rfl
theorem we_X5_cut : Cond.selects RX5 yX5_cut yX5_cut ∈ ww_ws := ww_t3 69 rfl rfl
theorem wp_X5_cut : yX5_cut.cls ≠ "java/lang/invoke/MethodHandle" ∧ yX5_cut.cls ≠ "java/lang/invoke/VarHandle" ∧ (parseMethodDescriptor yX5_cut.desc).map (fun d => d.parameters.length) = some 1 := by decide +kernel
theorem wc_X5_shorten : Cond.code yX5_shorten cX5_shorten 2 (some .int) ∈ ww_ws := ww_t3 84 rfl rfl
theorem wn_X5_shorten : Cond.instanceMethod yX5_shorten ∈ ww_ws := ww_t3 82 rfl rfl
theorem we_X5_shorten : Cond.selects RX5 yX5_shorten yX5_shorten ∈ ww_ws := ww_t3 83 rfl rfl
theorem wp_X5_shorten : yX5_shorten.cls ≠ "java/lang/invoke/MethodHandle" ∧ yX5_shorten.cls ≠ "java/lang/invoke/VarHandle" ∧ (parseMethodDescriptor yX5_shorten.desc).map (fun d => d.parameters.length) = some 1 := by decide +kernel
theorem wc_X5_trail : Cond.code yX5_trail cX5_trail 4 (some .int) ∈ ww_ws := ww_t3 94 rfl rfl
theorem wn_X5_trail : Cond.instanceMethod yX5_trail ∈ ww_ws := ww_t3 92 rfl rfl
theorem we_X5_trail : Cond.selects RX5 yX5_trail yX5_trail ∈ ww_ws := ww_t3 93 rfl rfl
theorem wp_X5_trail : yX5_trail.cls ≠ "java/lang/invoke/MethodHandle" ∧ yX5_trail.cls ≠ "java/lang/invoke/VarHandle" ∧ (parseMethodDescriptor yX5_trail.desc).map (fun d => d.parameters.length) = some 3 := by decide +kernel
theorem wc_X5_nothing : Cond.code yX5_nothing cX5_nothing 2 (some .int) ∈ ww_ws := ww_t3 102 rfl rfl
theorem wn_X5_nothing : Cond.instanceMethod yX5_nothing ∈ ww_ws := ww_t3 100 rfl rfl
theorem we_X5_nothing : Cond.selects RX5 yX5_nothing yX5_nothing ∈ ww_ws := ww_t3 101 rfl rfl
theorem wp_X5_nothing : yX5_nothing.cls ≠ "java/lang/invoke/MethodHandle" ∧ yX5_nothing.cls ≠ "java/lang/invoke/VarHandle" ∧ (parseMethodDescriptor yX5_nothing.desc).map (fun d => d.parameters.length) = some 1 := by decide +kernel
theorem wc_X5_same : Cond.code yX5_same cX5_same 3 (some .int) ∈ ww_ws := ww_t3 106 rfl rfl
theorem wn_X5_same : Cond.instanceMethod yX5_same ∈ ww_ws := ww_t3 104 rfl rfl
theorem we_X5_same : Cond.selects RX5 yX5_same yX5_same ∈ ww_ws := ww_t3 105 rfl rfl
theorem wp_X5_same : yX5_same.cls ≠ "java/lang/invoke/MethodHandle" ∧ yX5_same.cls ≠ "java/lang/invoke/VarHandle" ∧ (parseMethodDescriptor yX5_same.desc).map (fun d => d.parameters.length) = some 2 := by decide +kernel
theorem wc_X5_order : Cond.code yX5_order cX5_order 3 (some .int) ∈ ww_ws := ww_t3 110 rfl rfl
theorem wn_X5_order : Cond.instanceMethod yX5_order ∈ ww_ws := ww_t3 108 rfl rfl
theorem we_X5_order : Cond.selects RX5 yX5_order yX5_order ∈ ww_ws := ww_t3 109 rfl rfl
theorem wp_X5_order : yX5_order.cls ≠ "java/lang/invoke/MethodHandle" ∧ yX5_order.cls ≠ "java/lang/invoke/VarHandle" ∧ (parseMethodDescriptor yX5_order.desc).map (fun d => d.parameters.length) = some 1 := by decide +kernel
theorem wc_X5_turned : Cond.code yX5_turned cX5_turned 6 (some .int) ∈ ww_ws := ww_t3 114 rfl rfl
theorem wn_X5_turned : Cond.instanceMethod yX5_turned ∈ ww_ws := ww_t3 112 rfl rfl
theorem we_X5_turned : Cond.selects RX5 yX5_turned yX5_turned ∈ ww_ws := ww_t3 113 rfl rfl
theorem wp_X5_turned : yX5_turned.cls ≠ "java/lang/invoke/MethodHandle" ∧ yX5_turned.cls ≠ "java/lang/invoke/VarHandle" ∧ (parseMethodDescriptor yX5_turned.desc).map (fun d => d.parameters.length) = some 2 := by decide +kernel
theorem wc_X5_nothings : Cond.code yX5_nothings cX5_nothings 6 (some .int) ∈ ww_ws := ww_t3 133 rfl rfl
theorem wn_X5_nothings : Cond.instanceMethod yX5_nothings ∈ ww_ws := ww_t3 131 rfl rfl
theorem we_X5_nothings : Cond.selects RX5 yX5_nothings yX5_nothings ∈ ww_ws := ww_t3 132 rfl rfl
theorem wp_X5_nothings : yX5_nothings.cls ≠ "java/lang/invoke/MethodHandle" ∧ yX5_nothings.cls ≠ "java/lang/invoke/VarHandle" ∧ (parseMethodDescriptor yX5_nothings.desc).map (fun d => d.parameters.length) = some 1 := by decide +kernel
theorem wc_X5_draw : Cond.code yX5_draw cX5_draw 7 (some .int) ∈ ww_ws := ww_t3 137 rfl rfl
theorem wn_X5_draw : Cond.instanceMethod yX5_draw ∈ ww_ws := ww_t3 135 rfl rfl
theorem we_X5_draw : Cond.selects RX5 yX5_draw yX5_draw ∈ ww_ws := ww_t3 136 rfl rfl
theorem wp_X5_draw : yX5_draw.cls ≠ "java/lang/invoke/MethodHandle" ∧ yX5_draw.cls ≠ "java/lang/invoke/VarHandle" ∧ (parseMethodDescriptor yX5_draw.desc).map (fun d => d.parameters.length) = some 3 := by decide +kernel
theorem wc_X5_loops : Cond.code yX5_loops cX5_loops 7 (some .int) ∈ ww_ws := ww_t3 150 rfl rfl
theorem wn_X5_loops : Cond.instanceMethod yX5_loops ∈ ww_ws := ww_t3 148 rfl rfl
theorem we_X5_loops : Cond.selects RX5 yX5_loops yX5_loops ∈ ww_ws := ww_t3 149 rfl rfl
theorem wp_X5_loops : yX5_loops.cls ≠ "java/lang/invoke/MethodHandle" ∧ yX5_loops.cls ≠ "java/lang/invoke/VarHandle" ∧ (parseMethodDescriptor yX5_loops.desc).map (fun d => d.parameters.length) = some 3 := by decide +kernel
theorem wc_X5_told : Cond.code yX5_told cX5_told 2 (some .int) ∈ ww_ws := ww_t3 159 rfl rfl
theorem wn_X5_told : Cond.instanceMethod yX5_told ∈ ww_ws := ww_t3 157 rfl rfl
theorem we_X5_told : Cond.selects RX5 yX5_told yX5_told ∈ ww_ws := ww_t3 158 rfl rfl
theorem wp_X5_told : yX5_told.cls ≠ "java/lang/invoke/MethodHandle" ∧ yX5_told.cls ≠ "java/lang/invoke/VarHandle" ∧ (parseMethodDescriptor yX5_told.desc).map (fun d => d.parameters.length) = some 1 := by decide +kernel
theorem wc_X5_digest : Cond.code yX5_digest cX5_digest 4 (some .long) ∈ ww_ws := ww_t3 171 rfl rfl
theorem wn_X5_digest : Cond.instanceMethod yX5_digest ∈ ww_ws := ww_t3 169 rfl rfl
theorem we_X5_digest : Cond.selects RX5 yX5_digest yX5_digest ∈ ww_ws := ww_t3 170 rfl rfl
theorem wp_X5_digest : yX5_digest.cls ≠ "java/lang/invoke/MethodHandle" ∧ yX5_digest.cls ≠ "java/lang/invoke/VarHandle" ∧ (parseMethodDescriptor yX5_digest.desc).map (fun d => d.parameters.length) = some 0 := by decide +kernel
theorem wc_X5_isWord : Cond.code yX5_isWord cX5_isWord 1 (some .boolean) ∈ ww_ws := ww_t2 161 rfl rfl
theorem wn_X5_isWord : Cond.static yX5_isWord ∈ ww_ws := ww_t2 160 rfl rfl
theorem wp_X5_isWord : yX5_isWord.cls ≠ "java/lang/invoke/MethodHandle" ∧ yX5_isWord.cls ≠ "java/lang/invoke/VarHandle" ∧ (parseMethodDescriptor yX5_isWord.desc).map (fun d => d.parameters.length) = some 1 := by decide +kernel
theorem wc_X5_refuse : Cond.code yX5_refuse cX5_refuse 2 (some .int) ∈ ww_ws := ww_t1 234 rfl rfl
theorem wn_X5_refuse : Cond.instanceMethod yX5_refuse ∈ ww_ws := ww_t1 233 rfl rfl
theorem we_X5_refuse : Cond.selects RX5 yX5_refuse yX5_refuse ∈ ww_ws := ww_s1 yX5_refuse 11 0 rfl rfl
theorem wp_X5_refuse : yX5_refuse.cls ≠ "java/lang/invoke/MethodHandle" ∧ yX5_refuse.cls ≠ "java/lang/invoke/VarHandle" ∧ (parseMethodDescriptor yX5_refuse.desc).map (fun d => d.parameters.length) = some 1 := by decide +kernel
theorem wc_X5_keep : Cond.code yX5_keep cX5_keep 2 (some .int) ∈ ww_ws := ww_t2 237 rfl rfl
theorem wn_X5_keep : Cond.instanceMethod yX5_keep ∈ ww_ws := ww_t2 236 rfl rfl
theorem we_X5_keep : Cond.selects RX5 yX5_keep yX5_keep ∈ ww_ws := ww_s2 yX5_keep 11 3 rfl rfl
theorem wp_X5_keep : yX5_keep.cls ≠ "java/lang/invoke/MethodHandle" ∧ yX5_keep.cls ≠ "java/lang/invoke/VarHandle" ∧ (parseMethodDescriptor yX5_keep.desc).map (fun d => d.parameters.length) = some 1 := by decide +kernel
theorem wc_X5_readText : Cond.code yX5_readText cX5_readText 4 (some .int) ∈ ww_ws := ww_t2 10 rfl rfl
theorem wn_X5_readText : Cond.instanceMethod yX5_readText ∈ ww_ws := ww_t2 9 rfl rfl
theorem we_X5_readText : Cond.selects RX5 yX5_readText yX5_readText ∈ ww_ws := ww_s1 yX5_readText 11 1 rfl rfl
theorem wp_X5_readText : yX5_readText.cls ≠ "java/lang/invoke/MethodHandle" ∧ yX5_readText.cls ≠ "java/lang/invoke/VarHandle" ∧ (parseMethodDescriptor yX5_readText.desc).map (fun d => d.parameters.length) = some 2 := by decide +kernel
theorem wc_X5_makePower : Cond.code yX5_makePower cX5_makePower 5 none ∈ ww_ws := ww_t3 19 rfl rfl
theorem wn_X5_makePower : Cond.instanceMethod yX5_makePower ∈ ww_ws := ww_t3 18 rfl rfl
theorem we_X5_makePower : Cond.selects RX5 yX5_makePower yX5_makePower ∈ ww_ws := ww_s2 yX5_makePower 11 4 rfl rfl
theorem wp_X5_makePower : yX5_makePower.cls ≠ "java/lang/invoke/MethodHandle" ∧ yX5_makePower.cls ≠ "java/lang/invoke/VarHandle" ∧ (parseMethodDescriptor yX5_makePower.desc).map (fun d => d.parameters.length) = some 2 := by decide +kernel
theorem wc_X5_someBeginningTurns : Cond.code yX5_someBeginningTurns cX5_someBeginningTurns 4 (some .boolean) ∈ ww_ws := ww_t3 119 rfl rfl
theorem wn_X5_someBeginningTurns : Cond.instanceMethod yX5_someBeginningTurns ∈ ww_ws := ww_t3 118 rfl rfl
theorem we_X5_someBeginningTurns : Cond.selects RX5 yX5_someBeginningTurns yX5_someBeginningTurns ∈ ww_ws := ww_s2 yX5_someBeginningTurns 11 7 rfl rfl
theorem wp_X5_someBeginningTurns : yX5_someBeginningTurns.cls ≠ "java/lang/invoke/MethodHandle" ∧ yX5_someBeginningTurns.cls ≠ "java/lang/invoke/VarHandle" ∧ (parseMethodDescriptor yX5_someBeginningTurns.desc).map (fun d => d.parameters.length) = some 2 := by decide +kernel
theorem wc_X5_beginningTurns : Cond.code yX5_beginningTurns cX5_beginningTurns 5 (some .boolean) ∈ ww_ws := ww_t3 123 rfl rfl
theorem wn_X5_beginningTurns : Cond.instanceMethod yX5_beginningTurns ∈ ww_ws := ww_t3 122 rfl rfl
theorem we_X5_beginningTurns : Cond.selects RX5 yX5_beginningTurns yX5_beginningTurns ∈ ww_ws := ww_s2 yX5_beginningTurns 11 8 rfl rfl
theorem wp_X5_beginningTurns : yX5_beginningTurns.cls ≠ "java/lang/invoke/MethodHandle" ∧ yX5_beginningTurns.cls ≠ "java/lang/invoke/VarHandle" ∧ (parseMethodDescriptor yX5_beginningTurns.desc).map (fun d => d.parameters.length) = some 3 := by decide +kernel
theorem wc_X5_putLoop : Cond.code yX5_putLoop cX5_putLoop 4 none ∈ ww_ws := ww_t3 155 rfl rfl
theorem wn_X5_putLoop : Cond.instanceMethod yX5_putLoop ∈ ww_ws := ww_t3 154 rfl rfl
theorem we_X5_putLoop : Cond.selects RX5 yX5_putLoop yX5_putLoop ∈ ww_ws := ww_s2 yX5_putLoop 11 9 rfl rfl
theorem wp_X5_putLoop : yX5_putLoop.cls ≠ "java/lang/invoke/MethodHandle" ∧ yX5_putLoop.cls ≠ "java/lang/invoke/VarHandle" ∧ (parseMethodDescriptor yX5_putLoop.desc).map (fun d => d.parameters.length) = some 2 := by decide +kernel
theorem wc_X5_tell : Cond.code yX5_tell cX5_tell 2 (some .int) ∈ ww_ws := ww_t3 163 rfl rfl
theorem wn_X5_tell : Cond.instanceMethod yX5_tell ∈ ww_ws := ww_t3 162 rfl rfl
theorem we_X5_tell : Cond.selects RX5 yX5_tell yX5_tell ∈ ww_ws := ww_s2 yX5_tell 11 10 rfl rfl
theorem wp_X5_tell : yX5_tell.cls ≠ "java/lang/invoke/MethodHandle" ∧ yX5_tell.cls ≠ "java/lang/invoke/VarHandle" ∧ (parseMethodDescriptor yX5_tell.desc).map (fun d => d.parameters.length) = some 1 := by decide +kernel
theorem wc_X5_lettersOfAll : Cond.code yX5_lettersOfAll cX5_lettersOfAll 3 (some .int) ∈ ww_ws := ww_t3 167 rfl rfl
theorem wn_X5_lettersOfAll : Cond.instanceMethod yX5_lettersOfAll ∈ ww_ws := ww_t3 166 rfl rfl
theorem we_X5_lettersOfAll : Cond.selects RX5 yX5_lettersOfAll yX5_lettersOfAll ∈ ww_ws := ww_s2 yX5_lettersOfAll 11 11 rfl rfl
theorem wp_X5_lettersOfAll : yX5_lettersOfAll.cls ≠ "java/lang/invoke/MethodHandle" ∧ yX5_lettersOfAll.cls ≠ "java/lang/invoke/VarHandle" ∧ (parseMethodDescriptor yX5_lettersOfAll.desc).map (fun d => d.parameters.length) = some 0 := by decide +kernel
theorem wc_X5_digestOf : Cond.code yX5_digestOf cX5_digestOf 6 (some .long) ∈ ww_ws := ww_t3 176 rfl rfl
theorem wn_X5_digestOf : Cond.static yX5_digestOf ∈ ww_ws := ww_t3 175 rfl rfl
theorem wp_X5_digestOf : yX5_digestOf.cls ≠ "java/lang/invoke/MethodHandle" ∧ yX5_digestOf.cls ≠ "java/lang/invoke/VarHandle" ∧ (parseMethodDescriptor yX5_digestOf.desc).map (fun d => d.parameters.length) = some 2 := by decide +kernel
theorem wc_X5_nextDraw : Cond.code yX5_nextDraw cX5_nextDraw 2 (some .long) ∈ ww_ws := ww_t3 141 rfl rfl
theorem wn_X5_nextDraw : Cond.static yX5_nextDraw ∈ ww_ws := ww_t3 140 rfl rfl
theorem wp_X5_nextDraw : yX5_nextDraw.cls ≠ "java/lang/invoke/MethodHandle" ∧ yX5_nextDraw.cls ≠ "java/lang/invoke/VarHandle" ∧ (parseMethodDescriptor yX5_nextDraw.desc).map (fun d => d.parameters.length) = some 1 := by decide +kernel
theorem wc_X5_opposite : Cond.code yX5_opposite cX5_opposite 1 (some .int) ∈ ww_ws := ww_t2 86 rfl rfl
theorem wn_X5_opposite : Cond.static yX5_opposite ∈ ww_ws := ww_t2 85 rfl rfl
theorem wp_X5_opposite : yX5_opposite.cls ≠ "java/lang/invoke/MethodHandle" ∧ yX5_opposite.cls ≠ "java/lang/invoke/VarHandle" ∧ (parseMethodDescriptor yX5_opposite.desc).map (fun d => d.parameters.length) = some 1 := by decide +kernel
theorem wc_X6_init : Cond.code yX6_init cX6_init 1 none ∈ ww_ws := ww_t3 181 rfl rfl
theorem wn_X6_init : Cond.instanceMethod yX6_init ∈ ww_ws := ww_t3 180 rfl rfl
theorem wp_X6_init : yX6_init.cls ≠ "java/lang/invoke/MethodHandle" ∧ yX6_init.cls ≠ "java/lang/invoke/VarHandle" ∧ (parseMethodDescriptor yX6_init.desc).map (fun d => d.parameters.length) = some 0 := by decide +kernel
theorem wc_X6_in : Cond.code yX6_in cX6_in 6 (some .boolean) ∈ ww_ws := ww_t4 50 rfl rfl
theorem wn_X6_in : Cond.static yX6_in ∈ ww_ws := ww_t4 49 rfl rfl
theorem wp_X6_in : yX6_in.cls ≠ "java/lang/invoke/MethodHandle" ∧ yX6_in.cls ≠ "java/lang/invoke/VarHandle" ∧ (parseMethodDescriptor yX6_in.desc).map (fun d => d.parameters.length) = some 3 := by decide +kernel
theorem wc_X6_bad : Cond.code yX6_bad cX6_bad 1 (some .int) ∈ ww_ws := ww_t4 55 rfl rfl
theorem wn_X6_bad : Cond.instanceMethod yX6_bad ∈ ww_ws := ww_t4 54 rfl rfl
theorem we_X6_bad : Cond.selects RX6 yX6_bad yX6_bad ∈ ww_ws := ww_s2 yX6_bad 32 13 rfl rfl
theorem wp_X6_bad : yX6_bad.cls ≠ "java/lang/invoke/MethodHandle" ∧ yX6_bad.cls ≠ "java/lang/invoke/VarHandle" ∧ (parseMethodDescriptor yX6_bad.desc).map (fun d => d.parameters.length) = some 0 := by decide +kernel
theorem wc_X6_no : Cond.code yX6_no cX6_no 1 (some .int) ∈ ww_ws := ww_t4 194 rfl rfl
theorem wn_X6_no : Cond.instanceMethod yX6_no ∈ ww_ws := ww_t4 193 rfl rfl
theorem we_X6_no : Cond.selects RX6 yX6_no yX6_no ∈ ww_ws := ww_s3 yX6_no 32 15 rfl rfl
theorem wp_X6_no : yX6_no.cls ≠ "java/lang/invoke/MethodHandle" ∧ yX6_no.cls ≠ "java/lang/invoke/VarHandle" ∧ (parseMethodDescriptor yX6_no.desc).map (fun d => d.parameters.length) = some 0 := by decide +kernel
theorem wc_X6_full : Cond.code yX6_full cX6_full 1 (some .int) ∈ ww_ws := ww_t4 156 rfl rfl
theorem wn_X6_full : Cond.instanceMethod yX6_full ∈ ww_ws := ww_t4 155 rfl rfl
theorem we_X6_full : Cond.selects RX6 yX6_full yX6_full ∈ ww_ws := ww_s3 yX6_full 32 11 rfl rfl
theorem wp_X6_full : yX6_full.cls ≠ "java/lang/invoke/MethodHandle" ∧ yX6_full.cls ≠ "java/lang/invoke/VarHandle" ∧ (parseMethodDescriptor yX6_full.desc).map (fun d => d.parameters.length) = some 0 := by decide +kernel
theorem wc_X6_isWord : Cond.code yX6_isWord cX6_isWord 1 (some .boolean) ∈ ww_ws := ww_t4 123 rfl rfl
theorem wn_X6_isWord : Cond.static yX6_isWord ∈ ww_ws := ww_t4 122 rfl rfl
theorem wp_X6_isWord : yX6_isWord.cls ≠ "java/lang/invoke/MethodHandle" ∧ yX6_isWord.cls ≠ "java/lang/invoke/VarHandle" ∧ (parseMethodDescriptor yX6_isWord.desc).map (fun d => d.parameters.length) = some 1 := by decide +kernel
theorem wc_X6_isLetter : Cond.code yX6_isLetter cX6_isLetter 1 (some .boolean) ∈ ww_ws := ww_t4 135 rfl rfl
theorem wn_X6_isLetter : Cond.static yX6_isLetter ∈ ww_ws := ww_t4 134 rfl rfl
theorem wp_X6_isLetter : yX6_isLetter.cls ≠ "java/lang/invoke/MethodHandle" ∧ yX6_isLetter.cls ≠ "java/lang/invoke/VarHandle" ∧ (parseMethodDescriptor yX6_isLetter.desc).map (fun d => d.parameters.length) = some 1 := by decide +kernel
theorem wc_X6_opposite : Cond.code yX6_opposite cX6_opposite 1 (some .int) ∈ ww_ws := ww_t4 74 rfl rfl
theorem wn_X6_opposite : Cond.static yX6_opposite ∈ ww_ws := ww_t4 73 rfl rfl
theorem wp_X6_opposite : yX6_opposite.cls ≠ "java/lang/invoke/MethodHandle" ∧ yX6_opposite.cls ≠ "java/lang/invoke/VarHandle" ∧ (parseMethodDescriptor yX6_opposite.desc).map (fun d => d.parameters.length) = some 1 := by decide +kernel
theorem wc_X6_push : Cond.code yX6_push cX6_push 2 none ∈ ww_ws := ww_t4 148 rfl rfl
theorem wn_X6_push : Cond.instanceMethod yX6_push ∈ ww_ws := ww_t4 147 rfl rfl
theorem we_X6_push : Cond.selects RX6 yX6_push yX6_push ∈ ww_ws := ww_s3 yX6_push 32 9 rfl rfl
theorem wp_X6_push : yX6_push.cls ≠ "java/lang/invoke/MethodHandle" ∧ yX6_push.cls ≠ "java/lang/invoke/VarHandle" ∧ (parseMethodDescriptor yX6_push.desc).map (fun d => d.parameters.length) = some 1 := by decide +kernel
theorem wc_X6_pushWord : Cond.code yX6_pushWord cX6_pushWord 3 none ∈ ww_ws := ww_t4 144 rfl rfl
theorem wn_X6_pushWord : Cond.instanceMethod yX6_pushWord ∈ ww_ws := ww_t4 143 rfl rfl
theorem we_X6_pushWord : Cond.selects RX6 yX6_pushWord yX6_pushWord ∈ ww_ws := ww_s3 yX6_pushWord 32 8 rfl rfl
theorem wp_X6_pushWord : yX6_pushWord.cls ≠ "java/lang/invoke/MethodHandle" ∧ yX6_pushWord.cls ≠ "java/lang/invoke/VarHandle" ∧ (parseMethodDescriptor yX6_pushWord.desc).map (fun d => d.parameters.length) = some 1 := by decide +kernel
theorem wc_X6_pushInverse : Cond.code yX6_pushInverse cX6_pushInverse 3 none ∈ ww_ws := ww_t4 172 rfl rfl
theorem wn_X6_pushInverse : Cond.instanceMethod yX6_pushInverse ∈ ww_ws := ww_t4 171 rfl rfl
theorem we_X6_pushInverse : Cond.selects RX6 yX6_pushInverse yX6_pushInverse ∈ ww_ws := ww_s3 yX6_pushInverse 32 13 rfl rfl
theorem wp_X6_pushInverse : yX6_pushInverse.cls ≠ "java/lang/invoke/MethodHandle" ∧ yX6_pushInverse.cls ≠ "java/lang/invoke/VarHandle" ∧ (parseMethodDescriptor yX6_pushInverse.desc).map (fun d => d.parameters.length) = some 1 := by decide +kernel
theorem wc_X6_handWord : Cond.code yX6_handWord cX6_handWord 2 none ∈ ww_ws := ww_t4 140 rfl rfl
theorem wn_X6_handWord : Cond.instanceMethod yX6_handWord ∈ ww_ws := ww_t4 139 rfl rfl
theorem we_X6_handWord : Cond.selects RX6 yX6_handWord yX6_handWord ∈ ww_ws := ww_s3 yX6_handWord 32 7 rfl rfl
theorem wp_X6_handWord : yX6_handWord.cls ≠ "java/lang/invoke/MethodHandle" ∧ yX6_handWord.cls ≠ "java/lang/invoke/VarHandle" ∧ (parseMethodDescriptor yX6_handWord.desc).map (fun d => d.parameters.length) = some 1 := by decide +kernel
theorem wc_X6_layWord : Cond.code yX6_layWord cX6_layWord 3 (some .int) ∈ ww_ws := ww_t4 160 rfl rfl
theorem wn_X6_layWord : Cond.instanceMethod yX6_layWord ∈ ww_ws := ww_t4 159 rfl rfl
theorem we_X6_layWord : Cond.selects RX6 yX6_layWord yX6_layWord ∈ ww_ws := ww_s3 yX6_layWord 32 12 rfl rfl
theorem wp_X6_layWord : yX6_layWord.cls ≠ "java/lang/invoke/MethodHandle" ∧ yX6_layWord.cls ≠ "java/lang/invoke/VarHandle" ∧ (parseMethodDescriptor yX6_layWord.desc).map (fun d => d.parameters.length) = some 1 := by decide +kernel
theorem wc_X6_layIfFits : Cond.code yX6_layIfFits cX6_layIfFits 2 (some .int) ∈ ww_ws := ww_t4 152 rfl rfl
theorem wn_X6_layIfFits : Cond.instanceMethod yX6_layIfFits ∈ ww_ws := ww_t4 151 rfl rfl
theorem we_X6_layIfFits : Cond.selects RX6 yX6_layIfFits yX6_layIfFits ∈ ww_ws := ww_s3 yX6_layIfFits 32 10 rfl rfl
theorem wp_X6_layIfFits : yX6_layIfFits.cls ≠ "java/lang/invoke/MethodHandle" ∧ yX6_layIfFits.cls ≠ "java/lang/invoke/VarHandle" ∧ (parseMethodDescriptor yX6_layIfFits.desc).map (fun d => d.parameters.length) = some 1 := by decide +kernel
theorem wc_X6_ringHand : Cond.code yX6_ringHand cX6_ringHand 3 none ∈ ww_ws := ww_t4 185 rfl rfl
theorem wn_X6_ringHand : Cond.instanceMethod yX6_ringHand ∈ ww_ws := ww_t4 184 rfl rfl
theorem we_X6_ringHand : Cond.selects RX6 yX6_ringHand yX6_ringHand ∈ ww_ws := ww_s3 yX6_ringHand 32 14 rfl rfl
theorem wp_X6_ringHand : yX6_ringHand.cls ≠ "java/lang/invoke/MethodHandle" ∧ yX6_ringHand.cls ≠ "java/lang/invoke/VarHandle" ∧ (parseMethodDescriptor yX6_ringHand.desc).map (fun d => d.parameters.length) = some 0 := by decide +kernel
theorem wc_X6_relatorLetter : Cond.code yX6_relatorLetter cX6_relatorLetter 7 (some .int) ∈ ww_ws := ww_t4 71 rfl rfl
theorem wn_X6_relatorLetter : Cond.instanceMethod yX6_relatorLetter ∈ ww_ws := ww_t4 70 rfl rfl
theorem we_X6_relatorLetter : Cond.selects RX6 yX6_relatorLetter yX6_relatorLetter ∈ ww_ws := ww_s3 yX6_relatorLetter 32 1 rfl rfl
theorem wp_X6_relatorLetter : yX6_relatorLetter.cls ≠ "java/lang/invoke/MethodHandle" ∧ yX6_relatorLetter.cls ≠ "java/lang/invoke/VarHandle" ∧ (parseMethodDescriptor yX6_relatorLetter.desc).map (fun d => d.parameters.length) = some 4 := by decide +kernel
theorem wc_X6_isTurn : Cond.code yX6_isTurn cX6_isTurn 7 (some .boolean) ∈ ww_ws := ww_t4 67 rfl rfl
theorem wn_X6_isTurn : Cond.instanceMethod yX6_isTurn ∈ ww_ws := ww_t4 66 rfl rfl
theorem we_X6_isTurn : Cond.selects RX6 yX6_isTurn yX6_isTurn ∈ ww_ws := ww_s3 yX6_isTurn 32 0 rfl rfl
theorem wp_X6_isTurn : yX6_isTurn.cls ≠ "java/lang/invoke/MethodHandle" ∧ yX6_isTurn.cls ≠ "java/lang/invoke/VarHandle" ∧ (parseMethodDescriptor yX6_isTurn.desc).map (fun d => d.parameters.length) = some 4 := by decide +kernel
theorem wc_X6_isListed : Cond.code yX6_isListed cX6_isListed 6 (some .boolean) ∈ ww_ws := ww_t5 117 rfl rfl
theorem wn_X6_isListed : Cond.instanceMethod yX6_isListed ∈ ww_ws := ww_t5 116 rfl rfl
theorem we_X6_isListed : Cond.selects RX6 yX6_isListed yX6_isListed ∈ ww_ws := ww_s5 yX6_isListed 32 1 rfl rfl
theorem wp_X6_isListed : yX6_isListed.cls ≠ "java/lang/invoke/MethodHandle" ∧ yX6_isListed.cls ≠ "java/lang/invoke/VarHandle" ∧ (parseMethodDescriptor yX6_isListed.desc).map (fun d => d.parameters.length) = some 3 := by decide +kernel
theorem wc_X6_listTurns : Cond.code yX6_listTurns cX6_listTurns 5 none ∈ ww_ws := ww_t5 113 rfl rfl
theorem wn_X6_listTurns : Cond.instanceMethod yX6_listTurns ∈ ww_ws := ww_t5 112 rfl rfl
theorem we_X6_listTurns : Cond.selects RX6 yX6_listTurns yX6_listTurns ∈ ww_ws := ww_s5 yX6_listTurns 32 0 rfl rfl
theorem wp_X6_listTurns : yX6_listTurns.cls ≠ "java/lang/invoke/MethodHandle" ∧ yX6_listTurns.cls ≠ "java/lang/invoke/VarHandle" ∧ (parseMethodDescriptor yX6_listTurns.desc).map (fun d => d.parameters.length) = some 2 := by decide +kernel
theorem wc_X6_listMembers : Cond.code yX6_listMembers cX6_listMembers 2 none ∈ ww_ws := ww_t5 109 rfl rfl
theorem wn_X6_listMembers : Cond.instanceMethod yX6_listMembers ∈ ww_ws := ww_t5 108 rfl rfl
theorem we_X6_listMembers : Cond.selects RX6 yX6_listMembers yX6_listMembers ∈ ww_ws := ww_s4 yX6_listMembers 32 15 rfl rfl
theorem wp_X6_listMembers : yX6_listMembers.cls ≠ "java/lang/invoke/MethodHandle" ∧ yX6_listMembers.cls ≠ "java/lang/invoke/VarHandle" ∧ (parseMethodDescriptor yX6_listMembers.desc).map (fun d => d.parameters.length) = some 0 := by decide +kernel
theorem wc_X6_isMember : Cond.code yX6_isMember cX6_isMember 2 (some .boolean) ∈ ww_ws := ww_t4 86 rfl rfl
theorem wn_X6_isMember : Cond.instanceMethod yX6_isMember ∈ ww_ws := ww_t4 85 rfl rfl
theorem we_X6_isMember : Cond.selects RX6 yX6_isMember yX6_isMember ∈ ww_ws := ww_s3 yX6_isMember 32 3 rfl rfl
theorem wp_X6_isMember : yX6_isMember.cls ≠ "java/lang/invoke/MethodHandle" ∧ yX6_isMember.cls ≠ "java/lang/invoke/VarHandle" ∧ (parseMethodDescriptor yX6_isMember.desc).map (fun d => d.parameters.length) = some 1 := by decide +kernel
theorem wc_X6_isRelator : Cond.code yX6_isRelator cX6_isRelator 2 (some .boolean) ∈ ww_ws := ww_t4 47 rfl rfl
theorem wn_X6_isRelator : Cond.instanceMethod yX6_isRelator ∈ ww_ws := ww_t4 46 rfl rfl
theorem we_X6_isRelator : Cond.selects RX6 yX6_isRelator yX6_isRelator ∈ ww_ws := ww_s2 yX6_isRelator 32 12 rfl rfl
theorem wp_X6_isRelator : yX6_isRelator.cls ≠ "java/lang/invoke/MethodHandle" ∧ yX6_isRelator.cls ≠ "java/lang/invoke/VarHandle" ∧ (parseMethodDescriptor yX6_isRelator.desc).map (fun d => d.parameters.length) = some 1 := by decide +kernel
theorem wc_X6_beginAlike : Cond.code yX6_beginAlike cX6_beginAlike 4 (some .int) ∈ ww_ws := ww_t4 78 rfl rfl
theorem wn_X6_beginAlike : Cond.instanceMethod yX6_beginAlike ∈ ww_ws := ww_t4 77 rfl rfl
theorem we_X6_beginAlike : Cond.selects RX6 yX6_beginAlike yX6_beginAlike ∈ ww_ws := ww_s3 yX6_beginAlike 32 2 rfl rfl
theorem wp_X6_beginAlike : yX6_beginAlike.cls ≠ "java/lang/invoke/MethodHandle" ∧ yX6_beginAlike.cls ≠ "java/lang/invoke/VarHandle" ∧ (parseMethodDescriptor yX6_beginAlike.desc).map (fun d => d.parameters.length) = some 2 := by decide +kernel
theorem wc_X6_isOf : Cond.code yX6_isOf cX6_isOf 5 (some .boolean) ∈ ww_ws := ww_t4 63 rfl rfl
theorem wn_X6_isOf : Cond.instanceMethod yX6_isOf ∈ ww_ws := ww_t4 62 rfl rfl
theorem we_X6_isOf : Cond.selects RX6 yX6_isOf yX6_isOf ∈ ww_ws := ww_s2 yX6_isOf 32 15 rfl rfl
theorem wp_X6_isOf : yX6_isOf.cls ≠ "java/lang/invoke/MethodHandle" ∧ yX6_isOf.cls ≠ "java/lang/invoke/VarHandle" ∧ (parseMethodDescriptor yX6_isOf.desc).map (fun d => d.parameters.length) = some 2 := by decide +kernel
theorem wc_X6_pieceOf : Cond.code yX6_pieceOf cX6_pieceOf 6 (some .int) ∈ ww_ws := ww_t4 59 rfl rfl
theorem wn_X6_pieceOf : Cond.instanceMethod yX6_pieceOf ∈ ww_ws := ww_t4 58 rfl rfl
theorem we_X6_pieceOf : Cond.selects RX6 yX6_pieceOf yX6_pieceOf ∈ ww_ws := ww_s2 yX6_pieceOf 32 14 rfl rfl
theorem wp_X6_pieceOf : yX6_pieceOf.cls ≠ "java/lang/invoke/MethodHandle" ∧ yX6_pieceOf.cls ≠ "java/lang/invoke/VarHandle" ∧ (parseMethodDescriptor yX6_pieceOf.desc).map (fun d => d.parameters.length) = some 1 := by decide +kernel
theorem wc_X6_isGood : Cond.code yX6_isGood cX6_isGood 4 (some .boolean) ∈ ww_ws := ww_t4 95 rfl rfl
theorem wn_X6_isGood : Cond.instanceMethod yX6_isGood ∈ ww_ws := ww_t4 94 rfl rfl
theorem we_X6_isGood : Cond.selects RX6 yX6_isGood yX6_isGood ∈ ww_ws := ww_s3 yX6_isGood 32 4 rfl rfl
theorem wp_X6_isGood : yX6_isGood.cls ≠ "java/lang/invoke/MethodHandle" ∧ yX6_isGood.cls ≠ "java/lang/invoke/VarHandle" ∧ (parseMethodDescriptor yX6_isGood.desc).map (fun d => d.parameters.length) = some 1 := by decide +kernel
theorem wc_X6_relator : Cond.code yX6_relator cX6_relator 5 (some .int) ∈ ww_ws := ww_t4 43 rfl rfl
theorem wn_X6_relator : Cond.instanceMethod yX6_relator ∈ ww_ws := ww_t4 41 rfl rfl
theorem we_X6_relator : Cond.selects RX6 yX6_relator yX6_relator ∈ ww_ws := ww_t4 42 rfl rfl
theorem wp_X6_relator : yX6_relator.cls ≠ "java/lang/invoke/MethodHandle" ∧ yX6_relator.cls ≠ "java/lang/invoke/VarHandle" ∧ (parseMethodDescriptor yX6_relator.desc).map (fun d => d.parameters.length) = some 2 := by decide +kernel
theorem wc_X6_member : Cond.code yX6_member cX6_member 3 (some .int) ∈ ww_ws := ww_t4 82 rfl rfl
theorem wn_X6_member : Cond.instanceMethod yX6_member ∈ ww_ws := ww_t4 80 rfl rfl
theorem we_X6_member : Cond.selects RX6 yX6_member yX6_member ∈ ww_ws := ww_t4 81 rfl rfl
theorem wp_X6_member : yX6_member.cls ≠ "java/lang/invoke/MethodHandle" ∧ yX6_member.cls ≠ "java/lang/invoke/VarHandle" ∧ (parseMethodDescriptor yX6_member.desc).map (fun d => d.parameters.length) = some 2 := by decide +kernel
theorem wc_X6_good : Cond.code yX6_good cX6_good 2 (some .int) ∈ ww_ws := ww_t4 90 rfl rfl
theorem wn_X6_good : Cond.instanceMethod yX6_good ∈ ww_ws := ww_t4 88 rfl rfl
theorem we_X6_good : Cond.selects RX6 yX6_good yX6_good ∈ ww_ws := ww_t4 89 rfl rfl
theorem wp_X6_good : yX6_good.cls ≠ "java/lang/invoke/MethodHandle" ∧ yX6_good.cls ≠ "java/lang/invoke/VarHandle" ∧ (parseMethodDescriptor yX6_good.desc).map (fun d => d.parameters.length) = some 1 := by decide +kernel
theorem wc_X6_alike : Cond.code yX6_alike cX6_alike 3 (some .int) ∈ ww_ws := ww_t4 99 rfl rfl
theorem wn_X6_alike : Cond.instanceMethod yX6_alike ∈ ww_ws := ww_t4 97 rfl rfl
theorem we_X6_alike : Cond.selects RX6 yX6_alike yX6_alike ∈ ww_ws := ww_t4 98 rfl rfl
theorem wp_X6_alike : yX6_alike.cls ≠ "java/lang/invoke/MethodHandle" ∧ yX6_alike.cls ≠ "java/lang/invoke/VarHandle" ∧ (parseMethodDescriptor yX6_alike.desc).map (fun d => d.parameters.length) = some 2 := by decide +kernel
theorem wc_X6_layMatrix : Cond.code yX6_layMatrix cX6_layMatrix 5 none ∈ ww_ws := ww_t4 107 rfl rfl
theorem wn_X6_layMatrix : Cond.instanceMethod yX6_layMatrix ∈ ww_ws := ww_t4 106 rfl rfl
theorem we_X6_layMatrix : Cond.selects RX6 yX6_layMatrix yX6_layMatrix ∈ ww_ws := ww_s3 yX6_layMatrix 32 5 rfl rfl
theorem wp_X6_layMatrix : yX6_layMatrix.cls ≠ "java/lang/invoke/MethodHandle" ∧ yX6_layMatrix.cls ≠ "java/lang/invoke/VarHandle" ∧ (parseMethodDescriptor yX6_layMatrix.desc).map (fun d => d.parameters.length) = some 1 := by decide +kernel
theorem wc_X6_swapRows : Cond.code yX6_swapRows cX6_swapRows 5 none ∈ ww_ws := ww_t4 111 rfl rfl
theorem wn_X6_swapRows : Cond.instanceMethod yX6_swapRows ∈ ww_ws := ww_t4 110 rfl rfl
theorem we_X6_swapRows : Cond.selects RX6 yX6_swapRows yX6_swapRows ∈ ww_ws := ww_s3 yX6_swapRows 32 6 rfl rfl
theorem wp_X6_swapRows : yX6_swapRows.cls ≠ "java/lang/invoke/MethodHandle" ∧ yX6_swapRows.cls ≠ "java/lang/invoke/VarHandle" ∧ (parseMethodDescriptor yX6_swapRows.desc).map (fun d => d.parameters.length) = some 2 := by decide +kernel
theorem wc_X6_rank : Cond.code yX6_rank cX6_rank 8 (some .int) ∈ ww_ws := ww_t4 103 rfl rfl
theorem wn_X6_rank : Cond.instanceMethod yX6_rank ∈ ww_ws := ww_t4 101 rfl rfl
theorem we_X6_rank : Cond.selects RX6 yX6_rank yX6_rank ∈ ww_ws := ww_t4 102 rfl rfl
theorem wp_X6_rank : yX6_rank.cls ≠ "java/lang/invoke/MethodHandle" ∧ yX6_rank.cls ≠ "java/lang/invoke/VarHandle" ∧ (parseMethodDescriptor yX6_rank.desc).map (fun d => d.parameters.length) = some 1 := by decide +kernel
theorem wc_X6_chooser : Cond.code yX6_chooser cX6_chooser 3 (some .int) ∈ ww_ws := ww_t4 115 rfl rfl
theorem wn_X6_chooser : Cond.instanceMethod yX6_chooser ∈ ww_ws := ww_t4 113 rfl rfl
theorem we_X6_chooser : Cond.selects RX6 yX6_chooser yX6_chooser ∈ ww_ws := ww_t4 114 rfl rfl
theorem wp_X6_chooser : yX6_chooser.cls ≠ "java/lang/invoke/MethodHandle" ∧ yX6_chooser.cls ≠ "java/lang/invoke/VarHandle" ∧ (parseMethodDescriptor yX6_chooser.desc).map (fun d => d.parameters.length) = some 1 := by decide +kernel
theorem wc_X6_length : Cond.code yX6_length cX6_length 2 (some .int) ∈ ww_ws := ww_t4 120 rfl rfl
theorem wn_X6_length : Cond.instanceMethod yX6_length ∈ ww_ws := ww_t4 118 rfl rfl
theorem we_X6_length : Cond.selects RX6 yX6_length yX6_length ∈ ww_ws := ww_t4 119 rfl rfl
theorem wp_X6_length : yX6_length.cls ≠ "java/lang/invoke/MethodHandle" ∧ yX6_length.cls ≠ "java/lang/invoke/VarHandle" ∧ (parseMethodDescriptor yX6_length.desc).map (fun d => d.parameters.length) = some 1 := by decide +kernel
theorem wc_X6_letter : Cond.code yX6_letter cX6_letter 3 (some .int) ∈ ww_ws := ww_t4 128 rfl rfl
theorem wn_X6_letter : Cond.instanceMethod yX6_letter ∈ ww_ws := ww_t4 126 rfl rfl
theorem we_X6_letter : Cond.selects RX6 yX6_letter yX6_letter ∈ ww_ws := ww_t4 127 rfl rfl
theorem wp_X6_letter : yX6_letter.cls ≠ "java/lang/invoke/MethodHandle" ∧ yX6_letter.cls ≠ "java/lang/invoke/VarHandle" ∧ (parseMethodDescriptor yX6_letter.desc).map (fun d => d.parameters.length) = some 2 := by decide +kernel
theorem wc_X6_adds : Cond.code yX6_adds cX6_adds 3 (some .int) ∈ ww_ws := ww_t4 132 rfl rfl
theorem wn_X6_adds : Cond.instanceMethod yX6_adds ∈ ww_ws := ww_t4 130 rfl rfl
theorem we_X6_adds : Cond.selects RX6 yX6_adds yX6_adds ∈ ww_ws := ww_t4 131 rfl rfl
theorem wp_X6_adds : yX6_adds.cls ≠ "java/lang/invoke/MethodHandle" ∧ yX6_adds.cls ≠ "java/lang/invoke/VarHandle" ∧ (parseMethodDescriptor yX6_adds.desc).map (fun d => d.parameters.length) = some 2 := by decide +kernel
theorem wc_X6_times : Cond.code yX6_times cX6_times 4 (some .int) ∈ ww_ws := ww_t4 164 rfl rfl
theorem wn_X6_times : Cond.instanceMethod yX6_times ∈ ww_ws := ww_t4 162 rfl rfl
theorem we_X6_times : Cond.selects RX6 yX6_times yX6_times ∈ ww_ws := ww_t4 163 rfl rfl
theorem wp_X6_times : yX6_times.cls ≠ "java/lang/invoke/MethodHandle" ∧ yX6_times.cls ≠ "java/lang/invoke/VarHandle" ∧ (parseMethodDescriptor yX6_times.desc).map (fun d => d.parameters.length) = some 3 := by decide +kernel
theorem wc_X6_inverse : Cond.code yX6_inverse cX6_inverse 3 (some .int) ∈ ww_ws := ww_t4 168 rfl rfl
theorem wn_X6_inverse : Cond.instanceMethod yX6_inverse ∈ ww_ws := ww_t4 166 rfl rfl
theorem we_X6_inverse : Cond.selects RX6 yX6_inverse yX6_inverse ∈ ww_ws := ww_t4 167 rfl rfl
theorem wp_X6_inverse : yX6_inverse.cls ≠ "java/lang/invoke/MethodHandle" ∧ yX6_inverse.cls ≠ "java/lang/invoke/VarHandle" ∧ (parseMethodDescriptor yX6_inverse.desc).map (fun d => d.parameters.length) = some 2 := by decide +kernel
theorem wc_X6_power : Cond.code yX6_power cX6_power 5 (some .int) ∈ ww_ws := ww_t4 176 rfl rfl
theorem wn_X6_power : Cond.instanceMethod yX6_power ∈ ww_ws := ww_t4 174 rfl rfl
theorem we_X6_power : Cond.selects RX6 yX6_power yX6_power ∈ ww_ws := ww_t4 175 rfl rfl
theorem wp_X6_power : yX6_power.cls ≠ "java/lang/invoke/MethodHandle" ∧ yX6_power.cls ≠ "java/lang/invoke/VarHandle" ∧ (parseMethodDescriptor yX6_power.desc).map (fun d => d.parameters.length) = some 3 := by decide +kernel
theorem wc_X6_ring : Cond.code yX6_ring cX6_ring 3 (some .int) ∈ ww_ws := ww_t4 181 rfl rfl
theorem wn_X6_ring : Cond.instanceMethod yX6_ring ∈ ww_ws := ww_t4 179 rfl rfl
theorem we_X6_ring : Cond.selects RX6 yX6_ring yX6_ring ∈ ww_ws := ww_t4 180 rfl rfl
theorem wp_X6_ring : yX6_ring.cls ≠ "java/lang/invoke/MethodHandle" ∧ yX6_ring.cls ≠ "java/lang/invoke/VarHandle" ∧ (parseMethodDescriptor yX6_ring.desc).map (fun d => d.parameters.length) = some 2 := by decide +kernel
theorem wc_X6_turn : Cond.code yX6_turn cX6_turn 5 (some .int) ∈ ww_ws := ww_t4 189 rfl rfl
theorem wn_X6_turn : Cond.instanceMethod yX6_turn ∈ ww_ws := ww_t4 187 rfl rfl
theorem we_X6_turn : Cond.selects RX6 yX6_turn yX6_turn ∈ ww_ws := ww_t4 188 rfl rfl
theorem wp_X6_turn : yX6_turn.cls ≠ "java/lang/invoke/MethodHandle" ∧ yX6_turn.cls ≠ "java/lang/invoke/VarHandle" ∧ (parseMethodDescriptor yX6_turn.desc).map (fun d => d.parameters.length) = some 3 := by decide +kernel
theorem wc_X6_sum : Cond.code yX6_sum cX6_sum 6 (some .int) ∈ ww_ws := ww_t4 198 rfl rfl
theorem wn_X6_sum : Cond.instanceMethod yX6_sum ∈ ww_ws := ww_t4 196 rfl rfl
theorem we_X6_sum : Cond.selects RX6 yX6_sum yX6_sum ∈ ww_ws := ww_t4 197 rfl rfl
theorem wp_X6_sum : yX6_sum.cls ≠ "java/lang/invoke/MethodHandle" ∧ yX6_sum.cls ≠ "java/lang/invoke/VarHandle" ∧ (parseMethodDescriptor yX6_sum.desc).map (fun d => d.parameters.length) = some 2 := by decide +kernel
theorem wc_X6_matches : Cond.code yX6_matches cX6_matches 4 (some .int) ∈ ww_ws := ww_t4 211 rfl rfl
theorem wn_X6_matches : Cond.instanceMethod yX6_matches ∈ ww_ws := ww_t4 210 rfl rfl
theorem we_X6_matches : Cond.selects RX6 yX6_matches yX6_matches ∈ ww_ws := ww_s4 yX6_matches 32 1 rfl rfl
theorem wp_X6_matches : yX6_matches.cls ≠ "java/lang/invoke/MethodHandle" ∧ yX6_matches.cls ≠ "java/lang/invoke/VarHandle" ∧ (parseMethodDescriptor yX6_matches.desc).map (fun d => d.parameters.length) = some 2 := by decide +kernel
theorem wc_X6_saves : Cond.code yX6_saves cX6_saves 2 (some .int) ∈ ww_ws := ww_t4 214 rfl rfl
theorem wn_X6_saves : Cond.static yX6_saves ∈ ww_ws := ww_t4 213 rfl rfl
theorem wp_X6_saves : yX6_saves.cls ≠ "java/lang/invoke/MethodHandle" ∧ yX6_saves.cls ≠ "java/lang/invoke/VarHandle" ∧ (parseMethodDescriptor yX6_saves.desc).map (fun d => d.parameters.length) = some 2 := by decide +kernel
theorem wc_X6_isBetter : Cond.code yX6_isBetter cX6_isBetter 6 (some .boolean) ∈ ww_ws := ww_t4 218 rfl rfl
theorem wn_X6_isBetter : Cond.instanceMethod yX6_isBetter ∈ ww_ws := ww_t4 217 rfl rfl
theorem we_X6_isBetter : Cond.selects RX6 yX6_isBetter yX6_isBetter ∈ ww_ws := ww_s4 yX6_isBetter 32 2 rfl rfl
theorem wp_X6_isBetter : yX6_isBetter.cls ≠ "java/lang/invoke/MethodHandle" ∧ yX6_isBetter.cls ≠ "java/lang/invoke/VarHandle" ∧ (parseMethodDescriptor yX6_isBetter.desc).map (fun d => d.parameters.length) = some 3 := by decide +kernel
theorem wc_X6_findCut : Cond.code yX6_findCut cX6_findCut 4 none ∈ ww_ws := ww_t4 207 rfl rfl
theorem wn_X6_findCut : Cond.instanceMethod yX6_findCut ∈ ww_ws := ww_t4 206 rfl rfl
theorem we_X6_findCut : Cond.selects RX6 yX6_findCut yX6_findCut ∈ ww_ws := ww_s4 yX6_findCut 32 0 rfl rfl
theorem wp_X6_findCut : yX6_findCut.cls ≠ "java/lang/invoke/MethodHandle" ∧ yX6_findCut.cls ≠ "java/lang/invoke/VarHandle" ∧ (parseMethodDescriptor yX6_findCut.desc).map (fun d => d.parameters.length) = some 0 := by decide +kernel
theorem wc_X6_doCut : Cond.code yX6_doCut cX6_doCut 4 none ∈ ww_ws := ww_t4 226 rfl rfl
theorem wn_X6_doCut : Cond.instanceMethod yX6_doCut ∈ ww_ws := ww_t4 225 rfl rfl
theorem we_X6_doCut : Cond.selects RX6 yX6_doCut yX6_doCut ∈ ww_ws := ww_s4 yX6_doCut 32 3 rfl rfl
theorem wp_X6_doCut : yX6_doCut.cls ≠ "java/lang/invoke/MethodHandle" ∧ yX6_doCut.cls ≠ "java/lang/invoke/VarHandle" ∧ (parseMethodDescriptor yX6_doCut.desc).map (fun d => d.parameters.length) = some 0 := by decide +kernel
theorem wc_X6_shortenHand : Cond.code yX6_shortenHand cX6_shortenHand 3 (some .int) ∈ ww_ws := ww_t4 235 rfl rfl
theorem wn_X6_shortenHand : Cond.instanceMethod yX6_shortenHand ∈ ww_ws := ww_t4 234 rfl rfl
theorem we_X6_shortenHand : Cond.selects RX6 yX6_shortenHand yX6_shortenHand ∈ ww_ws := ww_s4 yX6_shortenHand 32 4 rfl rfl
theorem wp_X6_shortenHand : yX6_shortenHand.cls ≠ "java/lang/invoke/MethodHandle" ∧ yX6_shortenHand.cls ≠ "java/lang/invoke/VarHandle" ∧ (parseMethodDescriptor yX6_shortenHand.desc).map (fun d => d.parameters.length) = some 1 := by decide +kernel
theorem wc_X6_isNothing : Cond.code yX6_isNothing cX6_isNothing 2 (some .boolean) ∈ ww_ws := ww_t5 7 rfl rfl
theorem wn_X6_isNothing : Cond.instanceMethod yX6_isNothing ∈ ww_ws := ww_t5 6 rfl rfl
theorem we_X6_isNothing : Cond.selects RX6 yX6_isNothing yX6_isNothing ∈ ww_ws := ww_s4 yX6_isNothing 32 5 rfl rfl
theorem wp_X6_isNothing : yX6_isNothing.cls ≠ "java/lang/invoke/MethodHandle" ∧ yX6_isNothing.cls ≠ "java/lang/invoke/VarHandle" ∧ (parseMethodDescriptor yX6_isNothing.desc).map (fun d => d.parameters.length) = some 0 := by decide +kernel
theorem wc_X6_cuts : Cond.code yX6_cuts cX6_cuts 2 (some .int) ∈ ww_ws := ww_t4 203 rfl rfl
theorem wn_X6_cuts : Cond.instanceMethod yX6_cuts ∈ ww_ws := ww_t4 201 rfl rfl
theorem we_X6_cuts : Cond.selects RX6 yX6_cuts yX6_cuts ∈ ww_ws := ww_t4 202 rfl rfl
theorem wp_X6_cuts : yX6_cuts.cls ≠ "java/lang/invoke/MethodHandle" ∧ yX6_cuts.cls ≠ "java/lang/invoke/VarHandle" ∧ (parseMethodDescriptor yX6_cuts.desc).map (fun d => d.parameters.length) = some 1 := by decide +kernel
theorem wc_X6_cut : Cond.code yX6_cut cX6_cut 2 (some .int) ∈ ww_ws := ww_t4 222 rfl rfl
theorem wn_X6_cut : Cond.instanceMethod yX6_cut ∈ ww_ws := ww_t4 220 rfl rfl
theorem we_X6_cut : Cond.selects RX6 yX6_cut yX6_cut ∈ ww_ws := ww_t4 221 rfl rfl
theorem wp_X6_cut : yX6_cut.cls ≠ "java/lang/invoke/MethodHandle" ∧ yX6_cut.cls ≠ "java/lang/invoke/VarHandle" ∧ (parseMethodDescriptor yX6_cut.desc).map (fun d => d.parameters.length) = some 1 := by decide +kernel
theorem wc_X6_shorten : Cond.code yX6_shorten cX6_shorten 4 (some .int) ∈ ww_ws := ww_t4 230 rfl rfl
theorem wn_X6_shorten : Cond.instanceMethod yX6_shorten ∈ ww_ws := ww_t4 228 rfl rfl
theorem we_X6_shorten : Cond.selects RX6 yX6_shorten yX6_shorten ∈ ww_ws := ww_t4 229 rfl rfl
theorem wp_X6_shorten : yX6_shorten.cls ≠ "java/lang/invoke/MethodHandle" ∧ yX6_shorten.cls ≠ "java/lang/invoke/VarHandle" ∧ (parseMethodDescriptor yX6_shorten.desc).map (fun d => d.parameters.length) = some 1 := by decide +kernel
theorem wc_X6_trail : Cond.code yX6_trail cX6_trail 6 (some .int) ∈ ww_ws := ww_t4 239 rfl rfl
theorem wn_X6_trail : Cond.instanceMethod yX6_trail ∈ ww_ws := ww_t4 237 rfl rfl
theorem we_X6_trail : Cond.selects RX6 yX6_trail yX6_trail ∈ ww_ws := ww_t4 238 rfl rfl
theorem wp_X6_trail : yX6_trail.cls ≠ "java/lang/invoke/MethodHandle" ∧ yX6_trail.cls ≠ "java/lang/invoke/VarHandle" ∧ (parseMethodDescriptor yX6_trail.desc).map (fun d => d.parameters.length) = some 3 := by decide +kernel
theorem wc_X6_nothing : Cond.code yX6_nothing cX6_nothing 2 (some .int) ∈ ww_ws := ww_t5 3 rfl rfl
theorem wn_X6_nothing : Cond.instanceMethod yX6_nothing ∈ ww_ws := ww_t5 1 rfl rfl
theorem we_X6_nothing : Cond.selects RX6 yX6_nothing yX6_nothing ∈ ww_ws := ww_t5 2 rfl rfl
theorem wp_X6_nothing : yX6_nothing.cls ≠ "java/lang/invoke/MethodHandle" ∧ yX6_nothing.cls ≠ "java/lang/invoke/VarHandle" ∧ (parseMethodDescriptor yX6_nothing.desc).map (fun d => d.parameters.length) = some 1 := by decide +kernel
theorem wc_X6_same : Cond.code yX6_same cX6_same 3 (some .int) ∈ ww_ws := ww_t5 11 rfl rfl
theorem wn_X6_same : Cond.instanceMethod yX6_same ∈ ww_ws := ww_t5 9 rfl rfl
theorem we_X6_same : Cond.selects RX6 yX6_same yX6_same ∈ ww_ws := ww_t5 10 rfl rfl
theorem wp_X6_same : yX6_same.cls ≠ "java/lang/invoke/MethodHandle" ∧ yX6_same.cls ≠ "java/lang/invoke/VarHandle" ∧ (parseMethodDescriptor yX6_same.desc).map (fun d => d.parameters.length) = some 2 := by decide +kernel
theorem wc_X6_order : Cond.code yX6_order cX6_order 4 (some .int) ∈ ww_ws := ww_t5 15 rfl rfl
theorem wn_X6_order : Cond.instanceMethod yX6_order ∈ ww_ws := ww_t5 13 rfl rfl
theorem we_X6_order : Cond.selects RX6 yX6_order yX6_order ∈ ww_ws := ww_t5 14 rfl rfl
theorem wp_X6_order : yX6_order.cls ≠ "java/lang/invoke/MethodHandle" ∧ yX6_order.cls ≠ "java/lang/invoke/VarHandle" ∧ (parseMethodDescriptor yX6_order.desc).map (fun d => d.parameters.length) = some 1 := by decide +kernel
theorem wc_X6_layRings : Cond.code yX6_layRings cX6_layRings 4 none ∈ ww_ws := ww_t5 23 rfl rfl
theorem wn_X6_layRings : Cond.instanceMethod yX6_layRings ∈ ww_ws := ww_t5 22 rfl rfl
theorem we_X6_layRings : Cond.selects RX6 yX6_layRings yX6_layRings ∈ ww_ws := ww_s4 yX6_layRings 32 6 rfl rfl
theorem wp_X6_layRings : yX6_layRings.cls ≠ "java/lang/invoke/MethodHandle" ∧ yX6_layRings.cls ≠ "java/lang/invoke/VarHandle" ∧ (parseMethodDescriptor yX6_layRings.desc).map (fun d => d.parameters.length) = some 2 := by decide +kernel
theorem wc_X6_turnsBy : Cond.code yX6_turnsBy cX6_turnsBy 5 (some .boolean) ∈ ww_ws := ww_t5 27 rfl rfl
theorem wn_X6_turnsBy : Cond.instanceMethod yX6_turnsBy ∈ ww_ws := ww_t5 26 rfl rfl
theorem we_X6_turnsBy : Cond.selects RX6 yX6_turnsBy yX6_turnsBy ∈ ww_ws := ww_s4 yX6_turnsBy 32 7 rfl rfl
theorem wp_X6_turnsBy : yX6_turnsBy.cls ≠ "java/lang/invoke/MethodHandle" ∧ yX6_turnsBy.cls ≠ "java/lang/invoke/VarHandle" ∧ (parseMethodDescriptor yX6_turnsBy.desc).map (fun d => d.parameters.length) = some 3 := by decide +kernel
theorem wc_X6_turned : Cond.code yX6_turned cX6_turned 6 (some .int) ∈ ww_ws := ww_t5 19 rfl rfl
theorem wn_X6_turned : Cond.instanceMethod yX6_turned ∈ ww_ws := ww_t5 17 rfl rfl
theorem we_X6_turned : Cond.selects RX6 yX6_turned yX6_turned ∈ ww_ws := ww_t5 18 rfl rfl
theorem wp_X6_turned : yX6_turned.cls ≠ "java/lang/invoke/MethodHandle" ∧ yX6_turned.cls ≠ "java/lang/invoke/VarHandle" ∧ (parseMethodDescriptor yX6_turned.desc).map (fun d => d.parameters.length) = some 2 := by decide +kernel
theorem wc_X6_nothings : Cond.code yX6_nothings cX6_nothings 5 (some .int) ∈ ww_ws := ww_t5 31 rfl rfl
theorem wn_X6_nothings : Cond.instanceMethod yX6_nothings ∈ ww_ws := ww_t5 29 rfl rfl
theorem we_X6_nothings : Cond.selects RX6 yX6_nothings yX6_nothings ∈ ww_ws := ww_t5 30 rfl rfl
theorem wp_X6_nothings : yX6_nothings.cls ≠ "java/lang/invoke/MethodHandle" ∧ yX6_nothings.cls ≠ "java/lang/invoke/VarHandle" ∧ (parseMethodDescriptor yX6_nothings.desc).map (fun d => d.parameters.length) = some 1 := by decide +kernel
theorem wc_X6_drawn : Cond.code yX6_drawn cX6_drawn 2 (some .long) ∈ ww_ws := ww_t5 40 rfl rfl
theorem wn_X6_drawn : Cond.static yX6_drawn ∈ ww_ws := ww_t5 39 rfl rfl
theorem wp_X6_drawn : yX6_drawn.cls ≠ "java/lang/invoke/MethodHandle" ∧ yX6_drawn.cls ≠ "java/lang/invoke/VarHandle" ∧ (parseMethodDescriptor yX6_drawn.desc).map (fun d => d.parameters.length) = some 1 := by decide +kernel
theorem wc_X6_draw : Cond.code yX6_draw cX6_draw 7 (some .int) ∈ ww_ws := ww_t5 35 rfl rfl
theorem wn_X6_draw : Cond.instanceMethod yX6_draw ∈ ww_ws := ww_t5 33 rfl rfl
theorem we_X6_draw : Cond.selects RX6 yX6_draw yX6_draw ∈ ww_ws := ww_t5 34 rfl rfl
theorem wp_X6_draw : yX6_draw.cls ≠ "java/lang/invoke/MethodHandle" ∧ yX6_draw.cls ≠ "java/lang/invoke/VarHandle" ∧ (parseMethodDescriptor yX6_draw.desc).map (fun d => d.parameters.length) = some 3 := by decide +kernel
theorem wc_X6_loops : Cond.code yX6_loops cX6_loops 10 (some .int) ∈ ww_ws := ww_t5 49 rfl rfl
theorem wn_X6_loops : Cond.instanceMethod yX6_loops ∈ ww_ws := ww_t5 47 rfl rfl
theorem we_X6_loops : Cond.selects RX6 yX6_loops yX6_loops ∈ ww_ws := ww_t5 48 rfl rfl
theorem wp_X6_loops : yX6_loops.cls ≠ "java/lang/invoke/MethodHandle" ∧ yX6_loops.cls ≠ "java/lang/invoke/VarHandle" ∧ (parseMethodDescriptor yX6_loops.desc).map (fun d => d.parameters.length) = some 3 := by decide +kernel
theorem wc_X6_type : Cond.code yX6_type cX6_type 2 (some .int) ∈ ww_ws := ww_t5 55 rfl rfl
theorem wn_X6_type : Cond.instanceMethod yX6_type ∈ ww_ws := ww_t5 53 rfl rfl
theorem we_X6_type : Cond.selects RX6 yX6_type yX6_type ∈ ww_ws := ww_t5 54 rfl rfl
theorem wp_X6_type : yX6_type.cls ≠ "java/lang/invoke/MethodHandle" ∧ yX6_type.cls ≠ "java/lang/invoke/VarHandle" ∧ (parseMethodDescriptor yX6_type.desc).map (fun d => d.parameters.length) = some 1 := by decide +kernel
theorem wc_X6_clear : Cond.code yX6_clear cX6_clear 2 (some .int) ∈ ww_ws := ww_t5 60 rfl rfl
theorem wn_X6_clear : Cond.instanceMethod yX6_clear ∈ ww_ws := ww_t5 58 rfl rfl
theorem we_X6_clear : Cond.selects RX6 yX6_clear yX6_clear ∈ ww_ws := ww_t5 59 rfl rfl
theorem wp_X6_clear : yX6_clear.cls ≠ "java/lang/invoke/MethodHandle" ∧ yX6_clear.cls ≠ "java/lang/invoke/VarHandle" ∧ (parseMethodDescriptor yX6_clear.desc).map (fun d => d.parameters.length) = some 0 := by decide +kernel
theorem wc_X6_isBlank : Cond.code yX6_isBlank cX6_isBlank 1 (some .boolean) ∈ ww_ws := ww_t5 82 rfl rfl
theorem wn_X6_isBlank : Cond.static yX6_isBlank ∈ ww_ws := ww_t5 81 rfl rfl
theorem wp_X6_isBlank : yX6_isBlank.cls ≠ "java/lang/invoke/MethodHandle" ∧ yX6_isBlank.cls ≠ "java/lang/invoke/VarHandle" ∧ (parseMethodDescriptor yX6_isBlank.desc).map (fun d => d.parameters.length) = some 1 := by decide +kernel
theorem wc_X6_letterBy : Cond.code yX6_letterBy cX6_letterBy 1 (some .int) ∈ ww_ws := ww_t5 75 rfl rfl
theorem wn_X6_letterBy : Cond.static yX6_letterBy ∈ ww_ws := ww_t5 74 rfl rfl
theorem wp_X6_letterBy : yX6_letterBy.cls ≠ "java/lang/invoke/MethodHandle" ∧ yX6_letterBy.cls ≠ "java/lang/invoke/VarHandle" ∧ (parseMethodDescriptor yX6_letterBy.desc).map (fun d => d.parameters.length) = some 1 := by decide +kernel
theorem wc_X6_isFigure : Cond.code yX6_isFigure cX6_isFigure 2 (some .boolean) ∈ ww_ws := ww_t5 86 rfl rfl
theorem wn_X6_isFigure : Cond.instanceMethod yX6_isFigure ∈ ww_ws := ww_t5 85 rfl rfl
theorem we_X6_isFigure : Cond.selects RX6 yX6_isFigure yX6_isFigure ∈ ww_ws := ww_s4 yX6_isFigure 32 10 rfl rfl
theorem wp_X6_isFigure : yX6_isFigure.cls ≠ "java/lang/invoke/MethodHandle" ∧ yX6_isFigure.cls ≠ "java/lang/invoke/VarHandle" ∧ (parseMethodDescriptor yX6_isFigure.desc).map (fun d => d.parameters.length) = some 1 := by decide +kernel
theorem wc_X6_syntax : Cond.code yX6_syntax cX6_syntax 8 (some .int) ∈ ww_ws := ww_t5 72 rfl rfl
theorem wn_X6_syntax : Cond.instanceMethod yX6_syntax ∈ ww_ws := ww_t5 71 rfl rfl
theorem we_X6_syntax : Cond.selects RX6 yX6_syntax yX6_syntax ∈ ww_ws := ww_s4 yX6_syntax 32 9 rfl rfl
theorem wp_X6_syntax : yX6_syntax.cls ≠ "java/lang/invoke/MethodHandle" ∧ yX6_syntax.cls ≠ "java/lang/invoke/VarHandle" ∧ (parseMethodDescriptor yX6_syntax.desc).map (fun d => d.parameters.length) = some 0 := by decide +kernel
theorem wc_X6_put : Cond.code yX6_put cX6_put 2 none ∈ ww_ws := ww_t5 104 rfl rfl
theorem wn_X6_put : Cond.instanceMethod yX6_put ∈ ww_ws := ww_t5 103 rfl rfl
theorem we_X6_put : Cond.selects RX6 yX6_put yX6_put ∈ ww_ws := ww_s4 yX6_put 32 14 rfl rfl
theorem wp_X6_put : yX6_put.cls ≠ "java/lang/invoke/MethodHandle" ∧ yX6_put.cls ≠ "java/lang/invoke/VarHandle" ∧ (parseMethodDescriptor yX6_put.desc).map (fun d => d.parameters.length) = some 1 := by decide +kernel
theorem wc_X6_repeat : Cond.code yX6_repeat cX6_repeat 5 none ∈ ww_ws := ww_t5 100 rfl rfl
theorem wn_X6_repeat : Cond.instanceMethod yX6_repeat ∈ ww_ws := ww_t5 99 rfl rfl
theorem we_X6_repeat : Cond.selects RX6 yX6_repeat yX6_repeat ∈ ww_ws := ww_s4 yX6_repeat 32 13 rfl rfl
theorem wp_X6_repeat : yX6_repeat.cls ≠ "java/lang/invoke/MethodHandle" ∧ yX6_repeat.cls ≠ "java/lang/invoke/VarHandle" ∧ (parseMethodDescriptor yX6_repeat.desc).map (fun d => d.parameters.length) = some 2 := by decide +kernel
theorem wc_X6_tellWord : Cond.code yX6_tellWord cX6_tellWord 4 none ∈ ww_ws := ww_t5 96 rfl rfl
theorem wn_X6_tellWord : Cond.instanceMethod yX6_tellWord ∈ ww_ws := ww_t5 95 rfl rfl
theorem we_X6_tellWord : Cond.selects RX6 yX6_tellWord yX6_tellWord ∈ ww_ws := ww_s4 yX6_tellWord 32 12 rfl rfl
theorem wp_X6_tellWord : yX6_tellWord.cls ≠ "java/lang/invoke/MethodHandle" ∧ yX6_tellWord.cls ≠ "java/lang/invoke/VarHandle" ∧ (parseMethodDescriptor yX6_tellWord.desc).map (fun d => d.parameters.length) = some 0 := by decide +kernel
theorem wc_X6_skip : Cond.code yX6_skip cX6_skip 1 none ∈ ww_ws := ww_t5 92 rfl rfl
theorem wn_X6_skip : Cond.instanceMethod yX6_skip ∈ ww_ws := ww_t5 91 rfl rfl
theorem we_X6_skip : Cond.selects RX6 yX6_skip yX6_skip ∈ ww_ws := ww_s4 yX6_skip 32 11 rfl rfl
theorem wp_X6_skip : yX6_skip.cls ≠ "java/lang/invoke/MethodHandle" ∧ yX6_skip.cls ≠ "java/lang/invoke/VarHandle" ∧ (parseMethodDescriptor yX6_skip.desc).map (fun d => d.parameters.length) = some 0 := by decide +kernel
theorem wc_X6_tellWords : Cond.code yX6_tellWords cX6_tellWords 7 (some .int) ∈ ww_ws := ww_t5 68 rfl rfl
theorem wn_X6_tellWords : Cond.instanceMethod yX6_tellWords ∈ ww_ws := ww_t5 67 rfl rfl
theorem we_X6_tellWords : Cond.selects RX6 yX6_tellWords yX6_tellWords ∈ ww_ws := ww_s4 yX6_tellWords 32 8 rfl rfl
theorem wp_X6_tellWords : yX6_tellWords.cls ≠ "java/lang/invoke/MethodHandle" ∧ yX6_tellWords.cls ≠ "java/lang/invoke/VarHandle" ∧ (parseMethodDescriptor yX6_tellWords.desc).map (fun d => d.parameters.length) = some 2 := by decide +kernel
theorem wc_X6_relators : Cond.code yX6_relators cX6_relators 4 (some .int) ∈ ww_ws := ww_t5 64 rfl rfl
theorem wn_X6_relators : Cond.instanceMethod yX6_relators ∈ ww_ws := ww_t5 62 rfl rfl
theorem we_X6_relators : Cond.selects RX6 yX6_relators yX6_relators ∈ ww_ws := ww_t5 63 rfl rfl
theorem wp_X6_relators : yX6_relators.cls ≠ "java/lang/invoke/MethodHandle" ∧ yX6_relators.cls ≠ "java/lang/invoke/VarHandle" ∧ (parseMethodDescriptor yX6_relators.desc).map (fun d => d.parameters.length) = some 0 := by decide +kernel
theorem wc_X6_words : Cond.code yX6_words cX6_words 5 (some .int) ∈ ww_ws := ww_t5 121 rfl rfl
theorem wn_X6_words : Cond.instanceMethod yX6_words ∈ ww_ws := ww_t5 119 rfl rfl
theorem we_X6_words : Cond.selects RX6 yX6_words yX6_words ∈ ww_ws := ww_t5 120 rfl rfl
theorem wp_X6_words : yX6_words.cls ≠ "java/lang/invoke/MethodHandle" ∧ yX6_words.cls ≠ "java/lang/invoke/VarHandle" ∧ (parseMethodDescriptor yX6_words.desc).map (fun d => d.parameters.length) = some 1 := by decide +kernel
theorem wc_X6_lettersOfAll : Cond.code yX6_lettersOfAll cX6_lettersOfAll 3 (some .int) ∈ ww_ws := ww_t5 133 rfl rfl
theorem wn_X6_lettersOfAll : Cond.instanceMethod yX6_lettersOfAll ∈ ww_ws := ww_t5 132 rfl rfl
theorem we_X6_lettersOfAll : Cond.selects RX6 yX6_lettersOfAll yX6_lettersOfAll ∈ ww_ws := ww_s5 yX6_lettersOfAll 32 3 rfl rfl
theorem wp_X6_lettersOfAll : yX6_lettersOfAll.cls ≠ "java/lang/invoke/MethodHandle" ∧ yX6_lettersOfAll.cls ≠ "java/lang/invoke/VarHandle" ∧ (parseMethodDescriptor yX6_lettersOfAll.desc).map (fun d => d.parameters.length) = some 0 := by decide +kernel
theorem wc_X6_toldOf : Cond.code yX6_toldOf cX6_toldOf 2 (some .int) ∈ ww_ws := ww_t5 129 rfl rfl
theorem wn_X6_toldOf : Cond.instanceMethod yX6_toldOf ∈ ww_ws := ww_t5 128 rfl rfl
theorem we_X6_toldOf : Cond.selects RX6 yX6_toldOf yX6_toldOf ∈ ww_ws := ww_s5 yX6_toldOf 32 2 rfl rfl
theorem wp_X6_toldOf : yX6_toldOf.cls ≠ "java/lang/invoke/MethodHandle" ∧ yX6_toldOf.cls ≠ "java/lang/invoke/VarHandle" ∧ (parseMethodDescriptor yX6_toldOf.desc).map (fun d => d.parameters.length) = some 1 := by decide +kernel
theorem wc_X6_told : Cond.code yX6_told cX6_told 2 (some .int) ∈ ww_ws := ww_t5 125 rfl rfl
theorem wn_X6_told : Cond.instanceMethod yX6_told ∈ ww_ws := ww_t5 123 rfl rfl
theorem we_X6_told : Cond.selects RX6 yX6_told yX6_told ∈ ww_ws := ww_t5 124 rfl rfl
theorem wp_X6_told : yX6_told.cls ≠ "java/lang/invoke/MethodHandle" ∧ yX6_told.cls ≠ "java/lang/invoke/VarHandle" ∧ (parseMethodDescriptor yX6_told.desc).map (fun d => d.parameters.length) = some 1 := by decide +kernel
theorem wc_X6_sums : Cond.code yX6_sums cX6_sums 8 (some .long) ∈ ww_ws := ww_t5 142 rfl rfl
theorem wn_X6_sums : Cond.static yX6_sums ∈ ww_ws := ww_t5 141 rfl rfl
theorem wp_X6_sums : yX6_sums.cls ≠ "java/lang/invoke/MethodHandle" ∧ yX6_sums.cls ≠ "java/lang/invoke/VarHandle" ∧ (parseMethodDescriptor yX6_sums.desc).map (fun d => d.parameters.length) = some 4 := by decide +kernel
theorem wc_X6_digest : Cond.code yX6_digest cX6_digest 4 (some .long) ∈ ww_ws := ww_t5 137 rfl rfl
theorem wn_X6_digest : Cond.instanceMethod yX6_digest ∈ ww_ws := ww_t5 135 rfl rfl
theorem we_X6_digest : Cond.selects RX6 yX6_digest yX6_digest ∈ ww_ws := ww_t5 136 rfl rfl
theorem wp_X6_digest : yX6_digest.cls ≠ "java/lang/invoke/MethodHandle" ∧ yX6_digest.cls ≠ "java/lang/invoke/VarHandle" ∧ (parseMethodDescriptor yX6_digest.desc).map (fun d => d.parameters.length) = some 0 := by decide +kernel
theorem wc_J9_floorMod_7cf53 : Cond.code yJ9_floorMod_7cf53 cJ9_floorMod_7cf53 3 (some .int) ∈ ww_ws := ww_t2 211 rfl rfl
theorem wn_J9_floorMod_7cf53 : Cond.static yJ9_floorMod_7cf53 ∈ ww_ws := ww_t2 210 rfl rfl
theorem wp_J9_floorMod_7cf53 : yJ9_floorMod_7cf53.cls ≠ "java/lang/invoke/MethodHandle" ∧ yJ9_floorMod_7cf53.cls ≠ "java/lang/invoke/VarHandle" ∧ (parseMethodDescriptor yJ9_floorMod_7cf53.desc).map (fun d => d.parameters.length) = some 2 := by decide +kernel
theorem wc_J9_abs_0f7a4 : Cond.code yJ9_abs_0f7a4 cJ9_abs_0f7a4 1 (some .int) ∈ ww_ws := ww_t3 22 rfl rfl
theorem wn_J9_abs_0f7a4 : Cond.static yJ9_abs_0f7a4 ∈ ww_ws := ww_t3 21 rfl rfl
theorem wp_J9_abs_0f7a4 : yJ9_abs_0f7a4.cls ≠ "java/lang/invoke/MethodHandle" ∧ yJ9_abs_0f7a4.cls ≠ "java/lang/invoke/VarHandle" ∧ (parseMethodDescriptor yJ9_abs_0f7a4.desc).map (fun d => d.parameters.length) = some 1 := by decide +kernel
theorem wc_J9_max_7cf53 : Cond.code yJ9_max_7cf53 cJ9_max_7cf53 2 (some .int) ∈ ww_ws := ww_t1 26 rfl rfl
theorem wn_J9_max_7cf53 : Cond.static yJ9_max_7cf53 ∈ ww_ws := ww_t1 25 rfl rfl
theorem wp_J9_max_7cf53 : yJ9_max_7cf53.cls ≠ "java/lang/invoke/MethodHandle" ∧ yJ9_max_7cf53.cls ≠ "java/lang/invoke/VarHandle" ∧ (parseMethodDescriptor yJ9_max_7cf53.desc).map (fun d => d.parameters.length) = some 2 := by decide +kernel
theorem wc_J9_min_7cf53 : Cond.code yJ9_min_7cf53 cJ9_min_7cf53 2 (some .int) ∈ ww_ws := ww_t2 97 rfl rfl
theorem wn_J9_min_7cf53 : Cond.static yJ9_min_7cf53 ∈ ww_ws := ww_t2 96 rfl rfl
theorem wp_J9_min_7cf53 : yJ9_min_7cf53.cls ≠ "java/lang/invoke/MethodHandle" ∧ yJ9_min_7cf53.cls ≠ "java/lang/invoke/VarHandle" ∧ (parseMethodDescriptor yJ9_min_7cf53.desc).map (fun d => d.parameters.length) = some 2 := by decide +kernel
theorem wl_X0_20 : Cond.methodLink RX0 20 yX2_init ∈ ww_ws := ww_t1 110 rfl rfl
theorem wl_X0_60 : Cond.methodLink RX0 60 Lib.Math.min.name ∈ ww_ws := ww_t2 95 rfl rfl
theorem wl_X0_73 : Cond.methodLink RX0 73 yX2_copy ∈ ww_ws := ww_t2 98 rfl rfl
theorem wl_X0_77 : Cond.methodLink RX0 77 yX0_addTurns ∈ ww_ws := ww_t2 103 rfl rfl
theorem wl_X0_81 : Cond.methodLink RX0 81 yX2_wipe ∈ ww_ws := ww_t2 107 rfl rfl
theorem wl_X0_84 : Cond.methodLink RX0 84 yX2_putInverse ∈ ww_ws := ww_t2 138 rfl rfl
theorem wl_X0_87 : Cond.methodLink RX0 87 yX0_measure ∈ ww_ws := ww_t2 142 rfl rfl
theorem wl_X0_91 : Cond.methodLink RX0 91 yX2_putTurn ∈ ww_ws := ww_t2 108 rfl rfl
theorem wl_X0_95 : Cond.methodLink RX0 95 yX0_earlierLike ∈ ww_ws := ww_t2 117 rfl rfl
theorem wl_X0_99 : Cond.methodLink RX0 99 yX2_at ∈ ww_ws := ww_t2 133 rfl rfl
theorem wl_X0_103 : Cond.methodLink RX0 103 yX0_listByFirstLetter ∈ ww_ws := ww_t2 134 rfl rfl
theorem wl_X0_106 : Cond.methodLink RX0 106 yX0_matchAt ∈ ww_ws := ww_t2 121 rfl rfl
theorem wl_X0_110 : Cond.methodLink RX0 110 yX0_sharedStart ∈ ww_ws := ww_t2 146 rfl rfl
theorem wl_X0_113 : Cond.methodLink RX0 113 Lib.Math.max.name ∈ ww_ws := ww_t2 150 rfl rfl
theorem wl_X0_116 : Cond.methodLink RX0 116 yX0_notePiece ∈ ww_ws := ww_t2 151 rfl rfl
theorem wl_X0_120 : Cond.methodLink RX0 120 yX0_has ∈ ww_ws := ww_t2 125 rfl rfl
theorem wl_X0_124 : Cond.methodLink RX0 124 yX2_likeFrom ∈ ww_ws := ww_t2 129 rfl rfl
theorem wl_X0_128 : Cond.methodLink RX0 128 yX0_sizeOf ∈ ww_ws := ww_t3 129 rfl rfl
theorem wl_X0_131 : Cond.methodLink RX0 131 yX0_startersWith ∈ ww_ws := ww_t3 56 rfl rfl
theorem wl_X0_134 : Cond.methodLink RX0 134 yX2_surplusOf ∈ ww_ws := ww_t2 205 rfl rfl
theorem wl_X0_137 : Cond.methodLink RX0 137 yJ9_floorMod_7cf53 ∈ ww_ws := ww_t2 209 rfl rfl
theorem wl_X0_140 : Cond.methodLink RX0 140 yX0_bringPivot ∈ ww_ws := ww_t2 212 rfl rfl
theorem wl_X0_144 : Cond.methodLink RX0 144 yX0_clearBelow ∈ ww_ws := ww_t2 216 rfl rfl
theorem wl_X1_24 : Cond.methodLink RX1 24 yX2_init ∈ ww_ws := ww_t1 73 rfl rfl
theorem wl_X1_36 : Cond.methodLink RX1 36 yX4_byteAt ∈ ww_ws := ww_t2 49 rfl rfl
theorem wl_X1_40 : Cond.methodLink RX1 40 yX1_startWord ∈ ww_ws := ww_t2 50 rfl rfl
theorem wl_X1_43 : Cond.methodLink RX1 43 yX1_readByte ∈ ww_ws := ww_t2 54 rfl rfl
theorem wl_X1_46 : Cond.methodLink RX1 46 yX1_takeWord ∈ ww_ws := ww_t2 68 rfl rfl
theorem wl_X1_63 : Cond.methodLink RX1 63 yX4_letterFor ∈ ww_ws := ww_t2 58 rfl rfl
theorem wl_X1_66 : Cond.methodLink RX1 66 yX4_figureFor ∈ ww_ws := ww_t2 59 rfl rfl
theorem wl_X1_69 : Cond.methodLink RX1 69 yX1_putRaw ∈ ww_ws := ww_t2 60 rfl rfl
theorem wl_X1_72 : Cond.methodLink RX1 72 yX1_repeatFactor ∈ ww_ws := ww_t2 64 rfl rfl
theorem wl_X1_75 : Cond.methodLink RX1 75 yX2_wipe ∈ ww_ws := ww_t2 72 rfl rfl
theorem wl_X1_78 : Cond.methodLink RX1 78 yX2_put ∈ ww_ws := ww_t2 76 rfl rfl
theorem wl_X1_81 : Cond.methodLink RX1 81 yX2_cutToRing ∈ ww_ws := ww_t2 87 rfl rfl
theorem wl_X2_9 : Cond.methodLink RX2 9 Lib.Math.max.name ∈ ww_ws := ww_t1 24 rfl rfl
theorem wl_X2_25 : Cond.methodLink RX2 25 yX2_at ∈ ww_ws := ww_t2 80 rfl rfl
theorem wl_X2_32 : Cond.methodLink RX2 32 Lib.Math.min.name ∈ ww_ws := ww_t2 102 rfl rfl
theorem wl_X2_35 : Cond.methodLink RX2 35 yX2_putPart ∈ ww_ws := ww_t2 112 rfl rfl
theorem wl_X2_39 : Cond.methodLink RX2 39 yX2_put ∈ ww_ws := ww_t2 116 rfl rfl
theorem wl_X3_11 : Cond.methodLink RX3 11 yX2_init ∈ ww_ws := ww_t1 166 rfl rfl
theorem wl_X3_36 : Cond.methodLink RX3 36 yX2_at ∈ ww_ws := ww_t3 47 rfl rfl
theorem wl_X3_40 : Cond.methodLink RX3 40 yX0_startersWith ∈ ww_ws := ww_t3 48 rfl rfl
theorem wl_X3_43 : Cond.methodLink RX3 43 yX0_starter ∈ ww_ws := ww_t3 52 rfl rfl
theorem wl_X3_47 : Cond.methodLink RX3 47 yX0_matchAt ∈ ww_ws := ww_t3 57 rfl rfl
theorem wl_X3_51 : Cond.methodLink RX3 51 yX0_sizeOf ∈ ww_ws := ww_t3 58 rfl rfl
theorem wl_X3_54 : Cond.methodLink RX3 54 yX3_isBetter ∈ ww_ws := ww_t3 59 rfl rfl
theorem wl_X3_58 : Cond.methodLink RX3 58 yX3_take ∈ ww_ws := ww_t3 63 rfl rfl
theorem wl_X3_74 : Cond.methodLink RX3 74 yX2_wipe ∈ ww_ws := ww_t3 75 rfl rfl
theorem wl_X3_77 : Cond.methodLink RX3 77 yX2_putPart ∈ ww_ws := ww_t3 76 rfl rfl
theorem wl_X3_81 : Cond.methodLink RX3 81 yX0_letterOf ∈ ww_ws := ww_t3 77 rfl rfl
theorem wl_X3_87 : Cond.methodLink RX3 87 yX2_put ∈ ww_ws := ww_t3 79 rfl rfl
theorem wl_X3_90 : Cond.methodLink RX3 90 yX2_copy ∈ ww_ws := ww_t3 80 rfl rfl
theorem wl_X3_94 : Cond.methodLink RX3 94 yX3_seek ∈ ww_ws := ww_t3 89 rfl rfl
theorem wl_X3_98 : Cond.methodLink RX3 98 yX3_doCut ∈ ww_ws := ww_t3 90 rfl rfl
theorem wl_X4_32 : Cond.methodLink RX4 32 yX4_byteAt ∈ ww_ws := ww_t2 15 rfl rfl
theorem wl_X4_36 : Cond.methodLink RX4 36 yX4_standsNext ∈ ww_ws := ww_t2 19 rfl rfl
theorem wl_X4_40 : Cond.methodLink RX4 40 yX4_figureFor ∈ ww_ws := ww_t2 23 rfl rfl
theorem wl_X4_43 : Cond.methodLink RX4 43 yX4_letterFor ∈ ww_ws := ww_t2 26 rfl rfl
theorem wl_X4_46 : Cond.methodLink RX4 46 yX4_factorEnds ∈ ww_ws := ww_t2 29 rfl rfl
theorem wl_X4_50 : Cond.methodLink RX4 50 yX4_bracketOpens ∈ ww_ws := ww_t2 33 rfl rfl
theorem wl_X4_53 : Cond.methodLink RX4 53 yX4_bracketCloses ∈ ww_ws := ww_t2 37 rfl rfl
theorem wl_X4_56 : Cond.methodLink RX4 56 yX4_wordEnds ∈ ww_ws := ww_t2 41 rfl rfl
theorem wl_X5_15 : Cond.methodLink RX5 15 yX2_init ∈ ww_ws := ww_t1 20 rfl rfl
theorem wl_X5_27 : Cond.methodLink RX5 27 yX1_init ∈ ww_ws := ww_t1 68 rfl rfl
theorem wl_X5_34 : Cond.methodLink RX5 34 yX0_init ∈ ww_ws := ww_t1 105 rfl rfl
theorem wl_X5_41 : Cond.methodLink RX5 41 yX3_init ∈ ww_ws := ww_t1 161 rfl rfl
theorem wl_X5_58 : Cond.methodLink RX5 58 yX5_refuse ∈ ww_ws := ww_t1 231 rfl rfl
theorem wl_X5_62 : Cond.methodLink RX5 62 yX4_accept ∈ ww_ws := ww_t1 235 rfl rfl
theorem wl_X5_70 : Cond.methodLink RX5 70 yX5_readText ∈ ww_ws := ww_t2 7 rfl rfl
theorem wl_X5_74 : Cond.methodLink RX5 74 yX0_become ∈ ww_ws := ww_t2 91 rfl rfl
theorem wl_X5_81 : Cond.methodLink RX5 81 yX5_isWord ∈ ww_ws := ww_t2 159 rfl rfl
theorem wl_X5_87 : Cond.methodLink RX5 87 yX2_copy ∈ ww_ws := ww_t2 162 rfl rfl
theorem wl_X5_108 : Cond.methodLink RX5 108 yX0_has ∈ ww_ws := ww_t2 175 rfl rfl
theorem wl_X5_111 : Cond.methodLink RX5 111 yX0_sizeOf ∈ ww_ws := ww_t2 176 rfl rfl
theorem wl_X5_114 : Cond.methodLink RX5 114 yX0_letterOf ∈ ww_ws := ww_t2 180 rfl rfl
theorem wl_X5_118 : Cond.methodLink RX5 118 yX0_areGood ∈ ww_ws := ww_t2 188 rfl rfl
theorem wl_X5_121 : Cond.methodLink RX5 121 yX0_sharedStart ∈ ww_ws := ww_t2 196 rfl rfl
theorem wl_X5_124 : Cond.methodLink RX5 124 yX0_rankBy ∈ ww_ws := ww_t2 201 rfl rfl
theorem wl_X5_127 : Cond.methodLink RX5 127 yX2_at ∈ ww_ws := ww_t2 228 rfl rfl
theorem wl_X5_130 : Cond.methodLink RX5 130 yX2_put ∈ ww_ws := ww_t2 233 rfl rfl
theorem wl_X5_133 : Cond.methodLink RX5 133 yX5_keep ∈ ww_ws := ww_t2 234 rfl rfl
theorem wl_X5_136 : Cond.methodLink RX5 136 yX2_putRow ∈ ww_ws := ww_t3 2 rfl rfl
theorem wl_X5_139 : Cond.methodLink RX5 139 yX2_wipe ∈ ww_ws := ww_t3 10 rfl rfl
theorem wl_X5_142 : Cond.methodLink RX5 142 yX2_putInverse ∈ ww_ws := ww_t3 11 rfl rfl
theorem wl_X5_145 : Cond.methodLink RX5 145 yX5_makePower ∈ ww_ws := ww_t3 16 rfl rfl
theorem wl_X5_149 : Cond.methodLink RX5 149 yX2_cutToRing ∈ ww_ws := ww_t3 28 rfl rfl
theorem wl_X5_152 : Cond.methodLink RX5 152 yX2_putTurn ∈ ww_ws := ww_t3 33 rfl rfl
theorem wl_X5_156 : Cond.methodLink RX5 156 yX2_surplusOf ∈ ww_ws := ww_t3 38 rfl rfl
theorem wl_X5_159 : Cond.methodLink RX5 159 yX3_seek ∈ ww_ws := ww_t3 43 rfl rfl
theorem wl_X5_163 : Cond.methodLink RX5 163 yX3_doCut ∈ ww_ws := ww_t3 71 rfl rfl
theorem wl_X5_166 : Cond.methodLink RX5 166 yX3_doAll ∈ ww_ws := ww_t3 85 rfl rfl
theorem wl_X5_169 : Cond.methodLink RX5 169 yX3_doThrough ∈ ww_ws := ww_t3 95 rfl rfl
theorem wl_X5_182 : Cond.methodLink RX5 182 Lib.Math.max.name ∈ ww_ws := ww_t3 115 rfl rfl
theorem wl_X5_187 : Cond.methodLink RX5 187 yX5_someBeginningTurns ∈ ww_ws := ww_t3 116 rfl rfl
theorem wl_X5_192 : Cond.methodLink RX5 192 yX5_nextDraw ∈ ww_ws := ww_t3 139 rfl rfl
theorem wl_X5_203 : Cond.methodLink RX5 203 yX5_putLoop ∈ ww_ws := ww_t3 152 rfl rfl
theorem wl_X5_206 : Cond.methodLink RX5 206 yX5_tell ∈ ww_ws := ww_t3 160 rfl rfl
theorem wl_X5_213 : Cond.methodLink RX5 213 yX5_digestOf ∈ ww_ws := ww_t3 174 rfl rfl
theorem wl_X5_226 : Cond.methodLink RX5 226 yX4_wrongPlace ∈ ww_ws := ww_t2 11 rfl rfl
theorem wl_X5_230 : Cond.methodLink RX5 230 yX1_readAll ∈ ww_ws := ww_t2 45 rfl rfl
theorem wl_X5_234 : Cond.methodLink RX5 234 Lib.Math.abs.name ∈ ww_ws := ww_t3 20 rfl rfl
theorem wl_X5_237 : Cond.methodLink RX5 237 Lib.Math.min.name ∈ ww_ws := ww_t3 23 rfl rfl
theorem wl_X5_240 : Cond.methodLink RX5 240 yX5_beginningTurns ∈ ww_ws := ww_t3 120 rfl rfl
theorem wl_X5_244 : Cond.methodLink RX5 244 yX0_beginsFresh ∈ ww_ws := ww_t3 125 rfl rfl
theorem wl_X5_247 : Cond.methodLink RX5 247 yX5_opposite ∈ ww_ws := ww_t3 124 rfl rfl
theorem wl_X5_250 : Cond.methodLink RX5 250 yX5_lettersOfAll ∈ ww_ws := ww_t3 164 rfl rfl
theorem wl_X6_66 : Cond.methodLink RX6 66 yX6_in ∈ ww_ws := ww_t4 48 rfl rfl
theorem wl_X6_76 : Cond.methodLink RX6 76 yX6_opposite ∈ ww_ws := ww_t4 72 rfl rfl
theorem wl_X6_80 : Cond.methodLink RX6 80 yX6_push ∈ ww_ws := ww_t4 145 rfl rfl
theorem wl_X6_84 : Cond.methodLink RX6 84 yX6_pushWord ∈ ww_ws := ww_t4 141 rfl rfl
theorem wl_X6_87 : Cond.methodLink RX6 87 yX6_full ∈ ww_ws := ww_t4 153 rfl rfl
theorem wl_X6_91 : Cond.methodLink RX6 91 yX6_layWord ∈ ww_ws := ww_t4 157 rfl rfl
theorem wl_X6_94 : Cond.methodLink RX6 94 yX6_relatorLetter ∈ ww_ws := ww_t4 68 rfl rfl
theorem wl_X6_101 : Cond.methodLink RX6 101 yX6_isTurn ∈ ww_ws := ww_t4 64 rfl rfl
theorem wl_X6_105 : Cond.methodLink RX6 105 yX6_isListed ∈ ww_ws := ww_t5 114 rfl rfl
theorem wl_X6_112 : Cond.methodLink RX6 112 yX6_listTurns ∈ ww_ws := ww_t5 110 rfl rfl
theorem wl_X6_116 : Cond.methodLink RX6 116 yX6_isOf ∈ ww_ws := ww_t4 60 rfl rfl
theorem wl_X6_120 : Cond.methodLink RX6 120 yX6_beginAlike ∈ ww_ws := ww_t4 75 rfl rfl
theorem wl_X6_124 : Cond.methodLink RX6 124 yX6_pieceOf ∈ ww_ws := ww_t4 56 rfl rfl
theorem wl_X6_127 : Cond.methodLink RX6 127 yX6_isRelator ∈ ww_ws := ww_t4 44 rfl rfl
theorem wl_X6_133 : Cond.methodLink RX6 133 yX6_bad ∈ ww_ws := ww_t4 52 rfl rfl
theorem wl_X6_136 : Cond.methodLink RX6 136 yX6_isMember ∈ ww_ws := ww_t4 83 rfl rfl
theorem wl_X6_141 : Cond.methodLink RX6 141 yX6_isGood ∈ ww_ws := ww_t4 92 rfl rfl
theorem wl_X6_144 : Cond.methodLink RX6 144 yX6_layMatrix ∈ ww_ws := ww_t4 104 rfl rfl
theorem wl_X6_147 : Cond.methodLink RX6 147 yX6_swapRows ∈ ww_ws := ww_t4 108 rfl rfl
theorem wl_X6_156 : Cond.methodLink RX6 156 yX6_isWord ∈ ww_ws := ww_t4 121 rfl rfl
theorem wl_X6_159 : Cond.methodLink RX6 159 yX6_isLetter ∈ ww_ws := ww_t4 133 rfl rfl
theorem wl_X6_162 : Cond.methodLink RX6 162 yX6_handWord ∈ ww_ws := ww_t4 137 rfl rfl
theorem wl_X6_165 : Cond.methodLink RX6 165 yX6_layIfFits ∈ ww_ws := ww_t4 149 rfl rfl
theorem wl_X6_168 : Cond.methodLink RX6 168 yX6_pushInverse ∈ ww_ws := ww_t4 169 rfl rfl
theorem wl_X6_173 : Cond.methodLink RX6 173 yX6_ringHand ∈ ww_ws := ww_t4 182 rfl rfl
theorem wl_X6_178 : Cond.methodLink RX6 178 yX6_no ∈ ww_ws := ww_t4 191 rfl rfl
theorem wl_X6_189 : Cond.methodLink RX6 189 yX6_saves ∈ ww_ws := ww_t4 212 rfl rfl
theorem wl_X6_198 : Cond.methodLink RX6 198 yX6_matches ∈ ww_ws := ww_t4 208 rfl rfl
theorem wl_X6_201 : Cond.methodLink RX6 201 yX6_isBetter ∈ ww_ws := ww_t4 215 rfl rfl
theorem wl_X6_205 : Cond.methodLink RX6 205 yX6_findCut ∈ ww_ws := ww_t4 204 rfl rfl
theorem wl_X6_208 : Cond.methodLink RX6 208 yX6_doCut ∈ ww_ws := ww_t4 223 rfl rfl
theorem wl_X6_212 : Cond.methodLink RX6 212 yX6_shortenHand ∈ ww_ws := ww_t4 232 rfl rfl
theorem wl_X6_215 : Cond.methodLink RX6 215 yX6_isNothing ∈ ww_ws := ww_t5 4 rfl rfl
theorem wl_X6_225 : Cond.methodLink RX6 225 yX6_layRings ∈ ww_ws := ww_t5 20 rfl rfl
theorem wl_X6_228 : Cond.methodLink RX6 228 yX6_turnsBy ∈ ww_ws := ww_t5 24 rfl rfl
theorem wl_X6_241 : Cond.methodLink RX6 241 yX6_drawn ∈ ww_ws := ww_t5 38 rfl rfl
theorem wl_X6_273 : Cond.methodLink RX6 273 yX6_letterBy ∈ ww_ws := ww_t5 73 rfl rfl
theorem wl_X6_276 : Cond.methodLink RX6 276 yX6_isBlank ∈ ww_ws := ww_t5 80 rfl rfl
theorem wl_X6_279 : Cond.methodLink RX6 279 yX6_isFigure ∈ ww_ws := ww_t5 83 rfl rfl
theorem wl_X6_285 : Cond.methodLink RX6 285 yX6_put ∈ ww_ws := ww_t5 101 rfl rfl
theorem wl_X6_291 : Cond.methodLink RX6 291 yX6_repeat ∈ ww_ws := ww_t5 97 rfl rfl
theorem wl_X6_294 : Cond.methodLink RX6 294 yX6_syntax ∈ ww_ws := ww_t5 69 rfl rfl
theorem wl_X6_297 : Cond.methodLink RX6 297 yX6_skip ∈ ww_ws := ww_t5 89 rfl rfl
theorem wl_X6_300 : Cond.methodLink RX6 300 yX6_tellWord ∈ ww_ws := ww_t5 93 rfl rfl
theorem wl_X6_305 : Cond.methodLink RX6 305 yX6_tellWords ∈ ww_ws := ww_t5 65 rfl rfl
theorem wl_X6_309 : Cond.methodLink RX6 309 yX6_listMembers ∈ ww_ws := ww_t5 106 rfl rfl
theorem wl_X6_312 : Cond.methodLink RX6 312 yX6_lettersOfAll ∈ ww_ws := ww_t5 130 rfl rfl
theorem wl_X6_315 : Cond.methodLink RX6 315 yX6_toldOf ∈ ww_ws := ww_t5 126 rfl rfl
theorem wl_X6_322 : Cond.methodLink RX6 322 yX6_sums ∈ ww_ws := ww_t5 140 rfl rfl
theorem ws_Math_min : Cond.static Lib.Math.min.name ∈ ww_ws := ww_t2 96 rfl rfl
theorem wc_Math_min : Cond.code Lib.Math.min.name Lib.Math.min.code 2 (some .int) ∈ ww_ws := ww_t2 97 rfl rfl
theorem ws_Math_max : Cond.static Lib.Math.max.name ∈ ww_ws := ww_t1 25 rfl rfl
theorem wc_Math_max : Cond.code Lib.Math.max.name Lib.Math.max.code 2 (some .int) ∈ ww_ws := ww_t1 26 rfl rfl
theorem ws_Math_abs : Cond.static Lib.Math.abs.name ∈ ww_ws := ww_t3 21 rfl rfl
theorem wc_Math_abs : Cond.code Lib.Math.abs.name Lib.Math.abs.code 1 (some .int) ∈ ww_ws := ww_t3 22 rfl rfl
theorem wk_X5_191 : Jvm.Cond.constant RX5 191 (nI 999999) ∈ ww_ws := ww_t3 138 rfl rfl
theorem wk_X5_196 : Jvm.Cond.constantLong RX5 196 (lN 65536) ∈ ww_ws := ww_t3 145 rfl rfl
theorem wk_X5_198 : Jvm.Cond.constantLong RX5 198 (lN 8) ∈ ww_ws := ww_t3 146 rfl rfl
theorem wk_X5_201 : Jvm.Cond.constantLong RX5 201 (lN 1024) ∈ ww_ws := ww_t3 151 rfl rfl
theorem wk_X5_209 : Jvm.Cond.constantLong RX5 209 (lN 1907) ∈ ww_ws := ww_t3 172 rfl rfl
theorem wk_X5_211 : Jvm.Cond.constantLong RX5 211 (lN 31) ∈ ww_ws := ww_t3 173 rfl rfl
theorem wk_X5_253 : Jvm.Cond.constantLong RX5 253 (lN 1103515245) ∈ ww_ws := ww_t3 142 rfl rfl
theorem wk_X5_255 : Jvm.Cond.constantLong RX5 255 (lN 12345) ∈ ww_ws := ww_t3 143 rfl rfl
theorem wk_X5_257 : Jvm.Cond.constantLong RX5 257 (lN 2147483648) ∈ ww_ws := ww_t3 144 rfl rfl
theorem wk_X6_64 : Jvm.Cond.constantLong RX6 64 (lN 5) ∈ ww_ws := ww_t4 124 rfl rfl
theorem wk_X6_70 : Jvm.Cond.constantLong RX6 70 (lN 7) ∈ ww_ws := ww_t4 136 rfl rfl
theorem wk_X6_131 : Jvm.Cond.constantLong RX6 131 (lN 2) ∈ ww_ws := ww_t4 51 rfl rfl
theorem wk_X6_139 : Jvm.Cond.constantLong RX6 139 (lN 9) ∈ ww_ws := ww_t4 91 rfl rfl
theorem wk_X6_151 : Jvm.Cond.constantLong RX6 151 (lN 4) ∈ ww_ws := ww_t4 116 rfl rfl
theorem wk_X6_171 : Jvm.Cond.constantLong RX6 171 ((-9 : Int64)) ∈ ww_ws := ww_t4 177 rfl rfl
theorem wk_X6_176 : Jvm.Cond.constantLong RX6 176 (lN 59) ∈ ww_ws := ww_t4 190 rfl rfl
theorem wk_X6_181 : Jvm.Cond.constantLong RX6 181 (lN 3) ∈ ww_ws := ww_t4 199 rfl rfl
theorem wk_X6_211 : Jvm.Cond.constant RX6 211 (nI 1000000) ∈ ww_ws := ww_t4 231 rfl rfl
theorem wk_X6_231 : Jvm.Cond.constantLong RX6 231 (lN 1103515245) ∈ ww_ws := ww_t5 41 rfl rfl
theorem wk_X6_233 : Jvm.Cond.constantLong RX6 233 (lN 12345) ∈ ww_ws := ww_t5 42 rfl rfl
theorem wk_X6_235 : Jvm.Cond.constantLong RX6 235 (lN 2147483648) ∈ ww_ws := ww_t5 43 rfl rfl
theorem wk_X6_237 : Jvm.Cond.constantLong RX6 237 (lN 999999) ∈ ww_ws := ww_t5 36 rfl rfl
theorem wk_X6_239 : Jvm.Cond.constantLong RX6 239 (lN 60) ∈ ww_ws := ww_t5 37 rfl rfl
theorem wk_X6_245 : Jvm.Cond.constantLong RX6 245 (lN 65536) ∈ ww_ws := ww_t5 44 rfl rfl
theorem wk_X6_247 : Jvm.Cond.constantLong RX6 247 (lN 8) ∈ ww_ws := ww_t5 45 rfl rfl
theorem wk_X6_249 : Jvm.Cond.constantLong RX6 249 (lN 6) ∈ ww_ws := ww_t5 50 rfl rfl
theorem wk_X6_251 : Jvm.Cond.constantLong RX6 251 (lN 1024) ∈ ww_ws := ww_t5 51 rfl rfl
theorem wk_X6_253 : Jvm.Cond.constantLong RX6 253 (lN 127) ∈ ww_ws := ww_t5 56 rfl rfl
theorem wk_X6_258 : Jvm.Cond.constantLong RX6 258 (lN 97) ∈ ww_ws := ww_t5 76 rfl rfl
theorem wk_X6_260 : Jvm.Cond.constantLong RX6 260 (lN 100) ∈ ww_ws := ww_t5 77 rfl rfl
theorem wk_X6_262 : Jvm.Cond.constantLong RX6 262 (lN 65) ∈ ww_ws := ww_t5 78 rfl rfl
theorem wk_X6_264 : Jvm.Cond.constantLong RX6 264 (lN 68) ∈ ww_ws := ww_t5 79 rfl rfl
theorem wk_X6_266 : Jvm.Cond.constantLong RX6 266 (lN 49) ∈ ww_ws := ww_t5 87 rfl rfl
theorem wk_X6_268 : Jvm.Cond.constantLong RX6 268 (lN 57) ∈ ww_ws := ww_t5 88 rfl rfl
theorem wk_X6_303 : Jvm.Cond.constantLong RX6 303 (lN 14) ∈ ww_ws := ww_t5 105 rfl rfl
theorem wk_X6_318 : Jvm.Cond.constantLong RX6 318 (lN 31) ∈ ww_ws := ww_t5 139 rfl rfl
theorem wk_X6_320 : Jvm.Cond.constantLong RX6 320 (lN 1907) ∈ ww_ws := ww_t5 138 rfl rfl
theorem inlX0 : ∀ w ∈ u_ws RX0 TX0 13, w ∈ ww_ws := by
  have h : ∀ k, k < 13 → u_lay RX0 TX0 k ∈ ww_ws := by
    intro k hk
    match k, hk with
    | 0, _ => exact ww_t1 132 rfl rfl
    | 1, _ => exact ww_t1 134 rfl rfl
    | 2, _ => exact ww_t1 136 rfl rfl
    | 3, _ => exact ww_t1 138 rfl rfl
    | 4, _ => exact ww_t1 140 rfl rfl
    | 5, _ => exact ww_t1 142 rfl rfl
    | 6, _ => exact ww_t1 144 rfl rfl
    | 7, _ => exact ww_t1 146 rfl rfl
    | 8, _ => exact ww_t1 148 rfl rfl
    | 9, _ => exact ww_t1 150 rfl rfl
    | 10, _ => exact ww_t1 152 rfl rfl
    | 11, _ => exact ww_t1 154 rfl rfl
    | 12, _ => exact ww_t1 156 rfl rfl
    | k + 13, h => exact absurd h (by omega)
  intro w hw
  obtain ⟨k, hk, rfl⟩ := List.mem_map.mp hw
  exact h k (List.mem_range.mp hk)
theorem inlX1 : ∀ w ∈ u_ws RX1 TX1 8, w ∈ ww_ws := by
  have h : ∀ k, k < 8 → u_lay RX1 TX1 k ∈ ww_ws := by
    intro k hk
    match k, hk with
    | 0, _ => exact ww_t1 86 rfl rfl
    | 1, _ => exact ww_t1 88 rfl rfl
    | 2, _ => exact ww_t1 90 rfl rfl
    | 3, _ => exact ww_t1 92 rfl rfl
    | 4, _ => exact ww_t1 94 rfl rfl
    | 5, _ => exact ww_t1 96 rfl rfl
    | 6, _ => exact ww_t1 98 rfl rfl
    | 7, _ => exact ww_t1 100 rfl rfl
    | k + 8, h => exact absurd h (by omega)
  intro w hw
  obtain ⟨k, hk, rfl⟩ := List.mem_map.mp hw
  exact h k (List.mem_range.mp hk)
theorem inlX2 : ∀ w ∈ u_ws RX2 TX2 2, w ∈ ww_ws := by
  have h : ∀ k, k < 2 → u_lay RX2 TX2 k ∈ ww_ws := by
    intro k hk
    match k, hk with
    | 0, _ => exact ww_t1 33 rfl rfl
    | 1, _ => exact ww_t1 35 rfl rfl
    | k + 2, h => exact absurd h (by omega)
  intro w hw
  obtain ⟨k, hk, rfl⟩ := List.mem_map.mp hw
  exact h k (List.mem_range.mp hk)
theorem inlX3 : ∀ w ∈ u_ws RX3 TX3 7, w ∈ ww_ws := by
  have h : ∀ k, k < 7 → u_lay RX3 TX3 k ∈ ww_ws := by
    intro k hk
    match k, hk with
    | 0, _ => exact ww_t1 178 rfl rfl
    | 1, _ => exact ww_t1 180 rfl rfl
    | 2, _ => exact ww_t1 182 rfl rfl
    | 3, _ => exact ww_t1 184 rfl rfl
    | 4, _ => exact ww_t1 186 rfl rfl
    | 5, _ => exact ww_t1 188 rfl rfl
    | 6, _ => exact ww_t1 190 rfl rfl
    | k + 7, h => exact absurd h (by omega)
  intro w hw
  obtain ⟨k, hk, rfl⟩ := List.mem_map.mp hw
  exact h k (List.mem_range.mp hk)
theorem inlX4 : ∀ w ∈ u_ws RX4 TX4 6, w ∈ ww_ws := by
  have h : ∀ k, k < 6 → u_lay RX4 TX4 k ∈ ww_ws := by
    intro k hk
    match k, hk with
    | 0, _ => exact ww_t1 53 rfl rfl
    | 1, _ => exact ww_t1 55 rfl rfl
    | 2, _ => exact ww_t1 57 rfl rfl
    | 3, _ => exact ww_t1 59 rfl rfl
    | 4, _ => exact ww_t1 61 rfl rfl
    | 5, _ => exact ww_t1 63 rfl rfl
    | k + 6, h => exact absurd h (by omega)
  intro w hw
  obtain ⟨k, hk, rfl⟩ := List.mem_map.mp hw
  exact h k (List.mem_range.mp hk)
theorem inlX5 : ∀ w ∈ u_ws RX5 TX5 11, w ∈ ww_ws := by
  have h : ∀ k, k < 11 → u_lay RX5 TX5 k ∈ ww_ws := by
    intro k hk
    match k, hk with
    | 0, _ => exact ww_t1 204 rfl rfl
    | 1, _ => exact ww_t1 206 rfl rfl
    | 2, _ => exact ww_t1 208 rfl rfl
    | 3, _ => exact ww_t1 210 rfl rfl
    | 4, _ => exact ww_t1 212 rfl rfl
    | 5, _ => exact ww_t1 214 rfl rfl
    | 6, _ => exact ww_t1 216 rfl rfl
    | 7, _ => exact ww_t1 218 rfl rfl
    | 8, _ => exact ww_t1 220 rfl rfl
    | 9, _ => exact ww_t1 222 rfl rfl
    | 10, _ => exact ww_t1 224 rfl rfl
    | k + 11, h => exact absurd h (by omega)
  intro w hw
  obtain ⟨k, hk, rfl⟩ := List.mem_map.mp hw
  exact h k (List.mem_range.mp hk)
theorem inlX6 : ∀ w ∈ u_ws RX6 TX6 32, w ∈ ww_ws := by
  have h : ∀ k, k < 32 → u_lay RX6 TX6 k ∈ ww_ws := by
    intro k hk
    match k, hk with
    | 0, _ => exact ww_t3 215 rfl rfl
    | 1, _ => exact ww_t3 217 rfl rfl
    | 2, _ => exact ww_t3 219 rfl rfl
    | 3, _ => exact ww_t3 221 rfl rfl
    | 4, _ => exact ww_t3 223 rfl rfl
    | 5, _ => exact ww_t3 225 rfl rfl
    | 6, _ => exact ww_t3 227 rfl rfl
    | 7, _ => exact ww_t3 229 rfl rfl
    | 8, _ => exact ww_t3 231 rfl rfl
    | 9, _ => exact ww_t3 233 rfl rfl
    | 10, _ => exact ww_t3 235 rfl rfl
    | 11, _ => exact ww_t3 237 rfl rfl
    | 12, _ => exact ww_t3 239 rfl rfl
    | 13, _ => exact ww_t4 1 rfl rfl
    | 14, _ => exact ww_t4 3 rfl rfl
    | 15, _ => exact ww_t4 5 rfl rfl
    | 16, _ => exact ww_t4 7 rfl rfl
    | 17, _ => exact ww_t4 9 rfl rfl
    | 18, _ => exact ww_t4 11 rfl rfl
    | 19, _ => exact ww_t4 13 rfl rfl
    | 20, _ => exact ww_t4 15 rfl rfl
    | 21, _ => exact ww_t4 17 rfl rfl
    | 22, _ => exact ww_t4 19 rfl rfl
    | 23, _ => exact ww_t4 21 rfl rfl
    | 24, _ => exact ww_t4 23 rfl rfl
    | 25, _ => exact ww_t4 25 rfl rfl
    | 26, _ => exact ww_t4 27 rfl rfl
    | 27, _ => exact ww_t4 29 rfl rfl
    | 28, _ => exact ww_t4 31 rfl rfl
    | 29, _ => exact ww_t4 33 rfl rfl
    | 30, _ => exact ww_t4 35 rfl rfl
    | 31, _ => exact ww_t4 37 rfl rfl
    | k + 32, h => exact absurd h (by omega)
  intro w hw
  obtain ⟨k, hk, rfl⟩ := List.mem_map.mp hw
  exact h k (List.mem_range.mp hk)
end
section
/-! ===== worlds by name: a cell's name is (kind, number); what an int cell holds is tau name place ===== -/
abbrev ww_N : Type := Nat × Nat
abbrev ww_V : Type := Int32 ⊕ (Int64 ⊕ ww_N)
abbrev ww_M : Type := ww_N → Nat → Int32
abbrev ww_S : Type := (Nat × List (Option ww_N)) ⊕ (Nat ⊕ (Nat × Nat × (Nat → ww_N)))
abbrev ww_G : Type := va_G × (ww_N → Nat) × (Nat → ClassId)
abbrev ww_D : Type := MethodName × ByteArray × Nat × Option FieldType × Nat × Nat
abbrev ww_E := Program × Launch × Env × State × MethodId × Array Value × List Frame × Method × Code
def ww_cap (r : Nat) : Nat := if r = 16 then 540 else if r < 12 then 60 else if r < 16 then 14 else if r < 20 then 60 else 14
theorem ww_cap_lt (r : Nat) : ww_cap r < 2147483648 := by
  unfold ww_cap
  split
  · omega
  · split
    · omega
    · split
      · omega
      · split <;> omega
/-- a cell's shape: an object (its class's number; its fields: some = the cell that it always names, none = an int), ints (how many), cells (array class, how many, which) -/
def ww_sh (n : ww_N) : ww_S := match n with
  | (0, _) => .inl (5, [some (1, 0), some (2, 0), some (4, 0), some (8, 0), some (20, 0), some (21, 16), some (21, 17), some (21, 18), none, none, none])
  | (1, _) => .inr (.inr (1, 6, fun j => (21, j)))
  | (2, _) => .inl (4, [some (3, 0), none, none, none, none, none])
  | (3, _) => .inr (.inl 100)
  | (4, _) => .inl (1, [some (5, 0), none, some (6, 0), none, none, none, some (7, 0), none])
  | (5, _) => .inr (.inr (1, 6, fun j => (21, 6 + j)))
  | (6, _) => .inr (.inl 60)
  | (7, _) => .inr (.inl 4)
  | (8, _) => .inl (0, [some (9, 0), none, some (10, 0), some (11, 0), some (21, 15), some (12, 0), none, none, some (13, 0), some (14, 0), some (15, 0), some (17, 0), some (18, 0)])
  | (9, _) => .inr (.inr (1, 3, fun j => (21, 12 + j)))
  | (10, _) => .inr (.inl 3)
  | (11, _) => .inr (.inl 3)
  | (12, _) => .inr (.inr (1, 84, fun j => (21, 20 + j)))
  | (13, _) => .inr (.inl 84)
  | (14, _) => .inr (.inl 84)
  | (15, _) => .inr (.inr (2, 8, fun j => (16, j)))
  | (16, _) => .inr (.inl 84)
  | (17, _) => .inr (.inl 8)
  | (18, _) => .inr (.inr (2, 3, fun j => (19, j)))
  | (19, _) => .inr (.inl 4)
  | (20, _) => .inl (3, [some (8, 0), some (21, 19), none, none, none, none, none])
  | (21, r) => .inl (2, [some (22, r), none])
  | (22, r) => .inr (.inl (ww_cap r))
  | (30, _) => .inl (6, [some (31, 0), some (32, 0), none, some (33, 0), some (34, 0), some (35, 0), none, some (36, 0), some (37, 0), some (38, 0), none, some (39, 0), none, some (40, 0), none, none, none, none, some (41, 0), some (42, 0), some (43, 0), none, none, some (44, 0), none, none, some (45, 0), some (46, 0), none, none, some (47, 0), some (48, 0)])
  | (31, _) => .inr (.inl 42)
  | (32, _) => .inr (.inl 3)
  | (33, _) => .inr (.inl 1176)
  | (34, _) => .inr (.inl 84)
  | (35, _) => .inr (.inl 84)
  | (36, _) => .inr (.inl 360)
  | (37, _) => .inr (.inl 6)
  | (38, _) => .inr (.inl 3)
  | (39, _) => .inr (.inl 700)
  | (40, _) => .inr (.inl 12)
  | (41, _) => .inr (.inl 700)
  | (42, _) => .inr (.inl 60)
  | (43, _) => .inr (.inl 60)
  | (44, _) => .inr (.inl 100)
  | (45, _) => .inr (.inl 5)
  | (46, _) => .inr (.inl 61)
  | (47, _) => .inr (.inl 360)
  | (48, _) => .inr (.inl 6)
  | _ => .inr (.inl 0)
def ww_cnt (k : Nat) : Nat := if k = 16 then 8 else if k = 19 then 3 else if k = 21 then 104 else if k = 22 then 104 else if k < 23 then 1 else if k < 30 then 0 else if k < 49 then 1 else 0
def ww_in (n : ww_N) : Prop := n.2 < ww_cnt n.1
theorem ww_i1 (k : Nat) (h : 0 < ww_cnt k) : ww_in (k, 0) := h
def ww_v (g : ww_G) : ww_V → Value
  | .inl x => .int x
  | .inr (.inl x) => .long x
  | .inr (.inr n) => .ref (g.2.1 n)
def ww_fs (g : ww_G) (τ : ww_M) (n : ww_N) : Nat → List (Option ww_N) → List Value
  | _, [] => []
  | k, some x :: r => .ref (g.2.1 x) :: ww_fs g τ n (k + 1) r
  | k, none :: r => .int (τ n k) :: ww_fs g τ n (k + 1) r
def ww_fv (g : ww_G) (τ : ww_M) (n : ww_N) (k : Nat) : Option ww_N → Value
  | some x => .ref (g.2.1 x)
  | none => .int (τ n k)
theorem ww_fs_at (g : ww_G) (τ : ww_M) (n : ww_N) : ∀ (fs : List (Option ww_N)) (i k : Nat), (ww_fs g τ n i fs)[k]? = (fs[k]?).map (ww_fv g τ n (i + k))
  | [], i, k => by simp [ww_fs]
  | some x :: r, i, 0 => by simp [ww_fs, ww_fv]
  | none :: r, i, 0 => by simp [ww_fs, ww_fv]
  | some x :: r, i, k + 1 => by
    rw [ww_fs, List.getElem?_cons_succ, List.getElem?_cons_succ, ww_fs_at g τ n r (i + 1) k, show i + 1 + k = i + (k + 1) by omega]
  | none :: r, i, k + 1 => by
    rw [ww_fs, List.getElem?_cons_succ, List.getElem?_cons_succ, ww_fs_at g τ n r (i + 1) k, show i + 1 + k = i + (k + 1) by omega]
theorem ww_fs_len (g : ww_G) (τ : ww_M) (n : ww_N) : ∀ (fs : List (Option ww_N)) (i : Nat), (ww_fs g τ n i fs).length = fs.length
  | [], i => rfl
  | some x :: r, i => by rw [ww_fs, List.length_cons, List.length_cons, ww_fs_len g τ n r]
  | none :: r, i => by rw [ww_fs, List.length_cons, List.length_cons, ww_fs_len g τ n r]
theorem ww_fs_congr (g : ww_G) {τ τ' : ww_M} {n : ww_N} (h : τ n = τ' n) : ∀ (fs : List (Option ww_N)) (i : Nat), ww_fs g τ n i fs = ww_fs g τ' n i fs
  | [], i => rfl
  | some x :: r, i => by rw [ww_fs, ww_fs, ww_fs_congr g h r]
  | none :: r, i => by rw [ww_fs, ww_fs, ww_fs_congr g h r, h]
def ww_c (g : ww_G) (τ : ww_M) (n : ww_N) : va_E := match ww_sh n with
  | .inl q => .inr (q.1, ww_fs g τ n 0 q.2)
  | .inr (.inl len) => .inl (g.2.2 0, len, .inl (τ n))
  | .inr (.inr q) => .inl (g.2.2 q.1, q.2.1, .inr (.inr (.inr (.inr (fun j => some (g.2.1 (q.2.2 j)))))))
theorem ww_c_ob {g : ww_G} {τ : ww_M} {n : ww_N} {ci : Nat} {fs : List (Option ww_N)} (h : ww_sh n = .inl (ci, fs)) : ww_c g τ n = .inr (ci, ww_fs g τ n 0 fs) := by
  unfold ww_c; rw [h]
theorem ww_c_ia {g : ww_G} {τ : ww_M} {n : ww_N} {len : Nat} (h : ww_sh n = .inr (.inl len)) : ww_c g τ n = .inl (g.2.2 0, len, .inl (τ n)) := by
  unfold ww_c; rw [h]
theorem ww_c_ra {g : ww_G} {τ : ww_M} {n : ww_N} {a len : Nat} {f : Nat → ww_N} (h : ww_sh n = .inr (.inr (a, len, f))) : ww_c g τ n = .inl (g.2.2 a, len, .inr (.inr (.inr (.inr (fun j => some (g.2.1 (f j))))))) := by
  unfold ww_c; rw [h]
theorem ww_c_congr (g : ww_G) {τ τ' : ww_M} {n : ww_N} (h : τ n = τ' n) : ww_c g τ n = ww_c g τ' n := by
  unfold ww_c
  split
  · rw [ww_fs_congr g h]
  · rw [h]
  · rfl
/-- what a place of a cell holds becomes v -/
def ww_up (τ : ww_M) (n : ww_N) (k : Nat) (v : Int32) : ww_M := fun a b => if a = n ∧ b = k then v else τ a b
theorem ww_up_s (τ : ww_M) (n : ww_N) (k : Nat) (v : Int32) : ww_up τ n k v n k = v := if_pos ⟨rfl, rfl⟩
theorem ww_up_k {τ : ww_M} {n a : ww_N} {k b : Nat} {v : Int32} (h : b ≠ k) : ww_up τ n k v a b = τ a b := if_neg (fun q => h q.2)
theorem ww_up_n {τ : ww_M} {n a : ww_N} {k b : Nat} {v : Int32} (h : a ≠ n) : ww_up τ n k v a b = τ a b := if_neg (fun q => h q.1)
theorem ww_up_f {τ : ww_M} {n a : ww_N} {k : Nat} {v : Int32} (h : a ≠ n) : ww_up τ n k v a = τ a := funext fun _ => ww_up_n h
theorem ww_up_row (τ : ww_M) (n : ww_N) (k : Nat) (v : Int32) : ww_up τ n k v n = upd (τ n) k v := by
  funext j
  by_cases h : j = k
  · subst h; simp [ww_up, upd]
  · simp [ww_up, upd, h]
def ww_P (g : ww_G) (τ : ww_M) (H : Heap) : Prop := ∀ n : ww_N, ww_in n → va_at g.1 vwCl (g.2.1 n, ww_c g τ n) H
def ww_J (g : ww_G) : Prop := ∀ n n' : ww_N, ww_in n → ww_in n' → g.2.1 n = g.2.1 n' → n = n'
def ww_A (g : ww_G) : Nat → Prop := fun q => ∃ n : ww_N, ww_in n ∧ q = g.2.1 n
def ww_ty (g : ww_G) : List (ClassId × FieldType) := [(g.2.2 0, .int), (g.2.2 1, .object "PieceWords$Row"), (g.2.2 2, .array .int)]
/-- one cell of the world, as the kit has worlds -/
theorem ww_P.one {g : ww_G} {τ : ww_M} {H : Heap} (h : ww_P g τ H) {n : ww_N} (hn : ww_in n) {e : va_E} (he : ww_c g τ n = e) : va_P g.1 vwCl [(g.2.1 n, e)] H := by
  intro k q hk
  have hz : k < 1 := (List.getElem?_eq_some_iff.mp hk).1
  rw [show k = 0 by omega] at hk
  cases hk
  rw [← he]
  exact h n hn
/-- a cell is written: the others stay -/
theorem ww_P.put {g : ww_G} {τ τ' : ww_M} {H H1 : Heap} (h : ww_P g τ H) (hJ : ww_J g) {n : ww_N} (hn : ww_in n) (he : va_at g.1 vwCl (g.2.1 n, ww_c g τ' n) H1) (ho : ∀ a : ww_N, a ≠ n → τ' a = τ a) (oq : ∀ q : Nat, q ≠ g.2.1 n → H1[q]? = H[q]?) : ww_P g τ' H1 := by
  intro a ha
  by_cases hab : a = n
  · subst hab; exact he
  · rw [ww_c_congr g (ho a hab)]
    exact (h a ha).kept (oq _ (fun z => hab (hJ a n ha hn z)))
def ww_nF : List (String × Nat × String × String × String × String) := [("PieceWords$Shortening", 28, "PieceWords$Row", "count", "I", "PieceWords"), ("PieceWords$Members", 90, "PieceWords$Row", "count", "I", "PieceWords"), ("PieceWords", 100, "PieceWords$Row", "count", "I", "PieceWords"), ("PieceWords$Reader", 84, "PieceWords$Row", "count", "I", "PieceWords"), ("PieceWords$Reader", 31, "PieceWords$Text", "size", "I", "PieceWords"), ("PieceWords", 66, "PieceWords$Text", "size", "I", "PieceWords"), ("PieceWords$Members", 70, "PieceWords$Reader", "read", "[LPieceWords$Row;", "PieceWords"), ("PieceWords", 84, "PieceWords$Reader", "read", "[LPieceWords$Row;", "PieceWords"), ("PieceWords$Members", 55, "PieceWords$Reader", "count", "I", "PieceWords"), ("PieceWords", 78, "PieceWords$Reader", "count", "I", "PieceWords"), ("PieceWords", 97, "PieceWords$Members", "relator", "[LPieceWords$Row;", "PieceWords"), ("PieceWords", 94, "PieceWords$Members", "relatorCount", "I", "PieceWords"), ("PieceWords", 101, "PieceWords$Members", "piece", "[I", "PieceWords"), ("PieceWords", 105, "PieceWords$Members", "ownFirst", "[I", "PieceWords"), ("PieceWords", 200, "PieceWords$Members", "count", "I", "PieceWords"), ("PieceWords$Shortening", 31, "PieceWords$Members", "shortest", "I", "PieceWords"), ("PieceWords", 91, "PieceWords$Shortening", "kind", "I", "PieceWords"), ("PieceWords", 173, "PieceWords$Shortening", "place", "I", "PieceWords"), ("PieceWords", 176, "PieceWords$Shortening", "member", "I", "PieceWords"), ("PieceWords", 179, "PieceWords$Shortening", "matched", "I", "PieceWords")]
def ww_nM : List (String × Nat × MethodName × String) := [("PieceWords", 20, ⟨"PieceWords$Text", "<init>", "()V"⟩, "PieceWords"), ("PieceWords$Row", 29, ⟨"PieceWords", "opposite", "(I)I"⟩, "PieceWords"), ("PieceWords$Shortening", 84, ⟨"PieceWords", "opposite", "(I)I"⟩, "PieceWords")]
def ww_NW (U : State) : Prop := (∀ q ∈ ww_nF, va_Nw (.fieldLinkNest q.1 q.2.1 q.2.2.1 q.2.2.2.1 q.2.2.2.2.1 q.2.2.2.2.2) U) ∧ ∀ q ∈ ww_nM, va_Nw (.methodLinkNest q.1 q.2.1 q.2.2.1 q.2.2.2) U
theorem ww_NW.warm {s U : State} (hW : s.WarmedH U.vm) (h : ww_NW s) : ww_NW U := ⟨fun q hq => va_Nw.warmF hW (h.1 q hq), fun q hq => va_Nw.warmM hW (h.2 q hq)⟩
theorem ww_NW.same {u U : State} (e : u.vm = U.vm) (h : ww_NW u) : ww_NW U := ⟨fun q hq => va_Nw.same rfl e (h.1 q hq), fun q hq => va_Nw.same rfl e (h.2 q hq)⟩
/-! the locals of a frame -/
def ww_L (g : ww_G) (ls : Array Slot) (nL : Nat) (P : List (Option ww_V)) : Prop := ls.size = nL ∧ lv_wf ls ∧ ∀ (i : Nat) (v : ww_V), P[i]? = some (some v) → ls[i]? = some (.val (ww_v g v))
def ww_lv (g : ww_G) : Nat → List (Option ww_V) → List (Nat × Value)
  | _, [] => []
  | i, none :: r => ww_lv g (i + 1) r
  | i, some v :: r => (i, ww_v g v) :: ww_lv g (i + 1) r
theorem ww_lv_of (g : ww_G) : ∀ (P : List (Option ww_V)) (i k : Nat) (v : ww_V), P[k]? = some (some v) → (i + k, ww_v g v) ∈ ww_lv g i P
  | [], i, k, v, h => by simp at h
  | none :: r, i, 0, v, h => by simp at h
  | none :: r, i, k + 1, v, h => by
    rw [List.getElem?_cons_succ] at h
    rw [ww_lv, show i + (k + 1) = i + 1 + k by omega]
    exact ww_lv_of g r (i + 1) k v h
  | some x :: r, i, 0, v, h => by
    rw [List.getElem?_cons_zero] at h
    cases h
    rw [ww_lv]
    exact List.mem_cons_self
  | some x :: r, i, k + 1, v, h => by
    rw [List.getElem?_cons_succ] at h
    rw [ww_lv, show i + (k + 1) = i + 1 + k by omega]
    exact List.mem_cons_of_mem _ (ww_lv_of g r (i + 1) k v h)
theorem ww_lv_to (g : ww_G) : ∀ (P : List (Option ww_V)) (i : Nat) (q : Nat × Value), q ∈ ww_lv g i P → ∃ (k : Nat) (v : ww_V), P[k]? = some (some v) ∧ q = (i + k, ww_v g v)
  | [], i, q, h => by simp [ww_lv] at h
  | none :: r, i, q, h => by
    rw [ww_lv] at h
    obtain ⟨k, v, h1, h2⟩ := ww_lv_to g r (i + 1) q h
    exact ⟨k + 1, v, by rw [List.getElem?_cons_succ]; exact h1, by rw [h2, show i + 1 + k = i + (k + 1) by omega]⟩
  | some x :: r, i, q, h => by
    rw [ww_lv] at h
    rcases List.mem_cons.mp h with h | h
    · exact ⟨0, x, rfl, h⟩
    · obtain ⟨k, v, h1, h2⟩ := ww_lv_to g r (i + 1) q h
      exact ⟨k + 1, v, by rw [List.getElem?_cons_succ]; exact h1, by rw [h2, show i + 1 + k = i + (k + 1) by omega]⟩
theorem ww_L.has {g : ww_G} {ls : Array Slot} {nL : Nat} {P : List (Option ww_V)} (h : ww_L g ls nL P) : lv_has ls nL (ww_lv g 0 P) := by
  refine ⟨h.1, h.2.1, fun q hq => ?_⟩
  obtain ⟨k, v, h1, h2⟩ := ww_lv_to g P 0 q hq
  subst h2
  rw [Nat.zero_add]
  exact h.2.2 k v h1
theorem ww_L.has1 {g : ww_G} {ls : Array Slot} {nL : Nat} {P : List (Option ww_V)} (h : ww_L g ls nL P) {i : Nat} {v : ww_V} (hv : P[i]? = some (some v)) : lv_has ls nL ((i, ww_v g v) :: ww_lv g 0 P) := by
  refine ⟨h.1, h.2.1, fun q hq => ?_⟩
  rcases List.mem_cons.mp hq with e | e
  · subst e; exact h.2.2 i v hv
  · exact h.has.2.2 q e
/-- no long begins just ahead of a place -/
def ww_nl (P : List (Option ww_V)) : Nat → Bool
  | 0 => true
  | k + 1 => match P[k]? with
    | some (some (.inr (.inl _))) => false
    | _ => true
theorem ww_nl_ok {g : ww_G} {P : List (Option ww_V)} {i k : Nat} {v : ww_V} (h : ww_nl P i = true) (hk : k + 1 = i) (hv : P[k]? = some (some v)) : ((ww_v g v).category == 2) = false := by
  subst hk
  rw [ww_nl, hv] at h
  match v, h with
  | .inl x, h => rfl
  | .inr (.inr n), h => rfl
theorem ww_L.st1 {g : ww_G} {ls : Array Slot} {nL : Nat} {P : List (Option ww_V)} {i : Nat} {v : ww_V} {l : List (Nat × Value)} (hl : ∀ (k : Nat) (w : ww_V), P[k]? = some (some w) → (k, ww_v g w) ∈ l) (hn : ww_nl P i = true) (h : lv_has ls nL ((i, ww_v g v) :: l.filter (fun q => !(q.1 == i) && !(q.1 + 1 == i && q.2.category == 2)))) : ww_L g ls nL (P.set i (some v)) := by
  refine ⟨h.1, h.2.1, fun k w hk => ?_⟩
  by_cases hki : k = i
  · subst hki
    rw [List.getElem?_set] at hk
    split at hk
    · split at hk
      · cases hk
        exact h.2.2 (k, ww_v g v) List.mem_cons_self
      · cases hk
    · rename_i hx; exact absurd rfl hx
  · rw [List.getElem?_set_ne (Ne.symm hki)] at hk
    refine h.2.2 (k, ww_v g w) (List.mem_cons_of_mem _ (List.mem_filter.mpr ⟨hl k w hk, ?_⟩))
    have h1 : (k == i) = false := by simpa using hki
    by_cases h2 : k + 1 = i
    · simp [h1, ww_nl_ok (g := g) hn h2 hk]
    · simp [h1, h2]
theorem ww_L.st2 {g : ww_G} {ls : Array Slot} {nL : Nat} {P : List (Option ww_V)} {i : Nat} {v : ww_V} {l : List (Nat × Value)} (hl : ∀ (k : Nat) (w : ww_V), P[k]? = some (some w) → (k, ww_v g w) ∈ l) (hn : ww_nl P i = true) (h : lv_has ls nL ((i, ww_v g v) :: l.filter (fun q => !(q.1 == i) && (!(q.1 == i + 1) && !(q.1 + 1 == i && q.2.category == 2))))) : ww_L g ls nL ((P.set i (some v)).set (i + 1) none) := by
  refine ⟨h.1, h.2.1, fun k w hk => ?_⟩
  by_cases hk1 : k = i + 1
  · subst hk1
    rw [List.getElem?_set] at hk
    split at hk
    · split at hk <;> cases hk
    · rename_i hx; exact absurd rfl hx
  · rw [List.getElem?_set_ne (Ne.symm hk1)] at hk
    by_cases hki : k = i
    · subst hki
      rw [List.getElem?_set] at hk
      split at hk
      · split at hk
        · cases hk
          exact h.2.2 (k, ww_v g v) List.mem_cons_self
        · cases hk
      · rename_i hx; exact absurd rfl hx
    · rw [List.getElem?_set_ne (Ne.symm hki)] at hk
      refine h.2.2 (k, ww_v g w) (List.mem_cons_of_mem _ (List.mem_filter.mpr ⟨hl k w hk, ?_⟩))
      have h1 : (k == i) = false := by simpa using hki
      have h3 : (k == i + 1) = false := by simpa using hk1
      by_cases h2 : k + 1 = i
      · simp [h1, h3, ww_nl_ok (g := g) hn h2 hk]
      · simp [h1, h3, h2]
def ww_le : List (Option ww_V) → List (Option ww_V) → Prop
  | [], _ => True
  | none :: a, _ :: b => ww_le a b
  | some v :: a, some x :: b => v = x ∧ ww_le a b
  | none :: a, [] => ww_le a []
  | some _ :: _, _ => False
theorem ww_le_at : ∀ (a b : List (Option ww_V)), ww_le a b → ∀ (i : Nat) (v : ww_V), a[i]? = some (some v) → b[i]? = some (some v)
  | [], b, _, i, v, h => by simp at h
  | none :: a, x :: b, hl, 0, v, h => by simp at h
  | none :: a, x :: b, hl, i + 1, v, h => by
    rw [List.getElem?_cons_succ] at h ⊢
    exact ww_le_at a b (by simpa [ww_le] using hl) i v h
  | none :: a, [], hl, 0, v, h => by simp at h
  | none :: a, [], hl, i + 1, v, h => by
    rw [List.getElem?_cons_succ] at h
    have := ww_le_at a [] (by simpa [ww_le] using hl) i v h
    simp at this
  | some y :: a, some x :: b, hl, 0, v, h => by
    rw [ww_le] at hl
    rw [List.getElem?_cons_zero] at h ⊢
    rw [← hl.1]; exact h
  | some y :: a, some x :: b, hl, i + 1, v, h => by
    rw [ww_le] at hl
    rw [List.getElem?_cons_succ] at h ⊢
    exact ww_le_at a b hl.2 i v h
  | some y :: a, none :: b, hl, i, v, h => by simp [ww_le] at hl
  | some y :: a, [], hl, i, v, h => by simp [ww_le] at hl
theorem ww_le_nil (b : List (Option ww_V)) : ww_le [] b := by unfold ww_le; trivial
theorem ww_le_n {a b : List (Option ww_V)} {x : Option ww_V} (h : ww_le a b) : ww_le (none :: a) (x :: b) := by unfold ww_le; exact h
theorem ww_le_s {a b : List (Option ww_V)} {v : ww_V} (h : ww_le a b) : ww_le (some v :: a) (some v :: b) := by unfold ww_le; exact ⟨rfl, h⟩
theorem ww_L.weak {g : ww_G} {ls : Array Slot} {nL : Nat} {P P' : List (Option ww_V)} (hle : ww_le P' P) (h : ww_L g ls nL P) : ww_L g ls nL P' := ⟨h.1, h.2.1, fun i v hv => h.2.2 i v (ww_le_at P' P hle i v hv)⟩
/-- the locals with which a method begins -/
def ww_P0 : List ww_V → List (Option ww_V)
  | [] => []
  | .inr (.inl x) :: r => some (.inr (.inl x)) :: none :: ww_P0 r
  | .inl x :: r => some (.inl x) :: ww_P0 r
  | .inr (.inr n) :: r => some (.inr (.inr n)) :: ww_P0 r
theorem ww_P0_in (g : ww_G) : ∀ (as : List ww_V) (i k : Nat) (v : ww_V), (ww_P0 as)[k]? = some (some v) → (i + k, ww_v g v) ∈ lv_args i (as.map (ww_v g))
  | [], i, k, v, h => by simp [ww_P0] at h
  | .inr (.inl x) :: r, i, 0, v, h => by
    simp only [ww_P0, List.getElem?_cons_zero] at h
    cases h
    exact List.mem_cons_self
  | .inr (.inl x) :: r, i, 1, v, h => by simp [ww_P0] at h
  | .inr (.inl x) :: r, i, k + 2, v, h => by
    simp only [ww_P0, List.getElem?_cons_succ] at h
    have := ww_P0_in g r (i + 2) k v h
    rw [List.map_cons, lv_args, show i + (k + 2) = i + 2 + k by omega]
    exact List.mem_cons_of_mem _ this
  | .inl x :: r, i, 0, v, h => by
    simp only [ww_P0, List.getElem?_cons_zero] at h
    cases h
    exact List.mem_cons_self
  | .inl x :: r, i, k + 1, v, h => by
    simp only [ww_P0, List.getElem?_cons_succ] at h
    have := ww_P0_in g r (i + 1) k v h
    rw [List.map_cons, lv_args, show i + (k + 1) = i + 1 + k by omega]
    exact List.mem_cons_of_mem _ this
  | .inr (.inr n) :: r, i, 0, v, h => by
    simp only [ww_P0, List.getElem?_cons_zero] at h
    cases h
    exact List.mem_cons_self
  | .inr (.inr n) :: r, i, k + 1, v, h => by
    simp only [ww_P0, List.getElem?_cons_succ] at h
    have := ww_P0_in g r (i + 1) k v h
    rw [List.map_cons, lv_args, show i + (k + 1) = i + 1 + k by omega]
    exact List.mem_cons_of_mem _ this
/-! ===== the judgement ===== -/
def ww_R (d : ww_D) : Room := { frames := d.2.2.2.2.1, cells := 0, slots := 0, locals := d.2.2.2.2.2 }
def ww_Cx (g : ww_G) (d : ww_D) (E : ww_E) : Prop := E.1.tables.exec = Jvm.exec ∧ E.2.2.2.2.2.2.2.2.code = d.2.1 ∧ E.2.2.2.2.2.2.2.1.sig.returnType = d.2.2.2.1 ∧ E.2.2.2.2.2.2.2.2.maxLocals = d.2.2.1 ∧ E.2.2.2.1.vm.findClass d.1.cls = some E.2.2.2.2.1.cls ∧ (∀ w ∈ ww_ws, w.before E.2.2.2.2.2.1 E.2.2.2.1 = true) ∧ E.2.2.2.2.2.2.2.1.locks = false ∧ va_K g.1 vwCl (ww_ty g) E.2.2.2.1 ∧ ww_J g ∧ ww_NW E.2.2.2.1
def ww_Q (g : ww_G) (Q : Option ww_V → ww_M → Prop) : Array Value → State → Outcome → State → Prop := fun _ st oc t => (∃ (r : Option ww_V) (τ : ww_M), oc = .returned (r.map (ww_v g)) ∧ Q r τ ∧ ww_P g τ t.heap) ∧ va_F (ww_A g) st t
def ww_W (g : ww_G) (d : ww_D) (E : ww_E) (Q : Option ww_V → ww_M → Prop) (pc : Nat) (P : List (Option ww_V)) (st : List ww_V) (τ : ww_M) : Prop :=
  ww_Cx g d E → ∀ (H : Heap) (locs : List Loc) (ls : Array Slot), ww_P g τ H → va_S (ww_A g) E.2.2.2.1.heap H locs → ww_L g ls d.2.2.1 P →
    W E.1 E.2.1 E.2.2.1 (ww_R d) E.2.2.2.1 E.2.2.2.2.1 E.2.2.2.2.2.1 E.2.2.2.2.2.2.1 E.2.2.2.2.2.2.2.1 E.2.2.2.2.2.2.2.2 H locs 0 0 (MQ E.2.2.2.2.2.2.1 (ww_Q g Q) E.2.2.2.2.2.1 E.2.2.2.1 0 0 (ww_A g)) (F0 E.2.2.2.2.1 pc ls (st.map (ww_v g)))
def ww_U (g : ww_G) (τ : ww_M) (U : State) : Prop := ww_P g τ U.heap ∧ va_K g.1 vwCl (ww_ty g) U ∧ ww_NW U ∧ ww_J g
/-- a method's contract: from the world tau, with the answers as, it ends with Q -/
def ww_T (l : Launch) (g : ww_G) (d : ww_D) (as : List ww_V) (τ : ww_M) (Q : Option ww_V → ww_M → Prop) : Prop :=
  Met l d.1 (.code d.1 d.2.1 d.2.2.1 d.2.2.2.1 :: ww_ws) (ww_R d) (va_Pc (as.map (ww_v g)) (ww_U g τ)) (ww_Q g Q) 0 0 (ww_A g)
def ww_QI (Post : Int32 → ww_M → Prop) : Option ww_V → ww_M → Prop := fun r τ => ∃ v : Int32, r = some (.inl v) ∧ Post v τ
def ww_QL (Post : Int64 → ww_M → Prop) : Option ww_V → ww_M → Prop := fun r τ => ∃ v : Int64, r = some (.inr (.inl v)) ∧ Post v τ
def ww_QV (Post : ww_M → Prop) : Option ww_V → ww_M → Prop := fun r τ => r = none ∧ Post τ
theorem ww_T.imp {l : Launch} {g : ww_G} {d : ww_D} {as : List ww_V} {τ : ww_M} {Q Q' : Option ww_V → ww_M → Prop} (h : ww_T l g d as τ Q) (hi : ∀ r t, Q r t → Q' r t) : ww_T l g d as τ Q' := by
  intro p e ha hc hk s m args below hf hfit hP hK
  obtain ⟨k, o, h1, h2, h3, ⟨⟨r, t, e1, e2, e3⟩, h5⟩, h6⟩ := h p e ha hc hk s m args below hf hfit hP hK
  exact ⟨k, o, h1, h2, h3, ⟨⟨r, t, e1, hi _ _ e2, e3⟩, h5⟩, h6⟩
section RULES
variable {l : Launch} {g : ww_G} {d : ww_D} {E : ww_E} {Q : Option ww_V → ww_M → Prop} {pc : Nat} {P : List (Option ww_V)} {st : List ww_V} {τ : ww_M}
theorem ww_weak {P' : List (Option ww_V)} (hle : ww_le P' P) (k : ww_W g d E Q pc P' st τ) : ww_W g d E Q pc P st τ := fun C H locs ls hP hS hl => k C H locs ls hP hS (hl.weak hle)
theorem ww_enter {as : List ww_V} (hy : plainName d.1.cls = true) (hlen : (lg_sl (as.map (ww_v g))).length ≤ d.2.2.1) (hP : P = ww_P0 as ++ List.replicate (d.2.2.1 - (ww_P0 as).length) none) (k : ∀ E : ww_E, ww_W g d E Q 0 P [] τ) : ww_T l g d as τ Q := by
  refine Met.ofW (cc := d.2.1) (maxL := d.2.2.1) (ret := d.2.2.2.1) hy rfl ?_
  intro p e s m args below meth c s₁ B hml hv
  obtain ⟨rfl, hU, hK, hN, hJ⟩ := hv
  have hts := atoms_spec (ws := .code d.1 d.2.1 d.2.2.1 d.2.2.2.1 :: ww_ws) B.pre
  have hown : s.vm.findClass d.1.cls = some m.cls := findClass_of_methodNamed B.named
  have hl := lv_entry (as.map (ww_v g)) (n := d.2.2.1) hlen
  rw [lg_entry_eq]
  refine k (p, l, e, s, m, (as.map (ww_v g)).toArray, below, meth, c) ⟨B.exec, B.bytes, B.returns, hml, hown, fun w h => hts w (List.mem_cons_of_mem _ h), B.notSynchronized, hK, hJ, hN⟩ s.heap [] _ hU va_S.rf ⟨hl.1, hl.2.1, fun i v hv => ?_⟩
  rw [hP] at hv
  have hi : (ww_P0 as)[i]? = some (some v) := by
    by_cases hlt : i < (ww_P0 as).length
    · rw [List.getElem?_append_left hlt] at hv; exact hv
    · rw [List.getElem?_append_right (by omega)] at hv
      have := List.mem_of_getElem? hv
      rw [List.mem_replicate] at this
      cases this.2
  have := ww_P0_in g as 0 i v hi
  rw [Nat.zero_add] at this
  exact hl.2.2 _ this
theorem ww_ofWF {l : Launch} {y : MethodName} {ws ws' : List Cond} {rm : Room} {Pc : Array Value → State → Prop} {Qc : Array Value → State → Outcome → State → Prop} {mc ms : Nat} {free : Addr → Prop} {cc : ByteArray} {maxL : Nat} {ret : Option FieldType}
    (hy : plainFor y = true) (hw : ws = Cond.code y cc maxL ret :: ws')
    (body : ∀ p e s m args below meth c s₁, BodyLoose p l y (headSpec ws rm) cc maxL ret e s m args below meth c s₁ → c.maxLocals = maxL → Pc args s →
      W p l e (headSpec ws rm).room s m args below meth c s.heap [] 0 0 (MQ below Qc args s mc ms free) (entryFrame m args maxL)) : Met l y ws rm Pc Qc mc ms free := by
  refine MetFree.of_bodySF (code := cc) (maxLocals := maxL) (ret := ret) hy ?_ ?_
  · intro args s m h hn
    obtain ⟨meth, c, h1, h2, h3, h4, h5, h6, -, -⟩ := Cond.code_spec hn (atoms_spec (ws := ws) h _ (by rw [hw]; exact List.mem_cons_self))
    exact ⟨meth, c, h1, h2, h3, h4, h5, h6⟩
  · intro p e s m args below meth c s₁ B hml hP _
    have hh0 : s₁.heap = s.heap := by rw [B.state]; rfl
    obtain ⟨t, a1, o, b1, b2, b3⟩ := body p e s m args below meth c s₁ B hml hP s₁ hh0 (Stand.of_body B)
    exact ⟨t, o, a1, b1, b2, ⟨b3.1, b3.2⟩⟩
theorem ww_enterF {as : List ww_V} (hy : plainFor d.1 = true) (hlen : (lg_sl (as.map (ww_v g))).length ≤ d.2.2.1) (hP : P = ww_P0 as ++ List.replicate (d.2.2.1 - (ww_P0 as).length) none) (k : ∀ E : ww_E, ww_W g d E Q 0 P [] τ) : ww_T l g d as τ Q := by
  refine ww_ofWF (cc := d.2.1) (maxL := d.2.2.1) (ret := d.2.2.2.1) hy rfl ?_
  intro p e s m args below meth c s₁ B hml hv
  obtain ⟨rfl, hU, hK, hN, hJ⟩ := hv
  have hts := atoms_spec (ws := .code d.1 d.2.1 d.2.2.1 d.2.2.2.1 :: ww_ws) B.pre
  have hown : s.vm.findClass d.1.cls = some m.cls := findClass_of_methodNamed B.named
  have hl := lv_entry (as.map (ww_v g)) (n := d.2.2.1) hlen
  rw [lg_entry_eq]
  refine k (p, l, e, s, m, (as.map (ww_v g)).toArray, below, meth, c) ⟨B.exec, B.bytes, B.returns, hml, hown, fun w h => hts w (List.mem_cons_of_mem _ h), B.notSynchronized, hK, hJ, hN⟩ s.heap [] _ hU va_S.rf ⟨hl.1, hl.2.1, fun i v hv => ?_⟩
  rw [hP] at hv
  have hi : (ww_P0 as)[i]? = some (some v) := by
    by_cases hlt : i < (ww_P0 as).length
    · rw [List.getElem?_append_left hlt] at hv; exact hv
    · rw [List.getElem?_append_right (by omega)] at hv
      have := List.mem_of_getElem? hv
      rw [List.mem_replicate] at this
      cases this.2
  have := ww_P0_in g as 0 i v hi
  rw [Nat.zero_add] at this
  exact hl.2.2 _ this
theorem ww_iconst {n : Int} {v : Int32} (pc2 : Nat) (hd : decode d.2.1 pc = .ok (.iconst n, 1)) (hv : Int32.ofInt n = v) (hp : pc + 1 = pc2) (k : ww_W g d E Q pc2 P (.inl v :: st) τ) : ww_W g d E Q pc P (st) τ := by
  subst hp
  exact fun C H locs ls hP hS hl => lv_iconst C.1 C.2.1 hd hv (k C H locs ls hP hS hl)
theorem ww_bipush {n : Int} {v : Int32} (pc2 : Nat) (hd : decode d.2.1 pc = .ok (.bipush n, 2)) (hv : (Int8.ofInt n).toInt32 = v) (hp : pc + 2 = pc2) (k : ww_W g d E Q pc2 P (.inl v :: st) τ) : ww_W g d E Q pc P (st) τ := by
  subst hp
  exact fun C H locs ls hP hS hl => lv_bipush C.1 C.2.1 hd hv (k C H locs ls hP hS hl)
theorem ww_sipush {n : Int} {v : Int32} (pc2 : Nat) (hd : decode d.2.1 pc = .ok (.sipush n, 3)) (hv : (Int16.ofInt n).toInt32 = v) (hp : pc + 3 = pc2) (k : ww_W g d E Q pc2 P (.inl v :: st) τ) : ww_W g d E Q pc P (st) τ := by
  subst hp
  exact fun C H locs ls hP hS hl => lv_sipush C.1 C.2.1 hd hv (k C H locs ls hP hS hl)
theorem ww_lconst {n : Fin 2} {v : Int64} (pc2 : Nat) (hd : decode d.2.1 pc = .ok (.lconst n, 1)) (hv : Int64.ofNat (n : Nat) = v) (hp : pc + 1 = pc2) (k : ww_W g d E Q pc2 P (.inr (.inl v) :: st) τ) : ww_W g d E Q pc P (st) τ := by
  subst hp
  exact fun C H locs ls hP hS hl => lv_lconst C.1 C.2.1 hd hv (k C H locs ls hP hS hl)
theorem ww_iadd {x y : Int32} (pc2 : Nat) (hd : decode d.2.1 pc = .ok (.iadd, 1)) (hp : pc + 1 = pc2) (k : ww_W g d E Q pc2 P (.inl (x + y) :: st) τ) : ww_W g d E Q pc P (.inl y :: .inl x :: st) τ := by
  subst hp
  exact fun C H locs ls hP hS hl => lv_iadd C.1 C.2.1 hd (k C H locs ls hP hS hl)
theorem ww_isub {x y : Int32} (pc2 : Nat) (hd : decode d.2.1 pc = .ok (.isub, 1)) (hp : pc + 1 = pc2) (k : ww_W g d E Q pc2 P (.inl (x - y) :: st) τ) : ww_W g d E Q pc P (.inl y :: .inl x :: st) τ := by
  subst hp
  exact fun C H locs ls hP hS hl => lv_isub C.1 C.2.1 hd (k C H locs ls hP hS hl)
theorem ww_imul {x y : Int32} (pc2 : Nat) (hd : decode d.2.1 pc = .ok (.imul, 1)) (hp : pc + 1 = pc2) (k : ww_W g d E Q pc2 P (.inl (x * y) :: st) τ) : ww_W g d E Q pc P (.inl y :: .inl x :: st) τ := by
  subst hp
  exact fun C H locs ls hP hS hl => lv_imul C.1 C.2.1 hd (k C H locs ls hP hS hl)
theorem ww_iand {x y : Int32} (pc2 : Nat) (hd : decode d.2.1 pc = .ok (.iand, 1)) (hp : pc + 1 = pc2) (k : ww_W g d E Q pc2 P (.inl (x &&& y) :: st) τ) : ww_W g d E Q pc P (.inl y :: .inl x :: st) τ := by
  subst hp
  exact fun C H locs ls hP hS hl => lv_iand C.1 C.2.1 hd (k C H locs ls hP hS hl)
theorem ww_ior {x y : Int32} (pc2 : Nat) (hd : decode d.2.1 pc = .ok (.ior, 1)) (hp : pc + 1 = pc2) (k : ww_W g d E Q pc2 P (.inl (x ||| y) :: st) τ) : ww_W g d E Q pc P (.inl y :: .inl x :: st) τ := by
  subst hp
  exact fun C H locs ls hP hS hl => lv_ior C.1 C.2.1 hd (k C H locs ls hP hS hl)
theorem ww_ixor {x y : Int32} (pc2 : Nat) (hd : decode d.2.1 pc = .ok (.ixor, 1)) (hp : pc + 1 = pc2) (k : ww_W g d E Q pc2 P (.inl (x ^^^ y) :: st) τ) : ww_W g d E Q pc P (.inl y :: .inl x :: st) τ := by
  subst hp
  exact fun C H locs ls hP hS hl => lv_ixor C.1 C.2.1 hd (k C H locs ls hP hS hl)
theorem ww_irem {x y : Int32} (pc2 : Nat) (hd : decode d.2.1 pc = .ok (.irem, 1)) (hp : pc + 1 = pc2) (hne : ¬ y = nI 0) (k : ww_W g d E Q pc2 P (.inl (x - x / y * y) :: st) τ) : ww_W g d E Q pc P (.inl y :: .inl x :: st) τ := by
  subst hp
  exact fun C H locs ls hP hS hl => lv_irem C.1 C.2.1 hd hne (k C H locs ls hP hS hl)
theorem ww_ineg {x : Int32} (pc2 : Nat) (hd : decode d.2.1 pc = .ok (.ineg, 1)) (hp : pc + 1 = pc2) (k : ww_W g d E Q pc2 P (.inl (0 - x) :: st) τ) : ww_W g d E Q pc P (.inl x :: st) τ := by
  subst hp
  exact fun C H locs ls hP hS hl => lv_ineg C.1 C.2.1 hd (k C H locs ls hP hS hl)
theorem ww_ishl {x y : Int32} (pc2 : Nat) (hd : decode d.2.1 pc = .ok (.ishl, 1)) (hp : pc + 1 = pc2) (k : ww_W g d E Q pc2 P (.inl (x <<< (y &&& 31)) :: st) τ) : ww_W g d E Q pc P (.inl y :: .inl x :: st) τ := by
  subst hp
  exact fun C H locs ls hP hS hl => lv_ishl C.1 C.2.1 hd (k C H locs ls hP hS hl)
theorem ww_ishr {x y : Int32} (pc2 : Nat) (hd : decode d.2.1 pc = .ok (.ishr, 1)) (hp : pc + 1 = pc2) (k : ww_W g d E Q pc2 P (.inl (x >>> (y &&& 31)) :: st) τ) : ww_W g d E Q pc P (.inl y :: .inl x :: st) τ := by
  subst hp
  exact fun C H locs ls hP hS hl => lv_ishr C.1 C.2.1 hd (k C H locs ls hP hS hl)
theorem ww_ladd {x y : Int64} (pc2 : Nat) (hd : decode d.2.1 pc = .ok (.ladd, 1)) (hp : pc + 1 = pc2) (k : ww_W g d E Q pc2 P (.inr (.inl (x + y)) :: st) τ) : ww_W g d E Q pc P (.inr (.inl y) :: .inr (.inl x) :: st) τ := by
  subst hp
  exact fun C H locs ls hP hS hl => lv_ladd C.1 C.2.1 hd (k C H locs ls hP hS hl)
theorem ww_lmul {x y : Int64} (pc2 : Nat) (hd : decode d.2.1 pc = .ok (.lmul, 1)) (hp : pc + 1 = pc2) (k : ww_W g d E Q pc2 P (.inr (.inl (x * y)) :: st) τ) : ww_W g d E Q pc P (.inr (.inl y) :: .inr (.inl x) :: st) τ := by
  subst hp
  exact fun C H locs ls hP hS hl => lv_lmul C.1 C.2.1 hd (k C H locs ls hP hS hl)
theorem ww_ldiv {x y : Int64} (pc2 : Nat) (hd : decode d.2.1 pc = .ok (.ldiv, 1)) (hp : pc + 1 = pc2) (hne : ¬ y = lN 0) (k : ww_W g d E Q pc2 P (.inr (.inl (x / y)) :: st) τ) : ww_W g d E Q pc P (.inr (.inl y) :: .inr (.inl x) :: st) τ := by
  subst hp
  exact fun C H locs ls hP hS hl => lv_ldiv C.1 C.2.1 hd hne (k C H locs ls hP hS hl)
theorem ww_lrem {x y : Int64} (pc2 : Nat) (hd : decode d.2.1 pc = .ok (.lrem, 1)) (hp : pc + 1 = pc2) (hne : ¬ y = lN 0) (k : ww_W g d E Q pc2 P (.inr (.inl (x - x / y * y)) :: st) τ) : ww_W g d E Q pc P (.inr (.inl y) :: .inr (.inl x) :: st) τ := by
  subst hp
  exact fun C H locs ls hP hS hl => lv_lrem C.1 C.2.1 hd hne (k C H locs ls hP hS hl)
theorem ww_i2l {x : Int32} (pc2 : Nat) (hd : decode d.2.1 pc = .ok (.i2l, 1)) (hp : pc + 1 = pc2) (k : ww_W g d E Q pc2 P (.inr (.inl x.toInt64) :: st) τ) : ww_W g d E Q pc P (.inl x :: st) τ := by
  subst hp
  exact fun C H locs ls hP hS hl => lv_i2l C.1 C.2.1 hd rfl (k C H locs ls hP hS hl)
theorem ww_l2i {x : Int64} (pc2 : Nat) (hd : decode d.2.1 pc = .ok (.l2i, 1)) (hp : pc + 1 = pc2) (k : ww_W g d E Q pc2 P (.inl x.toInt32 :: st) τ) : ww_W g d E Q pc P (.inr (.inl x) :: st) τ := by
  subst hp
  exact fun C H locs ls hP hS hl => lv_l2i C.1 C.2.1 hd rfl (k C H locs ls hP hS hl)
theorem ww_iload_n {kk : Fin 4} {x : Int32} (pc2 : Nat) (hd : decode d.2.1 pc = .ok (.iload_n kk, 1)) (hp : pc + 1 = pc2) (i : Nat) (hi : (kk : Nat) = i) (hv : P[i]? = some (some (.inl x))) (k : ww_W g d E Q pc2 P (.inl x :: st) τ) : ww_W g d E Q pc P st τ := by
  subst hp
  exact fun C H locs ls hP hS hl => lv_iload_n C.1 C.2.1 hd hi (hl.2.2 i _ hv) (k C H locs ls hP hS hl)
theorem ww_iload {x : Int32} (pc2 : Nat) (i : Nat) (hd : decode d.2.1 pc = .ok (.iload i, 2)) (hp : pc + 2 = pc2) (hv : P[i]? = some (some (.inl x))) (k : ww_W g d E Q pc2 P (.inl x :: st) τ) : ww_W g d E Q pc P st τ := by
  subst hp
  exact fun C H locs ls hP hS hl => lv_iload C.1 C.2.1 hd (hl.2.2 i _ hv) (k C H locs ls hP hS hl)
theorem ww_lload_n {kk : Fin 4} {x : Int64} (pc2 : Nat) (hd : decode d.2.1 pc = .ok (.lload_n kk, 1)) (hp : pc + 1 = pc2) (i : Nat) (hi : (kk : Nat) = i) (hv : P[i]? = some (some (.inr (.inl x)))) (k : ww_W g d E Q pc2 P (.inr (.inl x) :: st) τ) : ww_W g d E Q pc P st τ := by
  subst hp
  exact fun C H locs ls hP hS hl => lv_lload_n C.1 C.2.1 hd hi (hl.2.2 i _ hv) (k C H locs ls hP hS hl)
theorem ww_lload {x : Int64} (pc2 : Nat) (i : Nat) (hd : decode d.2.1 pc = .ok (.lload i, 2)) (hp : pc + 2 = pc2) (hv : P[i]? = some (some (.inr (.inl x)))) (k : ww_W g d E Q pc2 P (.inr (.inl x) :: st) τ) : ww_W g d E Q pc P st τ := by
  subst hp
  exact fun C H locs ls hP hS hl => lv_lload C.1 C.2.1 hd (hl.2.2 i _ hv) (k C H locs ls hP hS hl)
theorem ww_aload_n {kk : Fin 4} {x : ww_N} (pc2 : Nat) (hd : decode d.2.1 pc = .ok (.aload_n kk, 1)) (hp : pc + 1 = pc2) (i : Nat) (hi : (kk : Nat) = i) (hv : P[i]? = some (some (.inr (.inr x)))) (k : ww_W g d E Q pc2 P (.inr (.inr x) :: st) τ) : ww_W g d E Q pc P st τ := by
  subst hp
  exact fun C H locs ls hP hS hl => lv_aload_n C.1 C.2.1 hd hi (hl.2.2 i _ hv) (k C H locs ls hP hS hl)
theorem ww_aload {x : ww_N} (pc2 : Nat) (i : Nat) (hd : decode d.2.1 pc = .ok (.aload i, 2)) (hp : pc + 2 = pc2) (hv : P[i]? = some (some (.inr (.inr x)))) (k : ww_W g d E Q pc2 P (.inr (.inr x) :: st) τ) : ww_W g d E Q pc P st τ := by
  subst hp
  exact fun C H locs ls hP hS hl => lv_aload C.1 C.2.1 hd (hl.2.2 i _ hv) (k C H locs ls hP hS hl)
theorem ww_istore_n {kk : Fin 4} {x : Int32} (pc2 : Nat) (hd : decode d.2.1 pc = .ok (.istore_n kk, 1)) (hp : pc + 1 = pc2) (i : Nat) (hi : (kk : Nat) = i) (hn : i < d.2.2.1) (hnl : ww_nl P i = true) (P2 : List (Option ww_V)) (hP2 : (P.set i (some (.inl x))) = P2) (k : ww_W g d E Q pc2 P2 st τ) : ww_W g d E Q pc P (.inl x :: st) τ := by
  subst hp
  subst hP2
  exact fun C H locs ls hP hS hl => lv_istore_n C.1 C.2.1 hd hi hl.has hn rfl (fun ls2 h2 => k C H locs ls2 hP hS (ww_L.st1 (v := .inl x) (fun j v hv => by have := ww_lv_of g P 0 j v hv; rw [Nat.zero_add] at this; exact this) hnl h2))
theorem ww_istore {x : Int32} (pc2 : Nat) (i : Nat) (hd : decode d.2.1 pc = .ok (.istore i, 2)) (hp : pc + 2 = pc2) (hn : i < d.2.2.1) (hnl : ww_nl P i = true) (P2 : List (Option ww_V)) (hP2 : (P.set i (some (.inl x))) = P2) (k : ww_W g d E Q pc2 P2 st τ) : ww_W g d E Q pc P (.inl x :: st) τ := by
  subst hp
  subst hP2
  exact fun C H locs ls hP hS hl => lv_istore C.1 C.2.1 hd hl.has hn rfl (fun ls2 h2 => k C H locs ls2 hP hS (ww_L.st1 (v := .inl x) (fun j v hv => by have := ww_lv_of g P 0 j v hv; rw [Nat.zero_add] at this; exact this) hnl h2))
theorem ww_lstore_n {kk : Fin 4} {x : Int64} (pc2 : Nat) (hd : decode d.2.1 pc = .ok (.lstore_n kk, 1)) (hp : pc + 1 = pc2) (i : Nat) (hi : (kk : Nat) = i) (hn : i + 1 < d.2.2.1) (hnl : ww_nl P i = true) (P2 : List (Option ww_V)) (hP2 : ((P.set i (some (.inr (.inl x)))).set (i + 1) none) = P2) (k : ww_W g d E Q pc2 P2 st τ) : ww_W g d E Q pc P (.inr (.inl x) :: st) τ := by
  subst hp
  subst hP2
  exact fun C H locs ls hP hS hl => lv_lstore_n C.1 C.2.1 hd hi hl.has hn rfl (fun ls2 h2 => k C H locs ls2 hP hS (ww_L.st2 (v := .inr (.inl x)) (fun j v hv => by have := ww_lv_of g P 0 j v hv; rw [Nat.zero_add] at this; exact this) hnl h2))
theorem ww_lstore {x : Int64} (pc2 : Nat) (i : Nat) (hd : decode d.2.1 pc = .ok (.lstore i, 2)) (hp : pc + 2 = pc2) (hn : i + 1 < d.2.2.1) (hnl : ww_nl P i = true) (P2 : List (Option ww_V)) (hP2 : ((P.set i (some (.inr (.inl x)))).set (i + 1) none) = P2) (k : ww_W g d E Q pc2 P2 st τ) : ww_W g d E Q pc P (.inr (.inl x) :: st) τ := by
  subst hp
  subst hP2
  exact fun C H locs ls hP hS hl => lv_lstore C.1 C.2.1 hd hl.has hn rfl (fun ls2 h2 => k C H locs ls2 hP hS (ww_L.st2 (v := .inr (.inl x)) (fun j v hv => by have := ww_lv_of g P 0 j v hv; rw [Nat.zero_add] at this; exact this) hnl h2))
theorem ww_astore_n {kk : Fin 4} {x : ww_N} (pc2 : Nat) (hd : decode d.2.1 pc = .ok (.astore_n kk, 1)) (hp : pc + 1 = pc2) (i : Nat) (hi : (kk : Nat) = i) (hn : i < d.2.2.1) (hnl : ww_nl P i = true) (P2 : List (Option ww_V)) (hP2 : (P.set i (some (.inr (.inr x)))) = P2) (k : ww_W g d E Q pc2 P2 st τ) : ww_W g d E Q pc P (.inr (.inr x) :: st) τ := by
  subst hp
  subst hP2
  exact fun C H locs ls hP hS hl => lv_astore_n C.1 C.2.1 hd hi hl.has hn rfl (fun ls2 h2 => k C H locs ls2 hP hS (ww_L.st1 (v := .inr (.inr x)) (fun j v hv => by have := ww_lv_of g P 0 j v hv; rw [Nat.zero_add] at this; exact this) hnl h2))
theorem ww_astore {x : ww_N} (pc2 : Nat) (i : Nat) (hd : decode d.2.1 pc = .ok (.astore i, 2)) (hp : pc + 2 = pc2) (hn : i < d.2.2.1) (hnl : ww_nl P i = true) (P2 : List (Option ww_V)) (hP2 : (P.set i (some (.inr (.inr x)))) = P2) (k : ww_W g d E Q pc2 P2 st τ) : ww_W g d E Q pc P (.inr (.inr x) :: st) τ := by
  subst hp
  subst hP2
  exact fun C H locs ls hP hS hl => lv_astore C.1 C.2.1 hd hl.has hn rfl (fun ls2 h2 => k C H locs ls2 hP hS (ww_L.st1 (v := .inr (.inr x)) (fun j v hv => by have := ww_lv_of g P 0 j v hv; rw [Nat.zero_add] at this; exact this) hnl h2))
theorem ww_iinc {n : Int} {x : Int32} (cn : Int32) (pc2 : Nat) (i : Nat) (hd : decode d.2.1 pc = .ok (.iinc i n, 3)) (hc : Int32.ofInt n = cn) (hp : pc + 3 = pc2) (hx : P[i]? = some (some (.inl x))) (hn : i < d.2.2.1) (hnl : ww_nl P i = true) (P2 : List (Option ww_V)) (hP2 : P.set i (some (.inl (x + cn))) = P2) (k : ww_W g d E Q pc2 P2 st τ) : ww_W g d E Q pc P st τ := by
  subst hp
  subst hP2
  subst hc
  exact fun C H locs ls hP hS hl => lv_iinc (k := 0) C.1 C.2.1 hd (hl.has1 hx) rfl rfl hn rfl (fun ls2 h2 => k C H locs ls2 hP hS (ww_L.st1 (v := .inl (x + Int32.ofInt n)) (fun j v hv => by have := ww_lv_of g P 0 j v hv; rw [Nat.zero_add] at this; exact List.mem_cons_of_mem _ this) hnl h2))
theorem ww_dup {v : ww_V} (pc2 : Nat) (hd : decode d.2.1 pc = .ok (.dup, 1)) (hp : pc + 1 = pc2) (hc : (ww_v g v).category = 1) (k : ww_W g d E Q pc2 P (v :: v :: st) τ) : ww_W g d E Q pc P (v :: st) τ := by
  subst hp
  exact fun C H locs ls hP hS hl => lv_dup C.1 C.2.1 hd hc (k C H locs ls hP hS hl)
theorem ww_dup2 {v u : ww_V} (pc2 : Nat) (hd : decode d.2.1 pc = .ok (.dup2, 1)) (hp : pc + 1 = pc2) (hc : (ww_v g v).category = 1) (hc2 : (ww_v g u).category = 1) (k : ww_W g d E Q pc2 P (v :: u :: v :: u :: st) τ) : ww_W g d E Q pc P (v :: u :: st) τ := by
  subst hp
  exact fun C H locs ls hP hS hl => lv_dup2_11 C.1 C.2.1 hd hc hc2 (k C H locs ls hP hS hl)
theorem ww_pop {v : ww_V} (pc2 : Nat) (hd : decode d.2.1 pc = .ok (.pop, 1)) (hp : pc + 1 = pc2) (hc : (ww_v g v).category = 1) (k : ww_W g d E Q pc2 P st τ) : ww_W g d E Q pc P (v :: st) τ := by
  subst hp
  exact fun C H locs ls hP hS hl => lv_pop C.1 C.2.1 hd hc (k C H locs ls hP hS hl)
theorem ww_goto {off : Int} (tgt : Nat) (hd : decode d.2.1 pc = .ok (.goto off, 3)) (ht : (pc : Int) + off = (tgt : Int)) (k : ww_W g d E Q tgt P st τ) : ww_W g d E Q pc P st τ :=
  fun C H locs ls hP hS hl => lv_goto C.1 C.2.1 hd ht (k C H locs ls hP hS hl)
theorem ww_ldc {v : Int32} {i : Nat} (pc2 : Nat) (hd : decode d.2.1 pc = .ok (.ldc i, 2)) (hp : pc + 2 = pc2) (hc : Jvm.Cond.constant d.1.cls i v ∈ ww_ws) (k : ww_W g d E Q pc2 P (.inl v :: st) τ) : ww_W g d E Q pc P st τ := by
  subst hp
  exact fun C H locs ls hP hS hl => lv_ldc C.1 C.2.1 C.2.2.2.2.1 (C.2.2.2.2.2.1 _ hc) hd (k C H locs ls hP hS hl)
theorem ww_ldc2 {v : Int64} {i : Nat} (pc2 : Nat) (hd : decode d.2.1 pc = .ok (.ldc2_w i, 3)) (hp : pc + 3 = pc2) (hc : Jvm.Cond.constantLong d.1.cls i v ∈ ww_ws) (k : ww_W g d E Q pc2 P (.inr (.inl v) :: st) τ) : ww_W g d E Q pc P st τ := by
  subst hp
  exact fun C H locs ls hP hS hl => lv_ldc2 C.1 C.2.1 C.2.2.2.2.1 (C.2.2.2.2.2.1 _ hc) hd (k C H locs ls hP hS hl)
theorem ww_if_eq {x : Int32} {off : Int} (tgt pc2 : Nat) (hd : decode d.2.1 pc = .ok (.ifCond .eq off, 3)) (ht : (pc : Int) + off = (tgt : Int)) (hp : pc + 3 = pc2) (kt : x = nI 0 → ww_W g d E Q tgt P st τ) (kf : ¬ (x = nI 0) → ww_W g d E Q pc2 P st τ) : ww_W g d E Q pc P (.inl x :: st) τ := by
  subst hp
  exact fun C H locs ls hP hS hl => lv_if_eq C.1 C.2.1 hd ht (fun c => kt c C H locs ls hP hS hl) (fun c => kf c C H locs ls hP hS hl)
theorem ww_ic_eq {x y : Int32} {off : Int} (tgt pc2 : Nat) (hd : decode d.2.1 pc = .ok (.if_icmp .eq off, 3)) (ht : (pc : Int) + off = (tgt : Int)) (hp : pc + 3 = pc2) (kt : x = y → ww_W g d E Q tgt P st τ) (kf : ¬ (x = y) → ww_W g d E Q pc2 P st τ) : ww_W g d E Q pc P (.inl y :: .inl x :: st) τ := by
  subst hp
  exact fun C H locs ls hP hS hl => lv_icmp_eq C.1 C.2.1 hd ht (fun c => kt c C H locs ls hP hS hl) (fun c => kf c C H locs ls hP hS hl)
theorem ww_if_ne {x : Int32} {off : Int} (tgt pc2 : Nat) (hd : decode d.2.1 pc = .ok (.ifCond .ne off, 3)) (ht : (pc : Int) + off = (tgt : Int)) (hp : pc + 3 = pc2) (kt : ¬ x = nI 0 → ww_W g d E Q tgt P st τ) (kf : x = nI 0 → ww_W g d E Q pc2 P st τ) : ww_W g d E Q pc P (.inl x :: st) τ := by
  subst hp
  exact fun C H locs ls hP hS hl => lv_if_ne C.1 C.2.1 hd ht (fun c => kt c C H locs ls hP hS hl) (fun c => kf c C H locs ls hP hS hl)
theorem ww_ic_ne {x y : Int32} {off : Int} (tgt pc2 : Nat) (hd : decode d.2.1 pc = .ok (.if_icmp .ne off, 3)) (ht : (pc : Int) + off = (tgt : Int)) (hp : pc + 3 = pc2) (kt : ¬ x = y → ww_W g d E Q tgt P st τ) (kf : x = y → ww_W g d E Q pc2 P st τ) : ww_W g d E Q pc P (.inl y :: .inl x :: st) τ := by
  subst hp
  exact fun C H locs ls hP hS hl => lv_icmp_ne C.1 C.2.1 hd ht (fun c => kt c C H locs ls hP hS hl) (fun c => kf c C H locs ls hP hS hl)
theorem ww_if_lt {x : Int32} {off : Int} (tgt pc2 : Nat) (hd : decode d.2.1 pc = .ok (.ifCond .lt off, 3)) (ht : (pc : Int) + off = (tgt : Int)) (hp : pc + 3 = pc2) (kt : x < nI 0 → ww_W g d E Q tgt P st τ) (kf : ¬ (x < nI 0) → ww_W g d E Q pc2 P st τ) : ww_W g d E Q pc P (.inl x :: st) τ := by
  subst hp
  exact fun C H locs ls hP hS hl => lv_if_lt C.1 C.2.1 hd ht (fun c => kt c C H locs ls hP hS hl) (fun c => kf c C H locs ls hP hS hl)
theorem ww_ic_lt {x y : Int32} {off : Int} (tgt pc2 : Nat) (hd : decode d.2.1 pc = .ok (.if_icmp .lt off, 3)) (ht : (pc : Int) + off = (tgt : Int)) (hp : pc + 3 = pc2) (kt : x < y → ww_W g d E Q tgt P st τ) (kf : ¬ (x < y) → ww_W g d E Q pc2 P st τ) : ww_W g d E Q pc P (.inl y :: .inl x :: st) τ := by
  subst hp
  exact fun C H locs ls hP hS hl => lv_icmp_lt C.1 C.2.1 hd ht (fun c => kt c C H locs ls hP hS hl) (fun c => kf c C H locs ls hP hS hl)
theorem ww_if_ge {x : Int32} {off : Int} (tgt pc2 : Nat) (hd : decode d.2.1 pc = .ok (.ifCond .ge off, 3)) (ht : (pc : Int) + off = (tgt : Int)) (hp : pc + 3 = pc2) (kt : nI 0 ≤ x → ww_W g d E Q tgt P st τ) (kf : ¬ (nI 0 ≤ x) → ww_W g d E Q pc2 P st τ) : ww_W g d E Q pc P (.inl x :: st) τ := by
  subst hp
  exact fun C H locs ls hP hS hl => lv_if_ge C.1 C.2.1 hd ht (fun c => kt c C H locs ls hP hS hl) (fun c => kf c C H locs ls hP hS hl)
theorem ww_ic_ge {x y : Int32} {off : Int} (tgt pc2 : Nat) (hd : decode d.2.1 pc = .ok (.if_icmp .ge off, 3)) (ht : (pc : Int) + off = (tgt : Int)) (hp : pc + 3 = pc2) (kt : y ≤ x → ww_W g d E Q tgt P st τ) (kf : ¬ (y ≤ x) → ww_W g d E Q pc2 P st τ) : ww_W g d E Q pc P (.inl y :: .inl x :: st) τ := by
  subst hp
  exact fun C H locs ls hP hS hl => lv_icmp_ge C.1 C.2.1 hd ht (fun c => kt c C H locs ls hP hS hl) (fun c => kf c C H locs ls hP hS hl)
theorem ww_if_gt {x : Int32} {off : Int} (tgt pc2 : Nat) (hd : decode d.2.1 pc = .ok (.ifCond .gt off, 3)) (ht : (pc : Int) + off = (tgt : Int)) (hp : pc + 3 = pc2) (kt : nI 0 < x → ww_W g d E Q tgt P st τ) (kf : ¬ (nI 0 < x) → ww_W g d E Q pc2 P st τ) : ww_W g d E Q pc P (.inl x :: st) τ := by
  subst hp
  exact fun C H locs ls hP hS hl => lv_if_gt C.1 C.2.1 hd ht (fun c => kt c C H locs ls hP hS hl) (fun c => kf c C H locs ls hP hS hl)
theorem ww_ic_gt {x y : Int32} {off : Int} (tgt pc2 : Nat) (hd : decode d.2.1 pc = .ok (.if_icmp .gt off, 3)) (ht : (pc : Int) + off = (tgt : Int)) (hp : pc + 3 = pc2) (kt : y < x → ww_W g d E Q tgt P st τ) (kf : ¬ (y < x) → ww_W g d E Q pc2 P st τ) : ww_W g d E Q pc P (.inl y :: .inl x :: st) τ := by
  subst hp
  exact fun C H locs ls hP hS hl => lv_icmp_gt C.1 C.2.1 hd ht (fun c => kt c C H locs ls hP hS hl) (fun c => kf c C H locs ls hP hS hl)
theorem ww_if_le {x : Int32} {off : Int} (tgt pc2 : Nat) (hd : decode d.2.1 pc = .ok (.ifCond .le off, 3)) (ht : (pc : Int) + off = (tgt : Int)) (hp : pc + 3 = pc2) (kt : x ≤ nI 0 → ww_W g d E Q tgt P st τ) (kf : ¬ (x ≤ nI 0) → ww_W g d E Q pc2 P st τ) : ww_W g d E Q pc P (.inl x :: st) τ := by
  subst hp
  exact fun C H locs ls hP hS hl => lv_if_le C.1 C.2.1 hd ht (fun c => kt c C H locs ls hP hS hl) (fun c => kf c C H locs ls hP hS hl)
theorem ww_ic_le {x y : Int32} {off : Int} (tgt pc2 : Nat) (hd : decode d.2.1 pc = .ok (.if_icmp .le off, 3)) (ht : (pc : Int) + off = (tgt : Int)) (hp : pc + 3 = pc2) (kt : x ≤ y → ww_W g d E Q tgt P st τ) (kf : ¬ (x ≤ y) → ww_W g d E Q pc2 P st τ) : ww_W g d E Q pc P (.inl y :: .inl x :: st) τ := by
  subst hp
  exact fun C H locs ls hP hS hl => lv_icmp_le C.1 C.2.1 hd ht (fun c => kt c C H locs ls hP hS hl) (fun c => kf c C H locs ls hP hS hl)
theorem ww_iret {v : Int32} (hd : decode d.2.1 pc = .ok (.ireturn, 1)) (hr : d.2.2.2.1 = some .int) (h : Q (some (.inl v)) τ) : ww_W g d E Q pc P [.inl v] τ :=
  fun C H locs ls hP hS hl => W.iret C.1 C.2.1 (C.2.2.1.trans hr) (fun t ht hW => ⟨⟨some (.inl v), τ, rfl, h, by rw [ht]; exact hP⟩, hS.F ht⟩) hS.2.2 hd (hlocks := C.2.2.2.2.2.2.1)
theorem ww_zret {v : Int32} (hd : decode d.2.1 pc = .ok (.ireturn, 1)) (hr : d.2.2.2.1 = some .boolean) (hb : v = nI 0 ∨ v = nI 1) (h : Q (some (.inl v)) τ) : ww_W g d E Q pc P [.inl v] τ :=
  fun C H locs ls hP hS hl => W.zret C.1 C.2.1 (C.2.2.1.trans hr) (by rcases hb with rfl | rfl <;> rfl) (fun t ht hW => ⟨⟨some (.inl v), τ, rfl, h, by rw [ht]; exact hP⟩, hS.F ht⟩) hS.2.2 hd (hlocks := C.2.2.2.2.2.2.1)
theorem ww_lret {v : Int64} (hd : decode d.2.1 pc = .ok (.lreturn, 1)) (hr : d.2.2.2.1 = some .long) (h : Q (some (.inr (.inl v))) τ) : ww_W g d E Q pc P [.inr (.inl v)] τ :=
  fun C H locs ls hP hS hl => W.lret C.1 C.2.1 (C.2.2.1.trans hr) (fun t ht hW => ⟨⟨some (.inr (.inl v)), τ, rfl, h, by rw [ht]; exact hP⟩, hS.F ht⟩) hS.2.2 hd (hlocks := C.2.2.2.2.2.2.1)
theorem ww_vret (hd : decode d.2.1 pc = .ok (.return_, 1)) (hr : d.2.2.2.1 = none) (h : Q none τ) : ww_W g d E Q pc P [] τ :=
  fun C H locs ls hP hS hl => W.vret C.1 C.2.1 (C.2.2.1.trans hr) (fun t ht hW => ⟨⟨none, τ, rfl, h, by rw [ht]; exact hP⟩, hS.F ht⟩) hS.2.2 hd (hlocks := C.2.2.2.2.2.2.1)
/-! fields: own, or a nest mate's -/
def ww_FL (own : String) (ci k idx : Nat) : Prop := ∃ (C : String) (T : u_T) (N : Nat), vwCl[ci]? = some (C, T, N) ∧ k < N ∧ (Cond.fieldLink own idx (T k).1 (T k).2.1 (T k).2.2.1 ∈ ww_ws ∨ ∃ host, (own, idx, (T k).1, (T k).2.1, (T k).2.2.1, host) ∈ ww_nF)
theorem ww_clin : ∀ (ci : Nat) (C : String) (T : u_T) (N : Nat), vwCl[ci]? = some (C, T, N) → (∀ w ∈ u_ws C T N, w ∈ ww_ws) ∧ ∃ ty0 : Nat → FieldType, (∀ k, k < N → parseFieldDescriptor (T k).2.2.1 = some (ty0 k)) ∧ ∀ a, a < N → ∀ b, b < N → a ≠ b → (T a).2.1 ≠ (T b).2.1
  | 0, _, _, _, h => by cases h; exact ⟨inlX0, tyX0, tyX0_ok, nmX0⟩
  | 1, _, _, _, h => by cases h; exact ⟨inlX1, tyX1, tyX1_ok, nmX1⟩
  | 2, _, _, _, h => by cases h; exact ⟨inlX2, tyX2, tyX2_ok, nmX2⟩
  | 3, _, _, _, h => by cases h; exact ⟨inlX3, tyX3, tyX3_ok, nmX3⟩
  | 4, _, _, _, h => by cases h; exact ⟨inlX4, tyX4, tyX4_ok, nmX4⟩
  | 5, _, _, _, h => by cases h; exact ⟨inlX5, tyX5, tyX5_ok, nmX5⟩
  | 6, _, _, _, h => by cases h; exact ⟨inlX6, tyX6, tyX6_ok, nmX6⟩
  | k + 7, _, _, _, h => by simp [vwCl] at h
theorem ww_get {n : ww_N} {ci : Nat} {fs : List (Option ww_N)} {k idx : Nat} {o : Option ww_N} {v : ww_V} (pc2 : Nat) (hd : decode d.2.1 pc = .ok (.getfield idx, 3)) (hf : ww_FL d.1.cls ci k idx) (hn : ww_in n) (hs : ww_sh n = .inl (ci, fs)) (hk : fs[k]? = some o) (hp : pc + 3 = pc2) (hv : ww_fv g τ n k o = ww_v g v) (kk : ww_W g d E Q pc2 P (v :: st) τ) : ww_W g d E Q pc P (.inr (.inr n) :: st) τ := by
  subst hp
  intro C H locs ls hP hS hl
  obtain ⟨Cn, T, N, hc, hkN, hlk⟩ := hf
  have hfv : (ww_fs g τ n 0 fs)[k]? = some (ww_v g v) := by rw [ww_fs_at, hk, Nat.zero_add, ← hv]; rfl
  rcases hlk with hlk | ⟨host, hlk⟩
  · exact va_get (ws := [(g.2.1 n, .inr (ci, ww_fs g τ n 0 fs))]) C.1 C.2.1 C.2.2.2.2.2.1 (ww_clin ci Cn T N hc).1 C.2.2.2.2.1 C.2.2.2.2.2.2.2.1 (hP.one hn (ww_c_ob hs)) 0 rfl hc k hkN (C.2.2.2.2.2.1 _ hlk) (fun _ h9 => h9) hfv hd (kk C H locs ls hP hS hl)
  · exact va_getN (ws := [(g.2.1 n, .inr (ci, ww_fs g τ n 0 fs))]) (host := host) C.1 C.2.1 C.2.2.2.2.2.1 (ww_clin ci Cn T N hc).1 C.2.2.2.2.1 C.2.2.2.2.2.2.2.1 (hP.one hn (ww_c_ob hs)) 0 rfl hc k hkN (va_Nw.use rfl (C.2.2.2.2.2.2.2.2.2.1 _ hlk)) (fun _ h9 => h9) hfv hd (kk C H locs ls hP hS hl)
theorem ww_getI {n : ww_N} {ci : Nat} {fs : List (Option ww_N)} {idx : Nat} (k : Nat) (pc2 : Nat) (hd : decode d.2.1 pc = .ok (.getfield idx, 3)) (hf : ww_FL d.1.cls ci k idx) (hn : ww_in n) (hs : ww_sh n = .inl (ci, fs)) (hk : fs[k]? = some none) (hp : pc + 3 = pc2) (kk : ww_W g d E Q pc2 P (.inl (τ n k) :: st) τ) : ww_W g d E Q pc P (.inr (.inr n) :: st) τ := ww_get (v := .inl (τ n k)) pc2 hd hf hn hs hk hp rfl kk
theorem ww_getR {n : ww_N} {ci : Nat} {fs : List (Option ww_N)} {idx : Nat} {r : ww_N} (k : Nat) (pc2 : Nat) (hd : decode d.2.1 pc = .ok (.getfield idx, 3)) (hf : ww_FL d.1.cls ci k idx) (hn : ww_in n) (hs : ww_sh n = .inl (ci, fs)) (hk : fs[k]? = some (some r)) (hp : pc + 3 = pc2) (kk : ww_W g d E Q pc2 P (.inr (.inr r) :: st) τ) : ww_W g d E Q pc P (.inr (.inr n) :: st) τ := ww_get (v := .inr (.inr r)) pc2 hd hf hn hs hk hp rfl kk
theorem ww_fs_up {n : ww_N} {fs : List (Option ww_N)} {k : Nat} {x : Int32} (hk : fs[k]? = some none) (j : Nat) : updV (vp_V (ww_fs g τ n 0 fs)) k (.int x) j = vp_V (ww_fs g (ww_up τ n k x) n 0 fs) j := by
  unfold updV vp_V
  rw [List.getD_eq_getElem?_getD, List.getD_eq_getElem?_getD, ww_fs_at, ww_fs_at, Nat.zero_add]
  by_cases hj : j = k
  · subst hj
    rw [if_pos rfl, hk]
    simp [ww_fv, ww_up]
  · rw [if_neg hj]
    cases fs[j]? with
    | none => rfl
    | some o =>
      cases o with
      | none => simp [ww_fv, ww_up, hj]
      | some r => rfl
/-- a field that isn't final, and its type -/
def ww_FP (ci k : Nat) (ty : FieldType) : Prop := ∃ (C : String) (T : u_T) (N : Nat), vwCl[ci]? = some (C, T, N) ∧ (T k).2.2.2 = false ∧ parseFieldDescriptor (T k).2.2.1 = some ty
theorem ww_put {n : ww_N} {ci : Nat} {fs : List (Option ww_N)} {idx : Nat} {ty : FieldType} {x : Int32} (k : Nat) (pc2 : Nat) (hd : decode d.2.1 pc = .ok (.putfield idx, 3)) (hf : ww_FL d.1.cls ci k idx) (hg : ww_FP ci k ty) (hn : ww_in n) (hs : ww_sh n = .inl (ci, fs)) (hk : fs[k]? = some none) (hp : pc + 3 = pc2) (hnar : narrow ty (.int x) = .int x) (hfit : fits ty (.int x) = true) (kk : ww_W g d E Q pc2 P st (ww_up τ n k x)) : ww_W g d E Q pc P (.inl x :: .inr (.inr n) :: st) τ := by
  subst hp
  intro C H locs ls hP hS hl
  obtain ⟨Cn, T, N, hc, hkN, hlk⟩ := hf
  obtain ⟨Cn', T', N', hc', hfin, hty⟩ := hg
  cases hc.symm.trans hc'
  obtain ⟨hin, ty0, hty0, hnm⟩ := ww_clin ci Cn T N hc
  have hts := C.2.2.2.2.2.1
  have hK := C.2.2.2.2.2.2.2.1
  have hJ := C.2.2.2.2.2.2.2.2.1
  have hown := C.2.2.2.2.1
  have hap := va_apart (own := d.1.cls) hts hin ty0 hty0 hnm hK hc
  have hat := hP n hn
  rw [ww_c_ob hs] at hat
  obtain ⟨r, h1, cell, q1, q2, q3, q4⟩ := hat
  have hr : r = (Cn, T, N) := Option.some.inj (h1.symm.trans hc)
  subst hr
  obtain ⟨hSl, hfc, kC, hkC, hkind⟩ := hK.1 ci _ hc
  obtain ⟨cf, kf, fi, f, hi, hsl⟩ := hSl k hkN
  have hlay := hts _ (hin _ (u_in_lay hkN))
  unfold u_lay at hlay
  rw [if_neg (by rw [hfin]; decide)] at hlay
  have hst := (u_facts hfc hkC (u_lays hts hin hkN) hi).1
  have h6 := u_store hfc hkC hkind hlay hi hty hnar hfit
  have done : ∀ H' : Heap, H'[g.2.1 n]? = some (cell.setSlot f.slot (.int x)) → H'.size = H.size → (∀ q, q ≠ g.2.1 n → H'[q]? = H[q]?) → ww_P g (ww_up τ n k x) H' ∧ va_S (ww_A g) E.2.2.2.1.heap H' (locs ++ [⟨g.2.1 n, f.slot⟩]) := by
    intro H' e1 e2 e3
    refine ⟨hP.put hJ hn ?_ (fun a ha => ww_up_f ha) e3, hS.put e2 e3 ⟨n, hn, rfl⟩⟩
    rw [ww_c_ob hs]
    rw [hsl] at e1
    exact ⟨_, hc, t_OB.to (V := updV (vp_V (ww_fs g τ n 0 fs)) k (.int x)) ⟨_, e1, q2, q3, t_set q4 hap hkN (.int x)⟩ (fun j _ => ww_fs_up hk j)⟩
  rcases hlk with hlk | ⟨host, hlk⟩
  · refine W.putK C.1 C.2.1 (f := f) ⟨hown, hts _ hlk, ⟨_, _, _, hi⟩, hst⟩ (by rw [q2]; exact h6) q1 q3 (by rw [hsl]; exact k2_hasslot (q4 k hkN)) rfl rfl hd fun H' e1 e2 e3 => ?_
    obtain ⟨d1, d2⟩ := done H' e1 e2 e3
    exact kk C H' _ ls d1 d2 hl
  · refine va_WputK C.1 C.2.1 (f := f) hown (va_Nw.use rfl (C.2.2.2.2.2.2.2.2.2.1 _ hlk)) hi hst (by rw [q2]; exact h6) q1 q3 (by rw [hsl]; exact k2_hasslot (q4 k hkN)) rfl rfl hd fun H' e1 e2 e3 => ?_
    obtain ⟨d1, d2⟩ := done H' e1 e2 e3
    exact kk C H' _ ls d1 d2 hl
theorem ww_putI {n : ww_N} {ci : Nat} {fs : List (Option ww_N)} {idx : Nat} {x : Int32} (k : Nat) (pc2 : Nat) (hd : decode d.2.1 pc = .ok (.putfield idx, 3)) (hf : ww_FL d.1.cls ci k idx) (hg : ww_FP ci k .int) (hn : ww_in n) (hs : ww_sh n = .inl (ci, fs)) (hk : fs[k]? = some none) (hp : pc + 3 = pc2) (kk : ∀ τ1 : ww_M, τ1 = ww_up τ n k x → ww_W g d E Q pc2 P st τ1) : ww_W g d E Q pc P (.inl x :: .inr (.inr n) :: st) τ := ww_put k pc2 hd hf hg hn hs hk hp rfl rfl (kk _ rfl)
theorem ww_putZ {n : ww_N} {ci : Nat} {fs : List (Option ww_N)} {idx : Nat} {x : Int32} (k : Nat) (pc2 : Nat) (hd : decode d.2.1 pc = .ok (.putfield idx, 3)) (hf : ww_FL d.1.cls ci k idx) (hg : ww_FP ci k .boolean) (hn : ww_in n) (hs : ww_sh n = .inl (ci, fs)) (hk : fs[k]? = some none) (hp : pc + 3 = pc2) (hb : x = nI 0 ∨ x = nI 1) (kk : ∀ τ1 : ww_M, τ1 = ww_up τ n k x → ww_W g d E Q pc2 P st τ1) : ww_W g d E Q pc P (.inl x :: .inr (.inr n) :: st) τ := ww_put k pc2 hd hf hg hn hs hk hp (by rcases hb with rfl | rfl <;> rfl) (by rcases hb with rfl | rfl <;> decide) (kk _ rfl)
/-! arrays -/
theorem ww_iald {n : ww_N} {len : Nat} {i : Int32} (j : Nat) (pc2 : Nat) (hd : decode d.2.1 pc = .ok (.iaload, 1)) (hn : ww_in n) (hs : ww_sh n = .inr (.inl len)) (hlen : len < 2147483648) (hi : i = nI j) (hj : j < len) (hp : pc + 1 = pc2) (kk : ww_W g d E Q pc2 P (.inl (τ n j) :: st) τ) : ww_W g d E Q pc P (.inl i :: .inr (.inr n) :: st) τ := by
  subst hp
  subst hi
  intro C H locs ls hP hS hl
  refine va_iald (ws := [(g.2.1 n, .inl (g.2.2 0, len, .inl (τ n)))]) C.1 C.2.1 C.2.2.2.2.2.2.2.1 (hP.one hn (ww_c_ia hs)) 0 0 rfl rfl (vp_in_nI hj (by omega)) hd ?_
  rw [nI_clamp (by omega)]
  exact kk C H locs ls hP hS hl
theorem ww_iast {n : ww_N} {len : Nat} {i x : Int32} (j : Nat) (pc2 : Nat) (hd : decode d.2.1 pc = .ok (.iastore, 1)) (hn : ww_in n) (hs : ww_sh n = .inr (.inl len)) (hlen : len < 2147483648) (hi : i = nI j) (hj : j < len) (hp : pc + 1 = pc2) (kk : ∀ τ1 : ww_M, τ1 = ww_up τ n j x → ww_W g d E Q pc2 P st τ1) : ww_W g d E Q pc P (.inl x :: .inl i :: .inr (.inr n) :: st) τ := by
  replace kk := kk _ rfl
  subst hp
  subst hi
  intro C H locs ls hP hS hl
  have hat := hP n hn
  rw [ww_c_ia hs] at hat
  have hcl : (nI j).toNatClampNeg = j := nI_clamp (by omega)
  refine W.iast C.1 C.2.1 hat ((C.2.2.2.2.2.2.2.1.2 0 _ rfl).1 len (fun j => .int (τ n j))) (fun q => by cases q) (by show ¬ (_ ∨ (arrV _ _ _).slots.size ≤ _); rw [arrV_size]; exact vp_in_nI hj (by omega)) rfl rfl hd fun H1 e z oq => ?_
  refine kk C H1 _ ls (hP.put C.2.2.2.2.2.2.2.2.1 hn ?_ (fun a ha => ww_up_f ha) oq) (hS.put z oq ⟨n, hn, rfl⟩) hl
  rw [ww_c_ia hs, ww_up_row]
  show H1[g.2.1 n]? = some (vp_cell _ _)
  rw [e]
  rw [vp_cell_i, vp_cell_i, arrV_store, hcl]
  congr 2
  funext q
  by_cases hq : q = j
  · subst hq
    simp [updV, upd]
  · simp [updV, upd, hq]
theorem ww_aald {n : ww_N} {a len : Nat} {f : Nat → ww_N} {i : Int32} (j : Nat) (pc2 : Nat) (hd : decode d.2.1 pc = .ok (.aaload, 1)) (hn : ww_in n) (hs : ww_sh n = .inr (.inr (a, len, f))) (ha : a = 1 ∨ a = 2) (hlen : len < 2147483648) (hi : i = nI j) (hj : j < len) (hp : pc + 1 = pc2) (kk : ww_W g d E Q pc2 P (.inr (.inr (f j)) :: st) τ) : ww_W g d E Q pc P (.inl i :: .inr (.inr n) :: st) τ := by
  subst hp
  subst hi
  intro C H locs ls hP hS hl
  have hat := hP n hn
  rw [ww_c_ra hs] at hat
  have hcl : (nI j).toNatClampNeg = j := nI_clamp (by omega)
  have hin : ¬ (nI j < 0 ∨ (arrV (g.2.2 a) len (fun j => va_rf (some (g.2.1 (f j))))).slots.size ≤ (nI j).toNatClampNeg) := by rw [arrV_size]; exact vp_in_nI hj (by omega)
  have hrd : (arrV (g.2.2 a) len (fun j => va_rf (some (g.2.1 (f j))))).slots[(nI j).toNatClampNeg]? = some (.ref (g.2.1 (f j))) := by rw [hcl, arrV_read _ _ hj]; rfl
  rcases ha with rfl | rfl
  · exact W.aald (v := .ref (g.2.1 (f j))) (ty := .object "PieceWords$Row") C.1 C.2.1 hat ((C.2.2.2.2.2.2.2.1.2 1 _ rfl).1 len (fun j => va_rf (some (g.2.1 (f j))))) rfl (fun q => by cases q) hin hrd rfl rfl hd (kk C H locs ls hP hS hl)
  · exact W.aald (v := .ref (g.2.1 (f j))) (ty := .array .int) C.1 C.2.1 hat ((C.2.2.2.2.2.2.2.1.2 2 _ rfl).1 len (fun j => va_rf (some (g.2.1 (f j))))) rfl (fun q => by cases q) hin hrd rfl rfl hd (kk C H locs ls hP hS hl)
theorem ww_alnI {n : ww_N} {len : Nat} (pc2 : Nat) (hd : decode d.2.1 pc = .ok (.arraylength, 1)) (hn : ww_in n) (hs : ww_sh n = .inr (.inl len)) (hp : pc + 1 = pc2) (kk : ww_W g d E Q pc2 P (.inl (nI len) :: st) τ) : ww_W g d E Q pc P (.inr (.inr n) :: st) τ := by
  subst hp
  intro C H locs ls hP hS hl
  exact va_alen (ws := [(g.2.1 n, .inl (g.2.2 0, len, .inl (τ n)))]) C.1 C.2.1 C.2.2.2.2.2.2.2.1 (hP.one hn (ww_c_ia hs)) 0 0 rfl (ty := .int) rfl rfl hd (kk C H locs ls hP hS hl)
theorem ww_alnR {n : ww_N} {a len : Nat} {f : Nat → ww_N} (pc2 : Nat) (hd : decode d.2.1 pc = .ok (.arraylength, 1)) (hn : ww_in n) (hs : ww_sh n = .inr (.inr (a, len, f))) (ha : a = 1) (hp : pc + 1 = pc2) (kk : ww_W g d E Q pc2 P (.inl (nI len) :: st) τ) : ww_W g d E Q pc P (.inr (.inr n) :: st) τ := by
  subst hp
  subst ha
  intro C H locs ls hP hS hl
  exact va_alen (ws := [(g.2.1 n, .inl (g.2.2 1, len, .inr (.inr (.inr (.inr (fun j => some (g.2.1 (f j))))))))]) C.1 C.2.1 C.2.2.2.2.2.2.2.1 (hP.one hn (ww_c_ra hs)) 0 1 rfl (ty := .object "PieceWords$Row") rfl rfl hd (kk C H locs ls hP hS hl)
/-! Math -/
theorem ww_mmin {x y : Int32} {idx : Nat} (pc2 : Nat) (hd : decode d.2.1 pc = .ok (.invokestatic idx, 3)) (hl : Cond.methodLink d.1.cls idx Lib.Math.min.name ∈ ww_ws) (h1 : Cond.static Lib.Math.min.name ∈ ww_ws) (h2 : Cond.initialized "java/lang/Math" ∈ ww_ws) (h3 : Cond.code Lib.Math.min.name Lib.Math.min.code 2 (some .int) ∈ ww_ws) (hfr : 1 ≤ d.2.2.2.2.1) (hlo : ((st.map (ww_v g)).map fun v => v.category).sum + 13 ≤ d.2.2.2.2.2) (hp : pc + 3 = pc2) (kk : ww_W g d E Q pc2 P (.inl (if y < x then y else x) :: st) τ) : ww_W g d E Q pc P (.inl y :: .inl x :: st) τ := by
  subst hp
  intro C H locs ls hP hS hll
  exact va_mmin C.1 C.2.1 (C.2.2.2.1.trans hll.1.symm) C.2.2.2.2.1 (C.2.2.2.2.2.1 _ hl) (C.2.2.2.2.2.1 _ h1) (C.2.2.2.2.2.1 _ h2) (C.2.2.2.2.2.1 _ h3) hfr hlo (Nat.le_refl _) (Nat.le_refl _) hd (kk C H locs ls hP hS hll)
theorem ww_mmax {x y : Int32} {idx : Nat} (pc2 : Nat) (hd : decode d.2.1 pc = .ok (.invokestatic idx, 3)) (hl : Cond.methodLink d.1.cls idx Lib.Math.max.name ∈ ww_ws) (h1 : Cond.static Lib.Math.max.name ∈ ww_ws) (h2 : Cond.initialized "java/lang/Math" ∈ ww_ws) (h3 : Cond.code Lib.Math.max.name Lib.Math.max.code 2 (some .int) ∈ ww_ws) (hfr : 1 ≤ d.2.2.2.2.1) (hlo : ((st.map (ww_v g)).map fun v => v.category).sum + 13 ≤ d.2.2.2.2.2) (hp : pc + 3 = pc2) (kk : ww_W g d E Q pc2 P (.inl (if x < y then y else x) :: st) τ) : ww_W g d E Q pc P (.inl y :: .inl x :: st) τ := by
  subst hp
  intro C H locs ls hP hS hll
  exact va_mmax C.1 C.2.1 (C.2.2.2.1.trans hll.1.symm) C.2.2.2.2.1 (C.2.2.2.2.2.1 _ hl) (C.2.2.2.2.2.1 _ h1) (C.2.2.2.2.2.1 _ h2) (C.2.2.2.2.2.1 _ h3) hfr hlo (Nat.le_refl _) (Nat.le_refl _) hd (kk C H locs ls hP hS hll)
theorem ww_mabs {x : Int32} {idx : Nat} (pc2 : Nat) (hd : decode d.2.1 pc = .ok (.invokestatic idx, 3)) (hl : Cond.methodLink d.1.cls idx Lib.Math.abs.name ∈ ww_ws) (h1 : Cond.static Lib.Math.abs.name ∈ ww_ws) (h2 : Cond.initialized "java/lang/Math" ∈ ww_ws) (h3 : Cond.code Lib.Math.abs.name Lib.Math.abs.code 1 (some .int) ∈ ww_ws) (hfr : 1 ≤ d.2.2.2.2.1) (hlo : ((st.map (ww_v g)).map fun v => v.category).sum + 13 ≤ d.2.2.2.2.2) (hp : pc + 3 = pc2) (kk : ww_W g d E Q pc2 P (.inl (if 0 ≤ x then x else 0 - x) :: st) τ) : ww_W g d E Q pc P (.inl x :: st) τ := by
  subst hp
  intro C H locs ls hP hS hll
  exact va_mabs C.1 C.2.1 (C.2.2.2.1.trans hll.1.symm) C.2.2.2.2.1 (C.2.2.2.2.2.1 _ hl) (C.2.2.2.2.2.1 _ h1) (C.2.2.2.2.2.1 _ h2) (C.2.2.2.2.2.1 _ h3) hfr hlo (Nat.le_refl _) (Nat.le_refl _) hd (kk C H locs ls hP hS hll)
/-! calls -/
theorem ww_blind {as : List ww_V} : FrameBlind (va_Pc (as.map (ww_v g)) (ww_U g τ)) := by
  intro a U fr mk q
  obtain ⟨q0, qP, qK, qN, qJ⟩ := q
  exact ⟨q0, qP, va_K.moved (u := U) (U := U.calling fr mk a) (Vm.Alike.refl U.vm) qK, ww_NW.same (u := U) (U := U.calling fr mk a) rfl qN, qJ⟩
theorem ww_run {Q' : Option ww_V → ww_M → Prop} {H : Heap} {locs : List Loc} {ls : Array Slot} {st0 rest : List Value} {a : Array Value} (C : ww_Cx g d E) (hr : va_Run E.1 E.2.1 E.2.2.1 (ww_R d) E.2.2.2.1 E.2.2.2.2.1 E.2.2.2.2.2.1 E.2.2.2.2.2.2.1 E.2.2.2.2.2.2.2.1 E.2.2.2.2.2.2.2.2 H locs 0 0 0 0 (F0 E.2.2.2.2.1 pc ls st0) rest (ww_Q g Q' a) (ww_A g)) (hS : va_S (ww_A g) E.2.2.2.1.heap H locs) (hl : ww_L g ls d.2.2.1 P) (hrest : rest = st.map (ww_v g))
    (kk : ∀ (r : Option ww_V) (τ' : ww_M), Q' r τ' → ww_W g d E Q (pc + 3) P (r.toList ++ st) τ') : W E.1 E.2.1 E.2.2.1 (ww_R d) E.2.2.2.1 E.2.2.2.2.1 E.2.2.2.2.2.1 E.2.2.2.2.2.2.1 E.2.2.2.2.2.2.2.1 E.2.2.2.2.2.2.2.2 H locs 0 0 (MQ E.2.2.2.2.2.2.1 (ww_Q g Q) E.2.2.2.2.2.1 E.2.2.2.1 0 0 (ww_A g)) (F0 E.2.2.2.2.1 pc ls st0) := by
  intro T hT X
  obtain ⟨v, st₀, t, T', L, h0, X', hL, e1, e2, ⟨⟨r, τ', hv, hp, hb⟩, hz, hk⟩, sts⟩ := hr T hT X
  have hv' : v = r.map (ww_v g) := Outcome.returned.inj hv
  rw [h0] at hz hk
  have hS1 : va_S (ww_A g) E.2.2.2.1.heap T'.heap (locs ++ L) := ⟨Nat.le_trans hS.1 (by rw [e1]; exact hz), fun q h1 h2 => by rw [e1, hk q (Nat.lt_of_lt_of_le h1 hS.1) h2]; exact hS.2.1 q h1 h2, fun q hq => by
      rcases List.mem_append.mp hq with h | h
      · exact hS.2.2 q h
      · exact hL q h⟩
  obtain ⟨t2, a1, b1⟩ := kk r τ' hp C T'.heap (locs ++ L) ls (by rw [e1]; exact hb) hS1 hl T' rfl X'
  refine ⟨t2, sts t2 ?_, b1⟩
  have hst : v.toList ++ rest = (r.toList ++ st).map (ww_v g) := by
    rw [hv', hrest]
    cases r <;> rfl
  show Steps _ _ _ (T'.setTop { F0 E.2.2.2.2.1 pc ls st0 with pc := pc + 3, stack := v.toList ++ rest }) t2
  rw [hst]
  exact a1
/-- what a call's place in the code and its callee need of the words, and of the room -/
def ww_CB (d d' : ww_D) (k : Nat) : Prop := Cond.initialized d'.1.cls ∈ ww_ws ∧ Cond.code d'.1 d'.2.1 d'.2.2.1 d'.2.2.2.1 ∈ ww_ws ∧ (d'.1.cls ≠ "java/lang/invoke/MethodHandle" ∧ d'.1.cls ≠ "java/lang/invoke/VarHandle" ∧ (parseMethodDescriptor d'.1.desc).map (fun d => d.parameters.length) = some k) ∧ d'.2.2.2.2.1 + 1 ≤ d.2.2.2.2.1 ∧ 8 + (d'.2.2.1 + 11) + d'.2.2.2.2.2 ≤ d.2.2.2.2.2
theorem ww_good {d' : ww_D} (h : Cond.code d'.1 d'.2.1 d'.2.2.1 d'.2.2.2.1 ∈ ww_ws) : GoodIn ww_ws (.code d'.1 d'.2.1 d'.2.2.1 d'.2.2.2.1 :: ww_ws) := by
  intro w hw
  rcases List.mem_cons.mp hw with rfl | hw
  · exact ⟨h, good_of_word (List.all_eq_true.mp ww_allgood _ h)⟩
  · exact ⟨hw, good_of_word (List.all_eq_true.mp ww_allgood _ hw)⟩
/-- a virtual call on an object of the world -/
theorem ww_invV {Q' : Option ww_V → ww_M → Prop} {n : ww_N} {ci : Nat} {fs : List (Option ww_N)} {T : u_T} {N idx : Nat} {d' : ww_D} (as : List ww_V) {stk : List ww_V} (hstk : stk = as.reverse ++ .inr (.inr n) :: st) (pc2 : Nat) (hd : decode d.2.1 pc = .ok (.invokevirtual idx, 3)) (hB : ww_CB d d' as.length) (hl : Cond.methodLink d.1.cls idx d'.1 ∈ ww_ws) (h1 : Cond.instanceMethod d'.1 ∈ ww_ws) (h2 : Cond.selects d'.1.cls d'.1 d'.1 ∈ ww_ws) (hn : ww_in n) (hs : ww_sh n = .inl (ci, fs)) (hc : vwCl[ci]? = some (d'.1.cls, T, N)) (hrm : ((st.map (ww_v g)).map fun v => v.category).sum ≤ 8) (hp : pc + 3 = pc2)
    (hT : ww_T E.2.1 g d' (.inr (.inr n) :: as) τ Q') (kk : ∀ (r : Option ww_V) (τ' : ww_M), Q' r τ' → ww_W g d E Q pc2 P (r.toList ++ st) τ') : ww_W g d E Q pc P stk τ := by
  subst hp
  subst hstk
  intro C H locs ls hP hS hll
  have hK := C.2.2.2.2.2.2.2.1
  have hts := C.2.2.2.2.2.1
  refine ww_run C (va_runV (As := as.map (ww_v g)) (rest := st.map (ww_v g)) (b := g.2.1 n) (C := d'.1.cls) (Ts := ww_ws) ⟨C.1, C.2.1, C.2.2.2.1, C.2.2.2.2.1, hts⟩ hT ⟨callB_of as.length hts (ww_good hB.2.1) rfl rfl rfl (hts _ hB.1) (hts _ hl) hB.2.2.1 ⟨hB.2.2.2.1, hB.2.2.2.2⟩, hts _ h1, hts _ h2⟩ ⟨ww_blind, va_recv hK (hP.one hn (ww_c_ob hs)) hc (q0 := 0) rfl, fun U hU hW => ⟨rfl, by rw [hU]; exact hP, va_K.moved hW.alike hK, ww_NW.warm hW C.2.2.2.2.2.2.2.2.2, C.2.2.2.2.2.2.2.2.1⟩⟩ rfl (by rw [List.length_map]) hll.1 ?_ (lv_room hrm) hd ⟨Nat.le_refl _, Nat.le_refl _⟩) hS hll rfl kk
  show (as.reverse ++ .inr (.inr n) :: st).map (ww_v g) = (as.map (ww_v g)).reverse ++ .ref (g.2.1 n) :: st.map (ww_v g)
  rw [List.map_append, List.map_reverse]
  rfl
/-- a static call in the class itself -/
theorem ww_invS {Q' : Option ww_V → ww_M → Prop} {idx : Nat} {d' : ww_D} (as : List ww_V) {stk : List ww_V} (hstk : stk = as.reverse ++ st) (pc2 : Nat) (hd : decode d.2.1 pc = .ok (.invokestatic idx, 3)) (hB : ww_CB d d' as.length) (hl : Cond.methodLink d.1.cls idx d'.1 ∈ ww_ws ∨ ∃ host, (d.1.cls, idx, d'.1, host) ∈ ww_nM) (h1 : Cond.static d'.1 ∈ ww_ws) (hrm : ((st.map (ww_v g)).map fun v => v.category).sum ≤ 8) (hp : pc + 3 = pc2)
    (hT : ww_T E.2.1 g d' as τ Q') (kk : ∀ (r : Option ww_V) (τ' : ww_M), Q' r τ' → ww_W g d E Q pc2 P (r.toList ++ st) τ') : ww_W g d E Q pc P stk τ := by
  subst hp
  subst hstk
  intro C H locs ls hP hS hll
  have hK := C.2.2.2.2.2.2.2.1
  have hts := C.2.2.2.2.2.1
  have hstack : (as.reverse ++ st).map (ww_v g) = (as.map (ww_v g)).reverse ++ st.map (ww_v g) := by
    rw [List.map_append, List.map_reverse]
  rcases hl with hl | ⟨host, hl⟩
  · exact ww_run C (va_runS (As := as.map (ww_v g)) (rest := st.map (ww_v g)) (Ts := ww_ws) ⟨C.1, C.2.1, C.2.2.2.1, C.2.2.2.2.1, hts⟩ hT ⟨callB_of as.length hts (ww_good hB.2.1) rfl rfl rfl (hts _ hB.1) (hts _ hl) hB.2.2.1 ⟨hB.2.2.2.1, hB.2.2.2.2⟩, hts _ h1⟩ ⟨ww_blind, fun U hU hW => ⟨rfl, by rw [hU]; exact hP, va_K.moved hW.alike hK, ww_NW.warm hW C.2.2.2.2.2.2.2.2.2, C.2.2.2.2.2.2.2.2.1⟩⟩ rfl (by rw [List.length_map]) hll.1 hstack (lv_room hrm) hd ⟨Nat.le_refl _, Nat.le_refl _⟩) hS hll rfl kk
  · exact ww_run C (va_runSN (host := host) (As := as.map (ww_v g)) (rest := st.map (ww_v g)) (Ts := ww_ws) ⟨C.1, C.2.1, C.2.2.2.1, C.2.2.2.2.1, hts⟩ hT ⟨va_cnB as.length hts (ww_good hB.2.1) rfl rfl rfl (C.2.2.2.2.2.2.2.2.2.2 _ hl) (hts _ hB.1) hB.2.2.1 ⟨hB.2.2.2.1, hB.2.2.2.2⟩, hts _ h1, trivial⟩ ⟨ww_blind, fun U hU hW => ⟨rfl, by rw [hU]; exact hP, va_K.moved hW.alike hK, ww_NW.warm hW C.2.2.2.2.2.2.2.2.2, C.2.2.2.2.2.2.2.2.1⟩⟩ rfl (by rw [List.length_map]) hll.1 hstack (lv_room hrm) hd ⟨Nat.le_refl _, Nat.le_refl _⟩) hS hll rfl kk
theorem ww_invVI {Post : Int32 → ww_M → Prop} {n : ww_N} {ci : Nat} {fs : List (Option ww_N)} {T : u_T} {N idx : Nat} {d' : ww_D} (as : List ww_V) {stk : List ww_V} (hstk : stk = as.reverse ++ .inr (.inr n) :: st) (pc2 : Nat) (hd : decode d.2.1 pc = .ok (.invokevirtual idx, 3)) (hB : ww_CB d d' as.length) (hl : Cond.methodLink d.1.cls idx d'.1 ∈ ww_ws) (h1 : Cond.instanceMethod d'.1 ∈ ww_ws) (h2 : Cond.selects d'.1.cls d'.1 d'.1 ∈ ww_ws) (hn : ww_in n) (hs : ww_sh n = .inl (ci, fs)) (hc : vwCl[ci]? = some (d'.1.cls, T, N)) (hrm : ((st.map (ww_v g)).map fun v => v.category).sum ≤ 8) (hp : pc + 3 = pc2)
    (hT : ww_T E.2.1 g d' (.inr (.inr n) :: as) τ (ww_QI Post)) (kk : ∀ (v : Int32) (τ' : ww_M), Post v τ' → ww_W g d E Q pc2 P (.inl v :: st) τ') : ww_W g d E Q pc P stk τ :=
  ww_invV as hstk pc2 hd hB hl h1 h2 hn hs hc hrm hp hT (fun r τ' hq => by obtain ⟨v, rfl, hq⟩ := hq; exact kk v τ' hq)
theorem ww_invVV {Post : ww_M → Prop} {n : ww_N} {ci : Nat} {fs : List (Option ww_N)} {T : u_T} {N idx : Nat} {d' : ww_D} (as : List ww_V) {stk : List ww_V} (hstk : stk = as.reverse ++ .inr (.inr n) :: st) (pc2 : Nat) (hd : decode d.2.1 pc = .ok (.invokevirtual idx, 3)) (hB : ww_CB d d' as.length) (hl : Cond.methodLink d.1.cls idx d'.1 ∈ ww_ws) (h1 : Cond.instanceMethod d'.1 ∈ ww_ws) (h2 : Cond.selects d'.1.cls d'.1 d'.1 ∈ ww_ws) (hn : ww_in n) (hs : ww_sh n = .inl (ci, fs)) (hc : vwCl[ci]? = some (d'.1.cls, T, N)) (hrm : ((st.map (ww_v g)).map fun v => v.category).sum ≤ 8) (hp : pc + 3 = pc2)
    (hT : ww_T E.2.1 g d' (.inr (.inr n) :: as) τ (ww_QV Post)) (kk : ∀ (τ' : ww_M), Post τ' → ww_W g d E Q pc2 P st τ') : ww_W g d E Q pc P stk τ :=
  ww_invV as hstk pc2 hd hB hl h1 h2 hn hs hc hrm hp hT (fun r τ' hq => by obtain ⟨rfl, hq⟩ := hq; exact kk τ' hq)
theorem ww_invVL {Post : Int64 → ww_M → Prop} {n : ww_N} {ci : Nat} {fs : List (Option ww_N)} {T : u_T} {N idx : Nat} {d' : ww_D} (as : List ww_V) {stk : List ww_V} (hstk : stk = as.reverse ++ .inr (.inr n) :: st) (pc2 : Nat) (hd : decode d.2.1 pc = .ok (.invokevirtual idx, 3)) (hB : ww_CB d d' as.length) (hl : Cond.methodLink d.1.cls idx d'.1 ∈ ww_ws) (h1 : Cond.instanceMethod d'.1 ∈ ww_ws) (h2 : Cond.selects d'.1.cls d'.1 d'.1 ∈ ww_ws) (hn : ww_in n) (hs : ww_sh n = .inl (ci, fs)) (hc : vwCl[ci]? = some (d'.1.cls, T, N)) (hrm : ((st.map (ww_v g)).map fun v => v.category).sum ≤ 8) (hp : pc + 3 = pc2)
    (hT : ww_T E.2.1 g d' (.inr (.inr n) :: as) τ (ww_QL Post)) (kk : ∀ (v : Int64) (τ' : ww_M), Post v τ' → ww_W g d E Q pc2 P (.inr (.inl v) :: st) τ') : ww_W g d E Q pc P stk τ :=
  ww_invV as hstk pc2 hd hB hl h1 h2 hn hs hc hrm hp hT (fun r τ' hq => by obtain ⟨v, rfl, hq⟩ := hq; exact kk v τ' hq)
theorem ww_invSI {Post : Int32 → ww_M → Prop} {idx : Nat} {d' : ww_D} (as : List ww_V) {stk : List ww_V} (hstk : stk = as.reverse ++ st) (pc2 : Nat) (hd : decode d.2.1 pc = .ok (.invokestatic idx, 3)) (hB : ww_CB d d' as.length) (hl : Cond.methodLink d.1.cls idx d'.1 ∈ ww_ws ∨ ∃ host, (d.1.cls, idx, d'.1, host) ∈ ww_nM) (h1 : Cond.static d'.1 ∈ ww_ws) (hrm : ((st.map (ww_v g)).map fun v => v.category).sum ≤ 8) (hp : pc + 3 = pc2)
    (hT : ww_T E.2.1 g d' as τ (ww_QI Post)) (kk : ∀ (v : Int32) (τ' : ww_M), Post v τ' → ww_W g d E Q pc2 P (.inl v :: st) τ') : ww_W g d E Q pc P stk τ :=
  ww_invS as hstk pc2 hd hB hl h1 hrm hp hT (fun r τ' hq => by obtain ⟨v, rfl, hq⟩ := hq; exact kk v τ' hq)
theorem ww_invSL {Post : Int64 → ww_M → Prop} {idx : Nat} {d' : ww_D} (as : List ww_V) {stk : List ww_V} (hstk : stk = as.reverse ++ st) (pc2 : Nat) (hd : decode d.2.1 pc = .ok (.invokestatic idx, 3)) (hB : ww_CB d d' as.length) (hl : Cond.methodLink d.1.cls idx d'.1 ∈ ww_ws ∨ ∃ host, (d.1.cls, idx, d'.1, host) ∈ ww_nM) (h1 : Cond.static d'.1 ∈ ww_ws) (hrm : ((st.map (ww_v g)).map fun v => v.category).sum ≤ 8) (hp : pc + 3 = pc2)
    (hT : ww_T E.2.1 g d' as τ (ww_QL Post)) (kk : ∀ (v : Int64) (τ' : ww_M), Post v τ' → ww_W g d E Q pc2 P (.inr (.inl v) :: st) τ') : ww_W g d E Q pc P stk τ :=
  ww_invS as hstk pc2 hd hB hl h1 hrm hp hT (fun r τ' hq => by obtain ⟨v, rfl, hq⟩ := hq; exact kk v τ' hq)
/-! longs compared -/
theorem ww_lcmp {x y : Int64} (pc2 : Nat) (hd : decode d.2.1 pc = .ok (.lcmp, 1)) (hp : pc + 1 = pc2) (k : ww_W g d E Q pc2 P (.inl (lg_cmp x y) :: st) τ) : ww_W g d E Q pc P (.inr (.inl y) :: .inr (.inl x) :: st) τ := by
  subst hp
  exact fun C H locs ls hP hS hl => W.lcmp C.1 C.2.1 hd (k C H locs ls hP hS hl)
/-! switches -/
def ww_tchk (pc : Nat) (dflt lo hi : Int) (offs : Array Int) (tl : List (Int32 × Nat)) (td : Nat) : Bool := ((pc : Int) + dflt == (td : Int)) && (hi + 1 == lo + (offs.size : Int)) && (tl.length == offs.size) && (List.range offs.size).all (fun i => match offs[i]?, tl[i]? with
  | some o, some q => (q.1.toInt == lo + (i : Int)) && ((pc : Int) + o == (q.2 : Int))
  | _, _ => false)
theorem ww_tsw {x : Int32} {dflt lo hi : Int} {offs : Array Int} {len : Nat} (tl : List (Int32 × Nat)) (td : Nat) (hd : decode d.2.1 pc = .ok (.tableswitch dflt lo hi offs, len)) (hk : ww_tchk pc dflt lo hi offs tl td = true) (kC : ∀ q ∈ tl, x = q.1 → ww_W g d E Q q.2 P st τ) (kD : (∀ q ∈ tl, ¬ x = q.1) → ww_W g d E Q td P st τ) : ww_W g d E Q pc P (.inl x :: st) τ := by
  intro C H locs ls hP hS hl
  unfold ww_tchk at hk
  rw [Bool.and_eq_true, Bool.and_eq_true, Bool.and_eq_true] at hk
  obtain ⟨⟨⟨k1, k2⟩, k3⟩, k4⟩ := hk
  have k1 : (pc : Int) + dflt = (td : Int) := by simpa using k1
  have k2 : hi + 1 = lo + (offs.size : Int) := by simpa using k2
  have k3 : tl.length = offs.size := by simpa using k3
  rw [List.all_eq_true] at k4
  have key : ∀ i, i < offs.size → ∃ (o : Int) (q : Int32 × Nat), offs[i]? = some o ∧ tl[i]? = some q ∧ q.1.toInt = lo + (i : Int) ∧ (pc : Int) + o = (q.2 : Int) := by
    intro i hi
    have h := k4 i (List.mem_range.mpr hi)
    have ho : offs[i]? = some offs[i] := Array.getElem?_eq_getElem hi
    have hq : tl[i]? = some (tl[i]'(by omega)) := List.getElem?_eq_getElem (by omega)
    rw [ho, hq] at h
    simp only [Bool.and_eq_true, beq_iff_eq] at h
    exact ⟨_, _, ho, hq, h.1, h.2⟩
  by_cases hout : x.toInt < lo ∨ hi < x.toInt
  · refine lv_tableOut C.1 C.2.1 hd hout k1 (kD (fun q hq e => ?_) C H locs ls hP hS hl)
    obtain ⟨i, hi, he⟩ := List.mem_iff_getElem.mp hq
    obtain ⟨o, q', h1, h2, h3, h4⟩ := key i (by omega)
    rw [List.getElem?_eq_getElem hi, he] at h2
    cases h2
    rw [e] at hout
    omega
  · have h1 : ¬ x.toInt < lo := fun h => hout (Or.inl h)
    have h2 : ¬ hi < x.toInt := fun h => hout (Or.inr h)
    obtain ⟨o, q, e1, e2, e3, e4⟩ := key (x.toInt - lo).toNat (by omega)
    refine lv_tableIn C.1 C.2.1 hd h1 h2 e1 e4 (kC q (List.mem_of_getElem? e2) (Int32.toInt_inj.mp (by omega)) C H locs ls hP hS hl)
theorem ww_lkp (pc : Nat) (dflt : Int) (x : Int32) : ∀ (ps : List (Int × Int)) (tl : List (Int32 × Nat)), ps.map (fun q => (q.1, (pc : Int) + q.2)) = tl.map (fun q => (q.1.toInt, (q.2 : Int))) → (∃ q ∈ tl, x = q.1 ∧ (pc : Int) + Op.lookupswitch.offset ps dflt x.toInt = (q.2 : Int)) ∨ ((∀ q ∈ tl, ¬ x = q.1) ∧ Op.lookupswitch.offset ps dflt x.toInt = dflt)
  | [], [], _ => Or.inr ⟨fun q h => absurd h List.not_mem_nil, rfl⟩
  | [], q :: r, h => by simp at h
  | p :: r, [], h => by simp at h
  | (a, o) :: r, q :: s, h => by
    simp only [List.map_cons, List.cons.injEq, Prod.mk.injEq] at h
    obtain ⟨⟨h1, h2⟩, h3⟩ := h
    rw [Op.lookupswitch.offset_cons]
    by_cases hx : a = x.toInt
    · rw [if_pos hx]
      exact Or.inl ⟨q, List.mem_cons_self, Int32.toInt_inj.mp (by omega), h2⟩
    · rw [if_neg hx]
      rcases ww_lkp pc dflt x r s h3 with ⟨q', e1, e2, e3⟩ | ⟨e1, e2⟩
      · exact Or.inl ⟨q', List.mem_cons_of_mem _ e1, e2, e3⟩
      · refine Or.inr ⟨fun q' hq' => ?_, e2⟩
        rcases List.mem_cons.mp hq' with rfl | hq'
        · intro e
          exact hx (by rw [h1, e])
        · exact e1 q' hq'
theorem ww_lsw {x : Int32} {dflt : Int} {ps : Array (Int × Int)} {len : Nat} (tl : List (Int32 × Nat)) (td : Nat) (hd : decode d.2.1 pc = .ok (.lookupswitch dflt ps, len)) (hs : (ps.toList.zip (ps.toList.drop 1)).all (fun (a, next) => a.1 < next.1) = true) (hk : ps.toList.map (fun q => (q.1, (pc : Int) + q.2)) = tl.map (fun q => (q.1.toInt, (q.2 : Int)))) (ht : (pc : Int) + dflt = (td : Int)) (kC : ∀ q ∈ tl, x = q.1 → ww_W g d E Q q.2 P st τ) (kD : (∀ q ∈ tl, ¬ x = q.1) → ww_W g d E Q td P st τ) : ww_W g d E Q pc P (.inl x :: st) τ := by
  intro C H locs ls hP hS hl
  rcases ww_lkp pc dflt x ps.toList tl hk with ⟨q, e1, e2, e3⟩ | ⟨e1, e2⟩
  · exact lv_lookup C.1 C.2.1 hd hs rfl e3 (kC q e1 e2 C H locs ls hP hS hl)
  · exact lv_lookup C.1 C.2.1 hd hs e2 ht (kD e1 C H locs ls hP hS hl)
end RULES
end
section
abbrev mX0_init : ww_D := (yX0_init, cX0_init, 2, none, 2, 42)
abbrev mX0_become : ww_D := (yX0_become, cX0_become, 3, none, 5, 115)
abbrev mX0_addTurns : ww_D := (yX0_addTurns, cX0_addTurns, 6, none, 4, 90)
abbrev mX0_earlierLike : ww_D := (yX0_earlierLike, cX0_earlierLike, 3, (some .int), 3, 68)
abbrev mX0_listByFirstLetter : ww_D := (yX0_listByFirstLetter, cX0_listByFirstLetter, 2, none, 0, 0)
abbrev mX0_measure : ww_D := (yX0_measure, cX0_measure, 4, none, 3, 67)
abbrev mX0_notePiece : ww_D := (yX0_notePiece, cX0_notePiece, 4, none, 1, 21)
abbrev mX0_has : ww_D := (yX0_has, cX0_has, 2, (some .boolean), 0, 0)
abbrev mX0_sizeOf : ww_D := (yX0_sizeOf, cX0_sizeOf, 2, (some .int), 1, 21)
abbrev mX0_letterOf : ww_D := (yX0_letterOf, cX0_letterOf, 3, (some .int), 1, 21)
abbrev mX0_sharedStart : ww_D := (yX0_sharedStart, cX0_sharedStart, 3, (some .int), 2, 45)
abbrev mX0_matchAt : ww_D := (yX0_matchAt, cX0_matchAt, 4, (some .int), 2, 45)
abbrev mX0_beginsFresh : ww_D := (yX0_beginsFresh, cX0_beginsFresh, 3, (some .boolean), 2, 42)
abbrev mX0_startersWith : ww_D := (yX0_startersWith, cX0_startersWith, 2, (some .int), 0, 0)
abbrev mX0_starter : ww_D := (yX0_starter, cX0_starter, 3, (some .int), 1, 21)
abbrev mX0_areGood : ww_D := (yX0_areGood, cX0_areGood, 3, (some .boolean), 0, 0)
abbrev mX0_rankBy : ww_D := (yX0_rankBy, cX0_rankBy, 4, (some .int), 2, 49)
abbrev mX0_bringPivot : ww_D := (yX0_bringPivot, cX0_bringPivot, 6, (some .boolean), 0, 0)
abbrev mX0_clearBelow : ww_D := (yX0_clearBelow, cX0_clearBelow, 8, none, 1, 22)
abbrev mX1_init : ww_D := (yX1_init, cX1_init, 2, none, 2, 42)
abbrev mX1_readAll : ww_D := (yX1_readAll, cX1_readAll, 7, (some .int), 3, 68)
abbrev mX1_startWord : ww_D := (yX1_startWord, cX1_startWord, 1, none, 0, 0)
abbrev mX1_readByte : ww_D := (yX1_readByte, cX1_readByte, 4, none, 2, 45)
abbrev mX1_putRaw : ww_D := (yX1_putRaw, cX1_putRaw, 2, none, 0, 0)
abbrev mX1_repeatFactor : ww_D := (yX1_repeatFactor, cX1_repeatFactor, 5, none, 1, 21)
abbrev mX1_takeWord : ww_D := (yX1_takeWord, cX1_takeWord, 5, (some .boolean), 2, 44)
abbrev mX2_init : ww_D := (yX2_init, cX2_init, 2, none, 1, 21)
abbrev mX2_at : ww_D := (yX2_at, cX2_at, 2, (some .int), 0, 0)
abbrev mX2_wipe : ww_D := (yX2_wipe, cX2_wipe, 1, none, 0, 0)
abbrev mX2_put : ww_D := (yX2_put, cX2_put, 2, none, 1, 21)
abbrev mX2_copy : ww_D := (yX2_copy, cX2_copy, 4, none, 1, 21)
abbrev mX2_putRow : ww_D := (yX2_putRow, cX2_putRow, 2, none, 3, 66)
abbrev mX2_putPart : ww_D := (yX2_putPart, cX2_putPart, 5, none, 2, 42)
abbrev mX2_putInverse : ww_D := (yX2_putInverse, cX2_putInverse, 3, none, 2, 42)
abbrev mX2_putTurn : ww_D := (yX2_putTurn, cX2_putTurn, 3, none, 3, 66)
abbrev mX2_cutToRing : ww_D := (yX2_cutToRing, cX2_cutToRing, 4, none, 1, 21)
abbrev mX2_likeFrom : ww_D := (yX2_likeFrom, cX2_likeFrom, 5, (some .int), 1, 21)
abbrev mX2_surplusOf : ww_D := (yX2_surplusOf, cX2_surplusOf, 4, (some .int), 1, 21)
abbrev mX3_init : ww_D := (yX3_init, cX3_init, 2, none, 2, 42)
abbrev mX3_seek : ww_D := (yX3_seek, cX3_seek, 10, (some .int), 3, 68)
abbrev mX3_isBetter : ww_D := (yX3_isBetter, cX3_isBetter, 4, (some .boolean), 0, 0)
abbrev mX3_take : ww_D := (yX3_take, cX3_take, 4, none, 2, 42)
abbrev mX3_doCut : ww_D := (yX3_doCut, cX3_doCut, 3, none, 3, 66)
abbrev mX3_doAll : ww_D := (yX3_doAll, cX3_doAll, 3, (some .int), 4, 97)
abbrev mX3_doThrough : ww_D := (yX3_doThrough, cX3_doThrough, 4, (some .boolean), 4, 97)
abbrev mX4_init : ww_D := (yX4_init, cX4_init, 1, none, 0, 0)
abbrev mX4_accept : ww_D := (yX4_accept, cX4_accept, 2, (some .boolean), 0, 0)
abbrev mX4_byteAt : ww_D := (yX4_byteAt, cX4_byteAt, 2, (some .int), 0, 0)
abbrev mX4_wrongPlace : ww_D := (yX4_wrongPlace, cX4_wrongPlace, 2, (some .int), 3, 62)
abbrev mX4_standsNext : ww_D := (yX4_standsNext, cX4_standsNext, 3, (some .boolean), 2, 40)
abbrev mX4_factorEnds : ww_D := (yX4_factorEnds, cX4_factorEnds, 1, (some .boolean), 0, 0)
abbrev mX4_bracketOpens : ww_D := (yX4_bracketOpens, cX4_bracketOpens, 1, (some .boolean), 0, 0)
abbrev mX4_bracketCloses : ww_D := (yX4_bracketCloses, cX4_bracketCloses, 1, (some .boolean), 1, 20)
abbrev mX4_wordEnds : ww_D := (yX4_wordEnds, cX4_wordEnds, 1, (some .boolean), 0, 0)
abbrev mX4_letterFor : ww_D := (yX4_letterFor, cX4_letterFor, 1, (some .int), 0, 0)
abbrev mX4_figureFor : ww_D := (yX4_figureFor, cX4_figureFor, 1, (some .int), 0, 0)
abbrev mX5_init : ww_D := (yX5_init, cX5_init, 2, none, 3, 63)
abbrev mX5_type : ww_D := (yX5_type, cX5_type, 2, (some .int), 1, 21)
abbrev mX5_clear : ww_D := (yX5_clear, cX5_clear, 2, (some .int), 0, 0)
abbrev mX5_relators : ww_D := (yX5_relators, cX5_relators, 2, (some .int), 6, 137)
abbrev mX5_words : ww_D := (yX5_words, cX5_words, 4, (some .int), 5, 117)
abbrev mX5_chooser : ww_D := (yX5_chooser, cX5_chooser, 3, (some .int), 1, 21)
abbrev mX5_relator : ww_D := (yX5_relator, cX5_relator, 3, (some .int), 1, 21)
abbrev mX5_member : ww_D := (yX5_member, cX5_member, 3, (some .int), 2, 43)
abbrev mX5_good : ww_D := (yX5_good, cX5_good, 2, (some .int), 1, 22)
abbrev mX5_alike : ww_D := (yX5_alike, cX5_alike, 3, (some .int), 3, 67)
abbrev mX5_rank : ww_D := (yX5_rank, cX5_rank, 2, (some .int), 3, 72)
abbrev mX5_length : ww_D := (yX5_length, cX5_length, 2, (some .int), 1, 21)
abbrev mX5_letter : ww_D := (yX5_letter, cX5_letter, 3, (some .int), 1, 21)
abbrev mX5_adds : ww_D := (yX5_adds, cX5_adds, 3, (some .int), 3, 65)
abbrev mX5_times : ww_D := (yX5_times, cX5_times, 4, (some .int), 4, 87)
abbrev mX5_inverse : ww_D := (yX5_inverse, cX5_inverse, 3, (some .int), 3, 65)
abbrev mX5_power : ww_D := (yX5_power, cX5_power, 4, (some .int), 5, 111)
abbrev mX5_ring : ww_D := (yX5_ring, cX5_ring, 3, (some .int), 3, 65)
abbrev mX5_turn : ww_D := (yX5_turn, cX5_turn, 4, (some .int), 4, 88)
abbrev mX5_sum : ww_D := (yX5_sum, cX5_sum, 3, (some .int), 2, 44)
abbrev mX5_cuts : ww_D := (yX5_cuts, cX5_cuts, 2, (some .int), 4, 97)
abbrev mX5_cut : ww_D := (yX5_cut, cX5_cut, 2, (some .int), 4, 97)
abbrev mX5_shorten : ww_D := (yX5_shorten, cX5_shorten, 2, (some .int), 5, 119)
abbrev mX5_trail : ww_D := (yX5_trail, cX5_trail, 4, (some .int), 5, 120)
abbrev mX5_nothing : ww_D := (yX5_nothing, cX5_nothing, 2, (some .int), 5, 119)
abbrev mX5_same : ww_D := (yX5_same, cX5_same, 3, (some .int), 5, 119)
abbrev mX5_order : ww_D := (yX5_order, cX5_order, 3, (some .int), 5, 119)
abbrev mX5_turned : ww_D := (yX5_turned, cX5_turned, 6, (some .int), 7, 166)
abbrev mX5_nothings : ww_D := (yX5_nothings, cX5_nothings, 6, (some .int), 5, 119)
abbrev mX5_draw : ww_D := (yX5_draw, cX5_draw, 7, (some .int), 3, 65)
abbrev mX5_loops : ww_D := (yX5_loops, cX5_loops, 7, (some .int), 3, 66)
abbrev mX5_told : ww_D := (yX5_told, cX5_told, 2, (some .int), 2, 43)
abbrev mX5_digest : ww_D := (yX5_digest, cX5_digest, 4, (some .long), 2, 46)
abbrev mX5_isWord : ww_D := (yX5_isWord, cX5_isWord, 1, (some .boolean), 0, 0)
abbrev mX5_refuse : ww_D := (yX5_refuse, cX5_refuse, 2, (some .int), 0, 0)
abbrev mX5_keep : ww_D := (yX5_keep, cX5_keep, 2, (some .int), 2, 44)
abbrev mX5_readText : ww_D := (yX5_readText, cX5_readText, 4, (some .int), 4, 94)
abbrev mX5_makePower : ww_D := (yX5_makePower, cX5_makePower, 5, none, 4, 87)
abbrev mX5_someBeginningTurns : ww_D := (yX5_someBeginningTurns, cX5_someBeginningTurns, 4, (some .boolean), 6, 143)
abbrev mX5_beginningTurns : ww_D := (yX5_beginningTurns, cX5_beginningTurns, 5, (some .boolean), 5, 119)
abbrev mX5_putLoop : ww_D := (yX5_putLoop, cX5_putLoop, 4, none, 2, 43)
abbrev mX5_tell : ww_D := (yX5_tell, cX5_tell, 2, (some .int), 1, 22)
abbrev mX5_lettersOfAll : ww_D := (yX5_lettersOfAll, cX5_lettersOfAll, 3, (some .int), 0, 0)
abbrev mX5_digestOf : ww_D := (yX5_digestOf, cX5_digestOf, 6, (some .long), 1, 21)
abbrev mX5_nextDraw : ww_D := (yX5_nextDraw, cX5_nextDraw, 2, (some .long), 0, 0)
abbrev mX5_opposite : ww_D := (yX5_opposite, cX5_opposite, 1, (some .int), 0, 0)
abbrev mX6_init : ww_D := (yX6_init, cX6_init, 1, none, 0, 0)
abbrev mX6_in : ww_D := (yX6_in, cX6_in, 6, (some .boolean), 0, 0)
abbrev mX6_bad : ww_D := (yX6_bad, cX6_bad, 1, (some .int), 0, 0)
abbrev mX6_no : ww_D := (yX6_no, cX6_no, 1, (some .int), 0, 0)
abbrev mX6_full : ww_D := (yX6_full, cX6_full, 1, (some .int), 0, 0)
abbrev mX6_isWord : ww_D := (yX6_isWord, cX6_isWord, 1, (some .boolean), 1, 25)
abbrev mX6_isLetter : ww_D := (yX6_isLetter, cX6_isLetter, 1, (some .boolean), 1, 25)
abbrev mX6_opposite : ww_D := (yX6_opposite, cX6_opposite, 1, (some .int), 0, 0)
abbrev mX6_push : ww_D := (yX6_push, cX6_push, 2, none, 1, 20)
abbrev mX6_pushWord : ww_D := (yX6_pushWord, cX6_pushWord, 3, none, 2, 41)
abbrev mX6_pushInverse : ww_D := (yX6_pushInverse, cX6_pushInverse, 3, none, 2, 41)
abbrev mX6_handWord : ww_D := (yX6_handWord, cX6_handWord, 2, none, 3, 63)
abbrev mX6_layWord : ww_D := (yX6_layWord, cX6_layWord, 3, (some .int), 0, 0)
abbrev mX6_layIfFits : ww_D := (yX6_layIfFits, cX6_layIfFits, 2, (some .int), 1, 22)
abbrev mX6_ringHand : ww_D := (yX6_ringHand, cX6_ringHand, 3, none, 1, 20)
abbrev mX6_relatorLetter : ww_D := (yX6_relatorLetter, cX6_relatorLetter, 7, (some .int), 1, 20)
abbrev mX6_isTurn : ww_D := (yX6_isTurn, cX6_isTurn, 7, (some .boolean), 2, 46)
abbrev mX6_isListed : ww_D := (yX6_isListed, cX6_isListed, 6, (some .boolean), 3, 72)
abbrev mX6_listTurns : ww_D := (yX6_listTurns, cX6_listTurns, 5, none, 4, 97)
abbrev mX6_listMembers : ww_D := (yX6_listMembers, cX6_listMembers, 2, none, 5, 121)
abbrev mX6_isMember : ww_D := (yX6_isMember, cX6_isMember, 2, (some .boolean), 1, 25)
abbrev mX6_isRelator : ww_D := (yX6_isRelator, cX6_isRelator, 2, (some .boolean), 1, 25)
abbrev mX6_beginAlike : ww_D := (yX6_beginAlike, cX6_beginAlike, 4, (some .int), 0, 0)
abbrev mX6_isOf : ww_D := (yX6_isOf, cX6_isOf, 5, (some .boolean), 3, 72)
abbrev mX6_pieceOf : ww_D := (yX6_pieceOf, cX6_pieceOf, 6, (some .int), 4, 96)
abbrev mX6_isGood : ww_D := (yX6_isGood, cX6_isGood, 4, (some .boolean), 5, 121)
abbrev mX6_relator : ww_D := (yX6_relator, cX6_relator, 5, (some .int), 5, 121)
abbrev mX6_member : ww_D := (yX6_member, cX6_member, 3, (some .int), 2, 46)
abbrev mX6_good : ww_D := (yX6_good, cX6_good, 2, (some .int), 6, 144)
abbrev mX6_alike : ww_D := (yX6_alike, cX6_alike, 3, (some .int), 2, 46)
abbrev mX6_layMatrix : ww_D := (yX6_layMatrix, cX6_layMatrix, 5, none, 0, 0)
abbrev mX6_swapRows : ww_D := (yX6_swapRows, cX6_swapRows, 5, none, 0, 0)
abbrev mX6_rank : ww_D := (yX6_rank, cX6_rank, 8, (some .int), 1, 24)
abbrev mX6_chooser : ww_D := (yX6_chooser, cX6_chooser, 3, (some .int), 1, 25)
abbrev mX6_length : ww_D := (yX6_length, cX6_length, 2, (some .int), 2, 45)
abbrev mX6_letter : ww_D := (yX6_letter, cX6_letter, 3, (some .int), 2, 45)
abbrev mX6_adds : ww_D := (yX6_adds, cX6_adds, 3, (some .int), 4, 84)
abbrev mX6_times : ww_D := (yX6_times, cX6_times, 4, (some .int), 4, 84)
abbrev mX6_inverse : ww_D := (yX6_inverse, cX6_inverse, 3, (some .int), 3, 63)
abbrev mX6_power : ww_D := (yX6_power, cX6_power, 5, (some .int), 3, 63)
abbrev mX6_ring : ww_D := (yX6_ring, cX6_ring, 3, (some .int), 4, 84)
abbrev mX6_turn : ww_D := (yX6_turn, cX6_turn, 5, (some .int), 2, 45)
abbrev mX6_sum : ww_D := (yX6_sum, cX6_sum, 6, (some .int), 2, 45)
abbrev mX6_matches : ww_D := (yX6_matches, cX6_matches, 4, (some .int), 0, 0)
abbrev mX6_saves : ww_D := (yX6_saves, cX6_saves, 2, (some .int), 0, 0)
abbrev mX6_isBetter : ww_D := (yX6_isBetter, cX6_isBetter, 6, (some .boolean), 1, 21)
abbrev mX6_findCut : ww_D := (yX6_findCut, cX6_findCut, 4, none, 2, 46)
abbrev mX6_doCut : ww_D := (yX6_doCut, cX6_doCut, 4, none, 2, 41)
abbrev mX6_shortenHand : ww_D := (yX6_shortenHand, cX6_shortenHand, 3, (some .int), 3, 69)
abbrev mX6_isNothing : ww_D := (yX6_isNothing, cX6_isNothing, 2, (some .boolean), 4, 91)
abbrev mX6_cuts : ww_D := (yX6_cuts, cX6_cuts, 2, (some .int), 4, 84)
abbrev mX6_cut : ww_D := (yX6_cut, cX6_cut, 2, (some .int), 4, 84)
abbrev mX6_shorten : ww_D := (yX6_shorten, cX6_shorten, 4, (some .int), 4, 91)
abbrev mX6_trail : ww_D := (yX6_trail, cX6_trail, 6, (some .int), 4, 91)
abbrev mX6_nothing : ww_D := (yX6_nothing, cX6_nothing, 2, (some .int), 6, 144)
abbrev mX6_same : ww_D := (yX6_same, cX6_same, 3, (some .int), 6, 144)
abbrev mX6_order : ww_D := (yX6_order, cX6_order, 4, (some .int), 6, 144)
abbrev mX6_layRings : ww_D := (yX6_layRings, cX6_layRings, 4, none, 4, 84)
abbrev mX6_turnsBy : ww_D := (yX6_turnsBy, cX6_turnsBy, 5, (some .boolean), 5, 112)
abbrev mX6_turned : ww_D := (yX6_turned, cX6_turned, 6, (some .int), 6, 144)
abbrev mX6_nothings : ww_D := (yX6_nothings, cX6_nothings, 5, (some .int), 6, 144)
abbrev mX6_drawn : ww_D := (yX6_drawn, cX6_drawn, 2, (some .long), 0, 0)
abbrev mX6_draw : ww_D := (yX6_draw, cX6_draw, 7, (some .int), 2, 45)
abbrev mX6_loops : ww_D := (yX6_loops, cX6_loops, 10, (some .int), 2, 45)
abbrev mX6_type : ww_D := (yX6_type, cX6_type, 2, (some .int), 1, 25)
abbrev mX6_clear : ww_D := (yX6_clear, cX6_clear, 2, (some .int), 0, 0)
abbrev mX6_isBlank : ww_D := (yX6_isBlank, cX6_isBlank, 1, (some .boolean), 0, 0)
abbrev mX6_letterBy : ww_D := (yX6_letterBy, cX6_letterBy, 1, (some .int), 1, 25)
abbrev mX6_isFigure : ww_D := (yX6_isFigure, cX6_isFigure, 2, (some .boolean), 1, 25)
abbrev mX6_syntax : ww_D := (yX6_syntax, cX6_syntax, 8, (some .int), 2, 46)
abbrev mX6_put : ww_D := (yX6_put, cX6_put, 2, none, 0, 0)
abbrev mX6_repeat : ww_D := (yX6_repeat, cX6_repeat, 5, none, 1, 21)
abbrev mX6_tellWord : ww_D := (yX6_tellWord, cX6_tellWord, 4, none, 2, 45)
abbrev mX6_skip : ww_D := (yX6_skip, cX6_skip, 1, none, 1, 20)
abbrev mX6_tellWords : ww_D := (yX6_tellWords, cX6_tellWords, 7, (some .int), 3, 73)
abbrev mX6_relators : ww_D := (yX6_relators, cX6_relators, 4, (some .int), 6, 142)
abbrev mX6_words : ww_D := (yX6_words, cX6_words, 5, (some .int), 4, 99)
abbrev mX6_lettersOfAll : ww_D := (yX6_lettersOfAll, cX6_lettersOfAll, 3, (some .int), 0, 0)
abbrev mX6_toldOf : ww_D := (yX6_toldOf, cX6_toldOf, 2, (some .int), 1, 22)
abbrev mX6_told : ww_D := (yX6_told, cX6_told, 2, (some .int), 2, 43)
abbrev mX6_sums : ww_D := (yX6_sums, cX6_sums, 8, (some .long), 0, 0)
abbrev mX6_digest : ww_D := (yX6_digest, cX6_digest, 4, (some .long), 2, 43)
abbrev mJ9_floorMod_7cf53 : ww_D := (yJ9_floorMod_7cf53, cJ9_floorMod_7cf53, 3, (some .int), 0, 0)
abbrev mJ9_abs_0f7a4 : ww_D := (yJ9_abs_0f7a4, cJ9_abs_0f7a4, 1, (some .int), 0, 0)
abbrev mJ9_max_7cf53 : ww_D := (yJ9_max_7cf53, cJ9_max_7cf53, 2, (some .int), 0, 0)
abbrev mJ9_min_7cf53 : ww_D := (yJ9_min_7cf53, cJ9_min_7cf53, 2, (some .int), 0, 0)
theorem wf_X0_9 : ww_FL RX0 0 2 9 := ⟨RX0, TX0, 13, rfl, by decide, Or.inl (ww_t1 117 rfl rfl)⟩
theorem wf_X0_15 : ww_FL RX0 0 3 15 := ⟨RX0, TX0, 13, rfl, by decide, Or.inl (ww_t1 119 rfl rfl)⟩
theorem wf_X0_23 : ww_FL RX0 0 4 23 := ⟨RX0, TX0, 13, rfl, by decide, Or.inl (ww_t1 121 rfl rfl)⟩
theorem wf_X0_27 : ww_FL RX0 0 7 27 := ⟨RX0, TX0, 13, rfl, by decide, Or.inl (ww_t1 125 rfl rfl)⟩
theorem wf_X0_31 : ww_FL RX0 0 8 31 := ⟨RX0, TX0, 13, rfl, by decide, Or.inl (ww_t1 127 rfl rfl)⟩
theorem wf_X0_34 : ww_FL RX0 0 9 34 := ⟨RX0, TX0, 13, rfl, by decide, Or.inl (ww_t1 128 rfl rfl)⟩
theorem wf_X0_39 : ww_FL RX0 0 10 39 := ⟨RX0, TX0, 13, rfl, by decide, Or.inl (ww_t1 129 rfl rfl)⟩
theorem wf_X0_42 : ww_FL RX0 0 11 42 := ⟨RX0, TX0, 13, rfl, by decide, Or.inl (ww_t1 130 rfl rfl)⟩
theorem wf_X0_45 : ww_FL RX0 0 12 45 := ⟨RX0, TX0, 13, rfl, by decide, Or.inl (ww_t1 131 rfl rfl)⟩
theorem wf_X0_48 : ww_FL RX0 0 0 48 := ⟨RX0, TX0, 13, rfl, by decide, Or.inl (ww_t1 113 rfl rfl)⟩
theorem wf_X0_52 : ww_FL RX0 0 5 52 := ⟨RX0, TX0, 13, rfl, by decide, Or.inl (ww_t1 122 rfl rfl)⟩
theorem wf_X0_55 : ww_FL RX0 1 1 55 := ⟨RX1, TX1, 8, rfl, by decide, Or.inr ⟨"PieceWords", List.mem_of_getElem? (i := 8) rfl⟩⟩
theorem wf_X0_66 : ww_FL RX0 0 1 66 := ⟨RX0, TX0, 13, rfl, by decide, Or.inl (ww_t1 115 rfl rfl)⟩
theorem wf_X0_69 : ww_FL RX0 0 6 69 := ⟨RX0, TX0, 13, rfl, by decide, Or.inl (ww_t1 123 rfl rfl)⟩
theorem wf_X0_70 : ww_FL RX0 1 0 70 := ⟨RX1, TX1, 8, rfl, by decide, Or.inr ⟨"PieceWords", List.mem_of_getElem? (i := 6) rfl⟩⟩
theorem wf_X0_90 : ww_FL RX0 2 1 90 := ⟨RX2, TX2, 2, rfl, by decide, Or.inr ⟨"PieceWords", List.mem_of_getElem? (i := 1) rfl⟩⟩
theorem wf_X1_9 : ww_FL RX1 1 2 9 := ⟨RX1, TX1, 8, rfl, by decide, Or.inl (ww_t1 80 rfl rfl)⟩
theorem wf_X1_15 : ww_FL RX1 1 6 15 := ⟨RX1, TX1, 8, rfl, by decide, Or.inl (ww_t1 84 rfl rfl)⟩
theorem wf_X1_20 : ww_FL RX1 1 0 20 := ⟨RX1, TX1, 8, rfl, by decide, Or.inl (ww_t1 74 rfl rfl)⟩
theorem wf_X1_27 : ww_FL RX1 1 1 27 := ⟨RX1, TX1, 8, rfl, by decide, Or.inl (ww_t1 77 rfl rfl)⟩
theorem wf_X1_31 : ww_FL RX1 4 1 31 := ⟨RX4, TX4, 6, rfl, by decide, Or.inr ⟨"PieceWords", List.mem_of_getElem? (i := 4) rfl⟩⟩
theorem wf_X1_50 : ww_FL RX1 1 3 50 := ⟨RX1, TX1, 8, rfl, by decide, Or.inl (ww_t1 81 rfl rfl)⟩
theorem wf_X1_53 : ww_FL RX1 1 4 53 := ⟨RX1, TX1, 8, rfl, by decide, Or.inl (ww_t1 82 rfl rfl)⟩
theorem wf_X1_57 : ww_FL RX1 1 5 57 := ⟨RX1, TX1, 8, rfl, by decide, Or.inl (ww_t1 83 rfl rfl)⟩
theorem wf_X1_60 : ww_FL RX1 1 7 60 := ⟨RX1, TX1, 8, rfl, by decide, Or.inl (ww_t1 85 rfl rfl)⟩
theorem wf_X1_84 : ww_FL RX1 2 1 84 := ⟨RX2, TX2, 2, rfl, by decide, Or.inr ⟨"PieceWords", List.mem_of_getElem? (i := 3) rfl⟩⟩
theorem wf_X2_15 : ww_FL RX2 2 0 15 := ⟨RX2, TX2, 2, rfl, by decide, Or.inl (ww_t1 27 rfl rfl)⟩
theorem wf_X2_21 : ww_FL RX2 2 1 21 := ⟨RX2, TX2, 2, rfl, by decide, Or.inl (ww_t1 28 rfl rfl)⟩
theorem wf_X3_14 : ww_FL RX3 3 1 14 := ⟨RX3, TX3, 7, rfl, by decide, Or.inl (ww_t1 168 rfl rfl)⟩
theorem wf_X3_20 : ww_FL RX3 3 2 20 := ⟨RX3, TX3, 7, rfl, by decide, Or.inl (ww_t1 169 rfl rfl)⟩
theorem wf_X3_24 : ww_FL RX3 3 0 24 := ⟨RX3, TX3, 7, rfl, by decide, Or.inl (ww_t1 167 rfl rfl)⟩
theorem wf_X3_28 : ww_FL RX3 2 1 28 := ⟨RX2, TX2, 2, rfl, by decide, Or.inr ⟨"PieceWords", List.mem_of_getElem? (i := 0) rfl⟩⟩
theorem wf_X3_31 : ww_FL RX3 0 7 31 := ⟨RX0, TX0, 13, rfl, by decide, Or.inr ⟨"PieceWords", List.mem_of_getElem? (i := 15) rfl⟩⟩
theorem wf_X3_62 : ww_FL RX3 3 3 62 := ⟨RX3, TX3, 7, rfl, by decide, Or.inl (ww_t1 171 rfl rfl)⟩
theorem wf_X3_65 : ww_FL RX3 3 5 65 := ⟨RX3, TX3, 7, rfl, by decide, Or.inl (ww_t1 175 rfl rfl)⟩
theorem wf_X3_68 : ww_FL RX3 3 6 68 := ⟨RX3, TX3, 7, rfl, by decide, Or.inl (ww_t1 177 rfl rfl)⟩
theorem wf_X3_71 : ww_FL RX3 3 4 71 := ⟨RX3, TX3, 7, rfl, by decide, Or.inl (ww_t1 173 rfl rfl)⟩
theorem wf_X4_9 : ww_FL RX4 4 0 9 := ⟨RX4, TX4, 6, rfl, by decide, Or.inl (ww_t1 45 rfl rfl)⟩
theorem wf_X4_15 : ww_FL RX4 4 1 15 := ⟨RX4, TX4, 6, rfl, by decide, Or.inl (ww_t1 46 rfl rfl)⟩
theorem wf_X4_19 : ww_FL RX4 4 2 19 := ⟨RX4, TX4, 6, rfl, by decide, Or.inl (ww_t1 49 rfl rfl)⟩
theorem wf_X4_22 : ww_FL RX4 4 3 22 := ⟨RX4, TX4, 6, rfl, by decide, Or.inl (ww_t1 50 rfl rfl)⟩
theorem wf_X4_26 : ww_FL RX4 4 4 26 := ⟨RX4, TX4, 6, rfl, by decide, Or.inl (ww_t1 51 rfl rfl)⟩
theorem wf_X4_29 : ww_FL RX4 4 5 29 := ⟨RX4, TX4, 6, rfl, by decide, Or.inl (ww_t1 52 rfl rfl)⟩
theorem wf_X5_11 : ww_FL RX5 5 0 11 := ⟨RX5, TX5, 11, rfl, by decide, Or.inl (ww_t1 193 rfl rfl)⟩
theorem wf_X5_21 : ww_FL RX5 5 1 21 := ⟨RX5, TX5, 11, rfl, by decide, Or.inl (ww_t1 194 rfl rfl)⟩
theorem wf_X5_28 : ww_FL RX5 5 2 28 := ⟨RX5, TX5, 11, rfl, by decide, Or.inl (ww_t1 195 rfl rfl)⟩
theorem wf_X5_35 : ww_FL RX5 5 3 35 := ⟨RX5, TX5, 11, rfl, by decide, Or.inl (ww_t1 196 rfl rfl)⟩
theorem wf_X5_44 : ww_FL RX5 5 4 44 := ⟨RX5, TX5, 11, rfl, by decide, Or.inl (ww_t1 197 rfl rfl)⟩
theorem wf_X5_48 : ww_FL RX5 5 5 48 := ⟨RX5, TX5, 11, rfl, by decide, Or.inl (ww_t1 198 rfl rfl)⟩
theorem wf_X5_52 : ww_FL RX5 5 6 52 := ⟨RX5, TX5, 11, rfl, by decide, Or.inl (ww_t1 199 rfl rfl)⟩
theorem wf_X5_55 : ww_FL RX5 5 7 55 := ⟨RX5, TX5, 11, rfl, by decide, Or.inl (ww_t1 200 rfl rfl)⟩
theorem wf_X5_66 : ww_FL RX5 4 1 66 := ⟨RX4, TX4, 6, rfl, by decide, Or.inr ⟨"PieceWords", List.mem_of_getElem? (i := 5) rfl⟩⟩
theorem wf_X5_78 : ww_FL RX5 1 1 78 := ⟨RX1, TX1, 8, rfl, by decide, Or.inr ⟨"PieceWords", List.mem_of_getElem? (i := 9) rfl⟩⟩
theorem wf_X5_84 : ww_FL RX5 1 0 84 := ⟨RX1, TX1, 8, rfl, by decide, Or.inr ⟨"PieceWords", List.mem_of_getElem? (i := 7) rfl⟩⟩
theorem wf_X5_91 : ww_FL RX5 3 2 91 := ⟨RX3, TX3, 7, rfl, by decide, Or.inr ⟨"PieceWords", List.mem_of_getElem? (i := 16) rfl⟩⟩
theorem wf_X5_94 : ww_FL RX5 0 1 94 := ⟨RX0, TX0, 13, rfl, by decide, Or.inr ⟨"PieceWords", List.mem_of_getElem? (i := 11) rfl⟩⟩
theorem wf_X5_97 : ww_FL RX5 0 0 97 := ⟨RX0, TX0, 13, rfl, by decide, Or.inr ⟨"PieceWords", List.mem_of_getElem? (i := 10) rfl⟩⟩
theorem wf_X5_100 : ww_FL RX5 2 1 100 := ⟨RX2, TX2, 2, rfl, by decide, Or.inr ⟨"PieceWords", List.mem_of_getElem? (i := 2) rfl⟩⟩
theorem wf_X5_101 : ww_FL RX5 0 2 101 := ⟨RX0, TX0, 13, rfl, by decide, Or.inr ⟨"PieceWords", List.mem_of_getElem? (i := 12) rfl⟩⟩
theorem wf_X5_105 : ww_FL RX5 0 3 105 := ⟨RX0, TX0, 13, rfl, by decide, Or.inr ⟨"PieceWords", List.mem_of_getElem? (i := 13) rfl⟩⟩
theorem wf_X5_173 : ww_FL RX5 3 3 173 := ⟨RX3, TX3, 7, rfl, by decide, Or.inr ⟨"PieceWords", List.mem_of_getElem? (i := 17) rfl⟩⟩
theorem wf_X5_176 : ww_FL RX5 3 4 176 := ⟨RX3, TX3, 7, rfl, by decide, Or.inr ⟨"PieceWords", List.mem_of_getElem? (i := 18) rfl⟩⟩
theorem wf_X5_179 : ww_FL RX5 3 5 179 := ⟨RX3, TX3, 7, rfl, by decide, Or.inr ⟨"PieceWords", List.mem_of_getElem? (i := 19) rfl⟩⟩
theorem wf_X5_200 : ww_FL RX5 0 6 200 := ⟨RX0, TX0, 13, rfl, by decide, Or.inr ⟨"PieceWords", List.mem_of_getElem? (i := 14) rfl⟩⟩
theorem wf_X5_217 : ww_FL RX5 5 8 217 := ⟨RX5, TX5, 11, rfl, by decide, Or.inl (ww_t1 201 rfl rfl)⟩
theorem wf_X5_220 : ww_FL RX5 5 9 220 := ⟨RX5, TX5, 11, rfl, by decide, Or.inl (ww_t1 202 rfl rfl)⟩
theorem wf_X5_223 : ww_FL RX5 5 10 223 := ⟨RX5, TX5, 11, rfl, by decide, Or.inl (ww_t1 203 rfl rfl)⟩
theorem wf_X6_7 : ww_FL RX6 6 0 7 := ⟨RX6, TX6, 32, rfl, by decide, Or.inl (ww_t3 183 rfl rfl)⟩
theorem wf_X6_13 : ww_FL RX6 6 1 13 := ⟨RX6, TX6, 32, rfl, by decide, Or.inl (ww_t3 184 rfl rfl)⟩
theorem wf_X6_16 : ww_FL RX6 6 3 16 := ⟨RX6, TX6, 32, rfl, by decide, Or.inl (ww_t3 186 rfl rfl)⟩
theorem wf_X6_19 : ww_FL RX6 6 4 19 := ⟨RX6, TX6, 32, rfl, by decide, Or.inl (ww_t3 187 rfl rfl)⟩
theorem wf_X6_22 : ww_FL RX6 6 5 22 := ⟨RX6, TX6, 32, rfl, by decide, Or.inl (ww_t3 188 rfl rfl)⟩
theorem wf_X6_25 : ww_FL RX6 6 7 25 := ⟨RX6, TX6, 32, rfl, by decide, Or.inl (ww_t3 190 rfl rfl)⟩
theorem wf_X6_28 : ww_FL RX6 6 8 28 := ⟨RX6, TX6, 32, rfl, by decide, Or.inl (ww_t3 191 rfl rfl)⟩
theorem wf_X6_31 : ww_FL RX6 6 9 31 := ⟨RX6, TX6, 32, rfl, by decide, Or.inl (ww_t3 192 rfl rfl)⟩
theorem wf_X6_34 : ww_FL RX6 6 11 34 := ⟨RX6, TX6, 32, rfl, by decide, Or.inl (ww_t3 194 rfl rfl)⟩
theorem wf_X6_37 : ww_FL RX6 6 13 37 := ⟨RX6, TX6, 32, rfl, by decide, Or.inl (ww_t3 196 rfl rfl)⟩
theorem wf_X6_40 : ww_FL RX6 6 18 40 := ⟨RX6, TX6, 32, rfl, by decide, Or.inl (ww_t3 201 rfl rfl)⟩
theorem wf_X6_43 : ww_FL RX6 6 19 43 := ⟨RX6, TX6, 32, rfl, by decide, Or.inl (ww_t3 202 rfl rfl)⟩
theorem wf_X6_46 : ww_FL RX6 6 20 46 := ⟨RX6, TX6, 32, rfl, by decide, Or.inl (ww_t3 203 rfl rfl)⟩
theorem wf_X6_49 : ww_FL RX6 6 23 49 := ⟨RX6, TX6, 32, rfl, by decide, Or.inl (ww_t3 206 rfl rfl)⟩
theorem wf_X6_52 : ww_FL RX6 6 26 52 := ⟨RX6, TX6, 32, rfl, by decide, Or.inl (ww_t3 209 rfl rfl)⟩
theorem wf_X6_55 : ww_FL RX6 6 27 55 := ⟨RX6, TX6, 32, rfl, by decide, Or.inl (ww_t3 210 rfl rfl)⟩
theorem wf_X6_58 : ww_FL RX6 6 30 58 := ⟨RX6, TX6, 32, rfl, by decide, Or.inl (ww_t3 213 rfl rfl)⟩
theorem wf_X6_61 : ww_FL RX6 6 31 61 := ⟨RX6, TX6, 32, rfl, by decide, Or.inl (ww_t3 214 rfl rfl)⟩
theorem wf_X6_72 : ww_FL RX6 6 12 72 := ⟨RX6, TX6, 32, rfl, by decide, Or.inl (ww_t3 195 rfl rfl)⟩
theorem wf_X6_98 : ww_FL RX6 6 6 98 := ⟨RX6, TX6, 32, rfl, by decide, Or.inl (ww_t3 189 rfl rfl)⟩
theorem wf_X6_109 : ww_FL RX6 6 2 109 := ⟨RX6, TX6, 32, rfl, by decide, Or.inl (ww_t3 185 rfl rfl)⟩
theorem wf_X6_153 : ww_FL RX6 6 10 153 := ⟨RX6, TX6, 32, rfl, by decide, Or.inl (ww_t3 193 rfl rfl)⟩
theorem wf_X6_183 : ww_FL RX6 6 14 183 := ⟨RX6, TX6, 32, rfl, by decide, Or.inl (ww_t3 197 rfl rfl)⟩
theorem wf_X6_186 : ww_FL RX6 6 16 186 := ⟨RX6, TX6, 32, rfl, by decide, Or.inl (ww_t3 199 rfl rfl)⟩
theorem wf_X6_192 : ww_FL RX6 6 15 192 := ⟨RX6, TX6, 32, rfl, by decide, Or.inl (ww_t3 198 rfl rfl)⟩
theorem wf_X6_195 : ww_FL RX6 6 17 195 := ⟨RX6, TX6, 32, rfl, by decide, Or.inl (ww_t3 200 rfl rfl)⟩
theorem wf_X6_219 : ww_FL RX6 6 21 219 := ⟨RX6, TX6, 32, rfl, by decide, Or.inl (ww_t3 204 rfl rfl)⟩
theorem wf_X6_222 : ww_FL RX6 6 22 222 := ⟨RX6, TX6, 32, rfl, by decide, Or.inl (ww_t3 205 rfl rfl)⟩
theorem wf_X6_255 : ww_FL RX6 6 24 255 := ⟨RX6, TX6, 32, rfl, by decide, Or.inl (ww_t3 207 rfl rfl)⟩
theorem wf_X6_270 : ww_FL RX6 6 25 270 := ⟨RX6, TX6, 32, rfl, by decide, Or.inl (ww_t3 208 rfl rfl)⟩
theorem wf_X6_282 : ww_FL RX6 6 28 282 := ⟨RX6, TX6, 32, rfl, by decide, Or.inl (ww_t3 211 rfl rfl)⟩
theorem wf_X6_288 : ww_FL RX6 6 29 288 := ⟨RX6, TX6, 32, rfl, by decide, Or.inl (ww_t3 212 rfl rfl)⟩
theorem fp_X0_1 : ww_FP 0 1 .int := ⟨RX0, TX0, 13, rfl, rfl, by decide +kernel⟩
theorem fp_X0_6 : ww_FP 0 6 .int := ⟨RX0, TX0, 13, rfl, rfl, by decide +kernel⟩
theorem fp_X0_7 : ww_FP 0 7 .int := ⟨RX0, TX0, 13, rfl, rfl, by decide +kernel⟩
theorem fp_X1_1 : ww_FP 1 1 .int := ⟨RX1, TX1, 8, rfl, rfl, by decide +kernel⟩
theorem fp_X1_3 : ww_FP 1 3 .int := ⟨RX1, TX1, 8, rfl, rfl, by decide +kernel⟩
theorem fp_X1_4 : ww_FP 1 4 .boolean := ⟨RX1, TX1, 8, rfl, rfl, by decide +kernel⟩
theorem fp_X1_5 : ww_FP 1 5 .int := ⟨RX1, TX1, 8, rfl, rfl, by decide +kernel⟩
theorem fp_X1_7 : ww_FP 1 7 .int := ⟨RX1, TX1, 8, rfl, rfl, by decide +kernel⟩
theorem fp_X2_1 : ww_FP 2 1 .int := ⟨RX2, TX2, 2, rfl, rfl, by decide +kernel⟩
theorem fp_X3_2 : ww_FP 3 2 .int := ⟨RX3, TX3, 7, rfl, rfl, by decide +kernel⟩
theorem fp_X3_3 : ww_FP 3 3 .int := ⟨RX3, TX3, 7, rfl, rfl, by decide +kernel⟩
theorem fp_X3_4 : ww_FP 3 4 .int := ⟨RX3, TX3, 7, rfl, rfl, by decide +kernel⟩
theorem fp_X3_5 : ww_FP 3 5 .int := ⟨RX3, TX3, 7, rfl, rfl, by decide +kernel⟩
theorem fp_X3_6 : ww_FP 3 6 .int := ⟨RX3, TX3, 7, rfl, rfl, by decide +kernel⟩
theorem fp_X4_1 : ww_FP 4 1 .int := ⟨RX4, TX4, 6, rfl, rfl, by decide +kernel⟩
theorem fp_X4_2 : ww_FP 4 2 .int := ⟨RX4, TX4, 6, rfl, rfl, by decide +kernel⟩
theorem fp_X4_3 : ww_FP 4 3 .boolean := ⟨RX4, TX4, 6, rfl, rfl, by decide +kernel⟩
theorem fp_X4_4 : ww_FP 4 4 .boolean := ⟨RX4, TX4, 6, rfl, rfl, by decide +kernel⟩
theorem fp_X4_5 : ww_FP 4 5 .boolean := ⟨RX4, TX4, 6, rfl, rfl, by decide +kernel⟩
theorem fp_X5_8 : ww_FP 5 8 .int := ⟨RX5, TX5, 11, rfl, rfl, by decide +kernel⟩
theorem fp_X5_9 : ww_FP 5 9 .int := ⟨RX5, TX5, 11, rfl, rfl, by decide +kernel⟩
theorem fp_X5_10 : ww_FP 5 10 .int := ⟨RX5, TX5, 11, rfl, rfl, by decide +kernel⟩
theorem fp_X6_2 : ww_FP 6 2 .int := ⟨RX6, TX6, 32, rfl, rfl, by decide +kernel⟩
theorem fp_X6_6 : ww_FP 6 6 .int := ⟨RX6, TX6, 32, rfl, rfl, by decide +kernel⟩
theorem fp_X6_10 : ww_FP 6 10 .int := ⟨RX6, TX6, 32, rfl, rfl, by decide +kernel⟩
theorem fp_X6_12 : ww_FP 6 12 .int := ⟨RX6, TX6, 32, rfl, rfl, by decide +kernel⟩
theorem fp_X6_14 : ww_FP 6 14 .int := ⟨RX6, TX6, 32, rfl, rfl, by decide +kernel⟩
theorem fp_X6_15 : ww_FP 6 15 .int := ⟨RX6, TX6, 32, rfl, rfl, by decide +kernel⟩
theorem fp_X6_16 : ww_FP 6 16 .int := ⟨RX6, TX6, 32, rfl, rfl, by decide +kernel⟩
theorem fp_X6_17 : ww_FP 6 17 .int := ⟨RX6, TX6, 32, rfl, rfl, by decide +kernel⟩
theorem fp_X6_21 : ww_FP 6 21 .int := ⟨RX6, TX6, 32, rfl, rfl, by decide +kernel⟩
theorem fp_X6_22 : ww_FP 6 22 .int := ⟨RX6, TX6, 32, rfl, rfl, by decide +kernel⟩
theorem fp_X6_24 : ww_FP 6 24 .int := ⟨RX6, TX6, 32, rfl, rfl, by decide +kernel⟩
theorem fp_X6_25 : ww_FP 6 25 .int := ⟨RX6, TX6, 32, rfl, rfl, by decide +kernel⟩
theorem fp_X6_28 : ww_FP 6 28 .int := ⟨RX6, TX6, 32, rfl, rfl, by decide +kernel⟩
theorem fp_X6_29 : ww_FP 6 29 .int := ⟨RX6, TX6, 32, rfl, rfl, by decide +kernel⟩
end
section
theorem dX2_init_0 : decode cX2_init 0 = .ok (.aload_n 0, 1) := by decide +kernel
theorem dX2_init_1 : decode cX2_init 1 = .ok (.invokespecial 3, 3) := by decide +kernel
theorem dX2_init_4 : decode cX2_init 4 = .ok (.aload_n 0, 1) := by decide +kernel
theorem dX2_init_5 : decode cX2_init 5 = .ok (.iconst 0, 1) := by decide +kernel
theorem dX2_init_6 : decode cX2_init 6 = .ok (.iload_n 1, 1) := by decide +kernel
theorem dX2_init_7 : decode cX2_init 7 = .ok (.invokestatic 9, 3) := by decide +kernel
theorem dX2_init_10 : decode cX2_init 10 = .ok (.newarray .int, 2) := by decide +kernel
theorem dX2_init_12 : decode cX2_init 12 = .ok (.putfield 15, 3) := by decide +kernel
theorem dX2_init_15 : decode cX2_init 15 = .ok (.return_, 1) := by decide +kernel
theorem dX2_at_0 : decode cX2_at 0 = .ok (.iload_n 1, 1) := by decide +kernel
theorem dX2_at_1 : decode cX2_at 1 = .ok (.ifCond .lt 29, 3) := by decide +kernel
theorem dX2_at_4 : decode cX2_at 4 = .ok (.iload_n 1, 1) := by decide +kernel
theorem dX2_at_5 : decode cX2_at 5 = .ok (.aload_n 0, 1) := by decide +kernel
theorem dX2_at_6 : decode cX2_at 6 = .ok (.getfield 21, 3) := by decide +kernel
theorem dX2_at_9 : decode cX2_at 9 = .ok (.if_icmp .ge 21, 3) := by decide +kernel
theorem dX2_at_12 : decode cX2_at 12 = .ok (.iload_n 1, 1) := by decide +kernel
theorem dX2_at_13 : decode cX2_at 13 = .ok (.aload_n 0, 1) := by decide +kernel
theorem dX2_at_14 : decode cX2_at 14 = .ok (.getfield 15, 3) := by decide +kernel
theorem dX2_at_17 : decode cX2_at 17 = .ok (.arraylength, 1) := by decide +kernel
theorem dX2_at_18 : decode cX2_at 18 = .ok (.if_icmp .ge 12, 3) := by decide +kernel
theorem dX2_at_21 : decode cX2_at 21 = .ok (.aload_n 0, 1) := by decide +kernel
theorem dX2_at_22 : decode cX2_at 22 = .ok (.getfield 15, 3) := by decide +kernel
theorem dX2_at_25 : decode cX2_at 25 = .ok (.iload_n 1, 1) := by decide +kernel
theorem dX2_at_26 : decode cX2_at 26 = .ok (.iaload, 1) := by decide +kernel
theorem dX2_at_27 : decode cX2_at 27 = .ok (.goto 4, 3) := by decide +kernel
theorem dX2_at_30 : decode cX2_at 30 = .ok (.iconst (-1), 1) := by decide +kernel
theorem dX2_at_31 : decode cX2_at 31 = .ok (.ireturn, 1) := by decide +kernel
theorem dX2_wipe_0 : decode cX2_wipe 0 = .ok (.aload_n 0, 1) := by decide +kernel
theorem dX2_wipe_1 : decode cX2_wipe 1 = .ok (.iconst 0, 1) := by decide +kernel
theorem dX2_wipe_2 : decode cX2_wipe 2 = .ok (.putfield 21, 3) := by decide +kernel
theorem dX2_wipe_5 : decode cX2_wipe 5 = .ok (.return_, 1) := by decide +kernel
theorem dX2_put_0 : decode cX2_put 0 = .ok (.iload_n 1, 1) := by decide +kernel
theorem dX2_put_1 : decode cX2_put 1 = .ok (.ifCond .lt 9, 3) := by decide +kernel
theorem dX2_put_4 : decode cX2_put 4 = .ok (.iload_n 1, 1) := by decide +kernel
theorem dX2_put_5 : decode cX2_put 5 = .ok (.bipush 8, 2) := by decide +kernel
theorem dX2_put_7 : decode cX2_put 7 = .ok (.if_icmp .lt 4, 3) := by decide +kernel
theorem dX2_put_10 : decode cX2_put 10 = .ok (.return_, 1) := by decide +kernel
theorem dX2_put_11 : decode cX2_put 11 = .ok (.aload_n 0, 1) := by decide +kernel
theorem dX2_put_12 : decode cX2_put 12 = .ok (.getfield 21, 3) := by decide +kernel
theorem dX2_put_15 : decode cX2_put 15 = .ok (.ifCond .le 33, 3) := by decide +kernel
theorem dX2_put_18 : decode cX2_put 18 = .ok (.aload_n 0, 1) := by decide +kernel
theorem dX2_put_19 : decode cX2_put 19 = .ok (.aload_n 0, 1) := by decide +kernel
theorem dX2_put_20 : decode cX2_put 20 = .ok (.getfield 21, 3) := by decide +kernel
theorem dX2_put_23 : decode cX2_put 23 = .ok (.iconst 1, 1) := by decide +kernel
theorem dX2_put_24 : decode cX2_put 24 = .ok (.isub, 1) := by decide +kernel
theorem dX2_put_25 : decode cX2_put 25 = .ok (.invokevirtual 25, 3) := by decide +kernel
theorem dX2_put_28 : decode cX2_put 28 = .ok (.iload_n 1, 1) := by decide +kernel
theorem dX2_put_29 : decode cX2_put 29 = .ok (.invokestatic 29, 3) := by decide +kernel
theorem dX2_put_32 : decode cX2_put 32 = .ok (.if_icmp .ne 16, 3) := by decide +kernel
theorem dX2_put_35 : decode cX2_put 35 = .ok (.aload_n 0, 1) := by decide +kernel
theorem dX2_put_36 : decode cX2_put 36 = .ok (.dup, 1) := by decide +kernel
theorem dX2_put_37 : decode cX2_put 37 = .ok (.getfield 21, 3) := by decide +kernel
theorem dX2_put_40 : decode cX2_put 40 = .ok (.iconst 1, 1) := by decide +kernel
theorem dX2_put_41 : decode cX2_put 41 = .ok (.isub, 1) := by decide +kernel
theorem dX2_put_42 : decode cX2_put 42 = .ok (.putfield 21, 3) := by decide +kernel
theorem dX2_put_45 : decode cX2_put 45 = .ok (.goto 35, 3) := by decide +kernel
theorem dX2_put_48 : decode cX2_put 48 = .ok (.aload_n 0, 1) := by decide +kernel
theorem dX2_put_49 : decode cX2_put 49 = .ok (.getfield 21, 3) := by decide +kernel
theorem dX2_put_52 : decode cX2_put 52 = .ok (.aload_n 0, 1) := by decide +kernel
theorem dX2_put_53 : decode cX2_put 53 = .ok (.getfield 15, 3) := by decide +kernel
theorem dX2_put_56 : decode cX2_put 56 = .ok (.arraylength, 1) := by decide +kernel
theorem dX2_put_57 : decode cX2_put 57 = .ok (.if_icmp .ge 23, 3) := by decide +kernel
theorem dX2_put_60 : decode cX2_put 60 = .ok (.aload_n 0, 1) := by decide +kernel
theorem dX2_put_61 : decode cX2_put 61 = .ok (.getfield 15, 3) := by decide +kernel
theorem dX2_put_64 : decode cX2_put 64 = .ok (.aload_n 0, 1) := by decide +kernel
theorem dX2_put_65 : decode cX2_put 65 = .ok (.getfield 21, 3) := by decide +kernel
theorem dX2_put_68 : decode cX2_put 68 = .ok (.iload_n 1, 1) := by decide +kernel
theorem dX2_put_69 : decode cX2_put 69 = .ok (.iastore, 1) := by decide +kernel
theorem dX2_put_70 : decode cX2_put 70 = .ok (.aload_n 0, 1) := by decide +kernel
theorem dX2_put_71 : decode cX2_put 71 = .ok (.dup, 1) := by decide +kernel
theorem dX2_put_72 : decode cX2_put 72 = .ok (.getfield 21, 3) := by decide +kernel
theorem dX2_put_75 : decode cX2_put 75 = .ok (.iconst 1, 1) := by decide +kernel
theorem dX2_put_76 : decode cX2_put 76 = .ok (.iadd, 1) := by decide +kernel
theorem dX2_put_77 : decode cX2_put 77 = .ok (.putfield 21, 3) := by decide +kernel
theorem dX2_put_80 : decode cX2_put 80 = .ok (.return_, 1) := by decide +kernel
theorem dX2_copy_0 : decode cX2_copy 0 = .ok (.aload_n 1, 1) := by decide +kernel
theorem dX2_copy_1 : decode cX2_copy 1 = .ok (.getfield 21, 3) := by decide +kernel
theorem dX2_copy_4 : decode cX2_copy 4 = .ok (.aload_n 1, 1) := by decide +kernel
theorem dX2_copy_5 : decode cX2_copy 5 = .ok (.getfield 15, 3) := by decide +kernel
theorem dX2_copy_8 : decode cX2_copy 8 = .ok (.arraylength, 1) := by decide +kernel
theorem dX2_copy_9 : decode cX2_copy 9 = .ok (.aload_n 0, 1) := by decide +kernel
theorem dX2_copy_10 : decode cX2_copy 10 = .ok (.getfield 15, 3) := by decide +kernel
theorem dX2_copy_13 : decode cX2_copy 13 = .ok (.arraylength, 1) := by decide +kernel
theorem dX2_copy_14 : decode cX2_copy 14 = .ok (.invokestatic 32, 3) := by decide +kernel
theorem dX2_copy_17 : decode cX2_copy 17 = .ok (.invokestatic 32, 3) := by decide +kernel
theorem dX2_copy_20 : decode cX2_copy 20 = .ok (.istore_n 2, 1) := by decide +kernel
theorem dX2_copy_21 : decode cX2_copy 21 = .ok (.iconst 0, 1) := by decide +kernel
theorem dX2_copy_22 : decode cX2_copy 22 = .ok (.istore_n 3, 1) := by decide +kernel
theorem dX2_copy_23 : decode cX2_copy 23 = .ok (.iload_n 3, 1) := by decide +kernel
theorem dX2_copy_24 : decode cX2_copy 24 = .ok (.iload_n 2, 1) := by decide +kernel
theorem dX2_copy_25 : decode cX2_copy 25 = .ok (.if_icmp .ge 21, 3) := by decide +kernel
theorem dX2_copy_28 : decode cX2_copy 28 = .ok (.aload_n 0, 1) := by decide +kernel
theorem dX2_copy_29 : decode cX2_copy 29 = .ok (.getfield 15, 3) := by decide +kernel
theorem dX2_copy_32 : decode cX2_copy 32 = .ok (.iload_n 3, 1) := by decide +kernel
theorem dX2_copy_33 : decode cX2_copy 33 = .ok (.aload_n 1, 1) := by decide +kernel
theorem dX2_copy_34 : decode cX2_copy 34 = .ok (.getfield 15, 3) := by decide +kernel
theorem dX2_copy_37 : decode cX2_copy 37 = .ok (.iload_n 3, 1) := by decide +kernel
theorem dX2_copy_38 : decode cX2_copy 38 = .ok (.iaload, 1) := by decide +kernel
theorem dX2_copy_39 : decode cX2_copy 39 = .ok (.iastore, 1) := by decide +kernel
theorem dX2_copy_40 : decode cX2_copy 40 = .ok (.iinc 3 1, 3) := by decide +kernel
theorem dX2_copy_43 : decode cX2_copy 43 = .ok (.goto (-20), 3) := by decide +kernel
theorem dX2_copy_46 : decode cX2_copy 46 = .ok (.aload_n 0, 1) := by decide +kernel
theorem dX2_copy_47 : decode cX2_copy 47 = .ok (.iload_n 2, 1) := by decide +kernel
theorem dX2_copy_48 : decode cX2_copy 48 = .ok (.putfield 21, 3) := by decide +kernel
theorem dX2_copy_51 : decode cX2_copy 51 = .ok (.return_, 1) := by decide +kernel
theorem dX2_putRow_0 : decode cX2_putRow 0 = .ok (.aload_n 0, 1) := by decide +kernel
theorem dX2_putRow_1 : decode cX2_putRow 1 = .ok (.aload_n 1, 1) := by decide +kernel
theorem dX2_putRow_2 : decode cX2_putRow 2 = .ok (.iconst 0, 1) := by decide +kernel
theorem dX2_putRow_3 : decode cX2_putRow 3 = .ok (.aload_n 1, 1) := by decide +kernel
theorem dX2_putRow_4 : decode cX2_putRow 4 = .ok (.getfield 21, 3) := by decide +kernel
theorem dX2_putRow_7 : decode cX2_putRow 7 = .ok (.invokevirtual 35, 3) := by decide +kernel
theorem dX2_putRow_10 : decode cX2_putRow 10 = .ok (.return_, 1) := by decide +kernel
theorem dX2_putPart_0 : decode cX2_putPart 0 = .ok (.iload_n 2, 1) := by decide +kernel
theorem dX2_putPart_1 : decode cX2_putPart 1 = .ok (.istore 4, 2) := by decide +kernel
theorem dX2_putPart_3 : decode cX2_putPart 3 = .ok (.iload 4, 2) := by decide +kernel
theorem dX2_putPart_5 : decode cX2_putPart 5 = .ok (.iload_n 3, 1) := by decide +kernel
theorem dX2_putPart_6 : decode cX2_putPart 6 = .ok (.if_icmp .ge 19, 3) := by decide +kernel
theorem dX2_putPart_9 : decode cX2_putPart 9 = .ok (.aload_n 0, 1) := by decide +kernel
theorem dX2_putPart_10 : decode cX2_putPart 10 = .ok (.aload_n 1, 1) := by decide +kernel
theorem dX2_putPart_11 : decode cX2_putPart 11 = .ok (.iload 4, 2) := by decide +kernel
theorem dX2_putPart_13 : decode cX2_putPart 13 = .ok (.invokevirtual 25, 3) := by decide +kernel
theorem dX2_putPart_16 : decode cX2_putPart 16 = .ok (.invokevirtual 39, 3) := by decide +kernel
theorem dX2_putPart_19 : decode cX2_putPart 19 = .ok (.iinc 4 1, 3) := by decide +kernel
theorem dX2_putPart_22 : decode cX2_putPart 22 = .ok (.goto (-19), 3) := by decide +kernel
theorem dX2_putPart_25 : decode cX2_putPart 25 = .ok (.return_, 1) := by decide +kernel
theorem dX2_putInverse_0 : decode cX2_putInverse 0 = .ok (.aload_n 1, 1) := by decide +kernel
theorem dX2_putInverse_1 : decode cX2_putInverse 1 = .ok (.getfield 21, 3) := by decide +kernel
theorem dX2_putInverse_4 : decode cX2_putInverse 4 = .ok (.iconst 1, 1) := by decide +kernel
theorem dX2_putInverse_5 : decode cX2_putInverse 5 = .ok (.isub, 1) := by decide +kernel
theorem dX2_putInverse_6 : decode cX2_putInverse 6 = .ok (.istore_n 2, 1) := by decide +kernel
theorem dX2_putInverse_7 : decode cX2_putInverse 7 = .ok (.iload_n 2, 1) := by decide +kernel
theorem dX2_putInverse_8 : decode cX2_putInverse 8 = .ok (.ifCond .lt 21, 3) := by decide +kernel
theorem dX2_putInverse_11 : decode cX2_putInverse 11 = .ok (.aload_n 0, 1) := by decide +kernel
theorem dX2_putInverse_12 : decode cX2_putInverse 12 = .ok (.aload_n 1, 1) := by decide +kernel
theorem dX2_putInverse_13 : decode cX2_putInverse 13 = .ok (.iload_n 2, 1) := by decide +kernel
theorem dX2_putInverse_14 : decode cX2_putInverse 14 = .ok (.invokevirtual 25, 3) := by decide +kernel
theorem dX2_putInverse_17 : decode cX2_putInverse 17 = .ok (.invokestatic 29, 3) := by decide +kernel
theorem dX2_putInverse_20 : decode cX2_putInverse 20 = .ok (.invokevirtual 39, 3) := by decide +kernel
theorem dX2_putInverse_23 : decode cX2_putInverse 23 = .ok (.iinc 2 (-1), 3) := by decide +kernel
theorem dX2_putInverse_26 : decode cX2_putInverse 26 = .ok (.goto (-19), 3) := by decide +kernel
theorem dX2_putInverse_29 : decode cX2_putInverse 29 = .ok (.return_, 1) := by decide +kernel
theorem dX2_putTurn_0 : decode cX2_putTurn 0 = .ok (.aload_n 0, 1) := by decide +kernel
theorem dX2_putTurn_1 : decode cX2_putTurn 1 = .ok (.aload_n 1, 1) := by decide +kernel
theorem dX2_putTurn_2 : decode cX2_putTurn 2 = .ok (.iload_n 2, 1) := by decide +kernel
theorem dX2_putTurn_3 : decode cX2_putTurn 3 = .ok (.aload_n 1, 1) := by decide +kernel
theorem dX2_putTurn_4 : decode cX2_putTurn 4 = .ok (.getfield 21, 3) := by decide +kernel
theorem dX2_putTurn_7 : decode cX2_putTurn 7 = .ok (.invokevirtual 35, 3) := by decide +kernel
theorem dX2_putTurn_10 : decode cX2_putTurn 10 = .ok (.aload_n 0, 1) := by decide +kernel
theorem dX2_putTurn_11 : decode cX2_putTurn 11 = .ok (.aload_n 1, 1) := by decide +kernel
theorem dX2_putTurn_12 : decode cX2_putTurn 12 = .ok (.iconst 0, 1) := by decide +kernel
theorem dX2_putTurn_13 : decode cX2_putTurn 13 = .ok (.iload_n 2, 1) := by decide +kernel
theorem dX2_putTurn_14 : decode cX2_putTurn 14 = .ok (.aload_n 1, 1) := by decide +kernel
theorem dX2_putTurn_15 : decode cX2_putTurn 15 = .ok (.getfield 21, 3) := by decide +kernel
theorem dX2_putTurn_18 : decode cX2_putTurn 18 = .ok (.invokestatic 32, 3) := by decide +kernel
theorem dX2_putTurn_21 : decode cX2_putTurn 21 = .ok (.invokevirtual 35, 3) := by decide +kernel
theorem dX2_putTurn_24 : decode cX2_putTurn 24 = .ok (.return_, 1) := by decide +kernel
theorem dX2_cutToRing_0 : decode cX2_cutToRing 0 = .ok (.iconst 0, 1) := by decide +kernel
theorem dX2_cutToRing_1 : decode cX2_cutToRing 1 = .ok (.istore_n 1, 1) := by decide +kernel
theorem dX2_cutToRing_2 : decode cX2_cutToRing 2 = .ok (.iconst 2, 1) := by decide +kernel
theorem dX2_cutToRing_3 : decode cX2_cutToRing 3 = .ok (.iload_n 1, 1) := by decide +kernel
theorem dX2_cutToRing_4 : decode cX2_cutToRing 4 = .ok (.imul, 1) := by decide +kernel
theorem dX2_cutToRing_5 : decode cX2_cutToRing 5 = .ok (.iconst 1, 1) := by decide +kernel
theorem dX2_cutToRing_6 : decode cX2_cutToRing 6 = .ok (.iadd, 1) := by decide +kernel
theorem dX2_cutToRing_7 : decode cX2_cutToRing 7 = .ok (.aload_n 0, 1) := by decide +kernel
theorem dX2_cutToRing_8 : decode cX2_cutToRing 8 = .ok (.getfield 21, 3) := by decide +kernel
theorem dX2_cutToRing_11 : decode cX2_cutToRing 11 = .ok (.if_icmp .ge 32, 3) := by decide +kernel
theorem dX2_cutToRing_14 : decode cX2_cutToRing 14 = .ok (.aload_n 0, 1) := by decide +kernel
theorem dX2_cutToRing_15 : decode cX2_cutToRing 15 = .ok (.iload_n 1, 1) := by decide +kernel
theorem dX2_cutToRing_16 : decode cX2_cutToRing 16 = .ok (.invokevirtual 25, 3) := by decide +kernel
theorem dX2_cutToRing_19 : decode cX2_cutToRing 19 = .ok (.aload_n 0, 1) := by decide +kernel
theorem dX2_cutToRing_20 : decode cX2_cutToRing 20 = .ok (.aload_n 0, 1) := by decide +kernel
theorem dX2_cutToRing_21 : decode cX2_cutToRing 21 = .ok (.getfield 21, 3) := by decide +kernel
theorem dX2_cutToRing_24 : decode cX2_cutToRing 24 = .ok (.iconst 1, 1) := by decide +kernel
theorem dX2_cutToRing_25 : decode cX2_cutToRing 25 = .ok (.isub, 1) := by decide +kernel
theorem dX2_cutToRing_26 : decode cX2_cutToRing 26 = .ok (.iload_n 1, 1) := by decide +kernel
theorem dX2_cutToRing_27 : decode cX2_cutToRing 27 = .ok (.isub, 1) := by decide +kernel
theorem dX2_cutToRing_28 : decode cX2_cutToRing 28 = .ok (.invokevirtual 25, 3) := by decide +kernel
theorem dX2_cutToRing_31 : decode cX2_cutToRing 31 = .ok (.invokestatic 29, 3) := by decide +kernel
theorem dX2_cutToRing_34 : decode cX2_cutToRing 34 = .ok (.if_icmp .ne 9, 3) := by decide +kernel
theorem dX2_cutToRing_37 : decode cX2_cutToRing 37 = .ok (.iinc 1 1, 3) := by decide +kernel
theorem dX2_cutToRing_40 : decode cX2_cutToRing 40 = .ok (.goto (-38), 3) := by decide +kernel
theorem dX2_cutToRing_43 : decode cX2_cutToRing 43 = .ok (.aload_n 0, 1) := by decide +kernel
theorem dX2_cutToRing_44 : decode cX2_cutToRing 44 = .ok (.getfield 21, 3) := by decide +kernel
theorem dX2_cutToRing_47 : decode cX2_cutToRing 47 = .ok (.iconst 2, 1) := by decide +kernel
theorem dX2_cutToRing_48 : decode cX2_cutToRing 48 = .ok (.iload_n 1, 1) := by decide +kernel
theorem dX2_cutToRing_49 : decode cX2_cutToRing 49 = .ok (.imul, 1) := by decide +kernel
theorem dX2_cutToRing_50 : decode cX2_cutToRing 50 = .ok (.isub, 1) := by decide +kernel
theorem dX2_cutToRing_51 : decode cX2_cutToRing 51 = .ok (.istore_n 2, 1) := by decide +kernel
theorem dX2_cutToRing_52 : decode cX2_cutToRing 52 = .ok (.iconst 0, 1) := by decide +kernel
theorem dX2_cutToRing_53 : decode cX2_cutToRing 53 = .ok (.istore_n 3, 1) := by decide +kernel
theorem dX2_cutToRing_54 : decode cX2_cutToRing 54 = .ok (.iload_n 3, 1) := by decide +kernel
theorem dX2_cutToRing_55 : decode cX2_cutToRing 55 = .ok (.iload_n 2, 1) := by decide +kernel
theorem dX2_cutToRing_56 : decode cX2_cutToRing 56 = .ok (.if_icmp .ge 34, 3) := by decide +kernel
theorem dX2_cutToRing_59 : decode cX2_cutToRing 59 = .ok (.iload_n 3, 1) := by decide +kernel
theorem dX2_cutToRing_60 : decode cX2_cutToRing 60 = .ok (.iload_n 1, 1) := by decide +kernel
theorem dX2_cutToRing_61 : decode cX2_cutToRing 61 = .ok (.iadd, 1) := by decide +kernel
theorem dX2_cutToRing_62 : decode cX2_cutToRing 62 = .ok (.aload_n 0, 1) := by decide +kernel
theorem dX2_cutToRing_63 : decode cX2_cutToRing 63 = .ok (.getfield 15, 3) := by decide +kernel
theorem dX2_cutToRing_66 : decode cX2_cutToRing 66 = .ok (.arraylength, 1) := by decide +kernel
theorem dX2_cutToRing_67 : decode cX2_cutToRing 67 = .ok (.if_icmp .ge 23, 3) := by decide +kernel
theorem dX2_cutToRing_70 : decode cX2_cutToRing 70 = .ok (.aload_n 0, 1) := by decide +kernel
theorem dX2_cutToRing_71 : decode cX2_cutToRing 71 = .ok (.getfield 15, 3) := by decide +kernel
theorem dX2_cutToRing_74 : decode cX2_cutToRing 74 = .ok (.iload_n 3, 1) := by decide +kernel
theorem dX2_cutToRing_75 : decode cX2_cutToRing 75 = .ok (.aload_n 0, 1) := by decide +kernel
theorem dX2_cutToRing_76 : decode cX2_cutToRing 76 = .ok (.getfield 15, 3) := by decide +kernel
theorem dX2_cutToRing_79 : decode cX2_cutToRing 79 = .ok (.iload_n 3, 1) := by decide +kernel
theorem dX2_cutToRing_80 : decode cX2_cutToRing 80 = .ok (.iload_n 1, 1) := by decide +kernel
theorem dX2_cutToRing_81 : decode cX2_cutToRing 81 = .ok (.iadd, 1) := by decide +kernel
theorem dX2_cutToRing_82 : decode cX2_cutToRing 82 = .ok (.iaload, 1) := by decide +kernel
theorem dX2_cutToRing_83 : decode cX2_cutToRing 83 = .ok (.iastore, 1) := by decide +kernel
theorem dX2_cutToRing_84 : decode cX2_cutToRing 84 = .ok (.iinc 3 1, 3) := by decide +kernel
theorem dX2_cutToRing_87 : decode cX2_cutToRing 87 = .ok (.goto (-33), 3) := by decide +kernel
theorem dX2_cutToRing_90 : decode cX2_cutToRing 90 = .ok (.aload_n 0, 1) := by decide +kernel
theorem dX2_cutToRing_91 : decode cX2_cutToRing 91 = .ok (.iload_n 2, 1) := by decide +kernel
theorem dX2_cutToRing_92 : decode cX2_cutToRing 92 = .ok (.putfield 21, 3) := by decide +kernel
theorem dX2_cutToRing_95 : decode cX2_cutToRing 95 = .ok (.return_, 1) := by decide +kernel
theorem dX2_likeFrom_0 : decode cX2_likeFrom 0 = .ok (.iload_n 1, 1) := by decide +kernel
theorem dX2_likeFrom_1 : decode cX2_likeFrom 1 = .ok (.ifCond .ge 5, 3) := by decide +kernel
theorem dX2_likeFrom_4 : decode cX2_likeFrom 4 = .ok (.iconst 0, 1) := by decide +kernel
theorem dX2_likeFrom_5 : decode cX2_likeFrom 5 = .ok (.ireturn, 1) := by decide +kernel
theorem dX2_likeFrom_6 : decode cX2_likeFrom 6 = .ok (.aload_n 0, 1) := by decide +kernel
theorem dX2_likeFrom_7 : decode cX2_likeFrom 7 = .ok (.getfield 21, 3) := by decide +kernel
theorem dX2_likeFrom_10 : decode cX2_likeFrom 10 = .ok (.iload_n 1, 1) := by decide +kernel
theorem dX2_likeFrom_11 : decode cX2_likeFrom 11 = .ok (.isub, 1) := by decide +kernel
theorem dX2_likeFrom_12 : decode cX2_likeFrom 12 = .ok (.aload_n 2, 1) := by decide +kernel
theorem dX2_likeFrom_13 : decode cX2_likeFrom 13 = .ok (.getfield 21, 3) := by decide +kernel
theorem dX2_likeFrom_16 : decode cX2_likeFrom 16 = .ok (.invokestatic 32, 3) := by decide +kernel
theorem dX2_likeFrom_19 : decode cX2_likeFrom 19 = .ok (.istore_n 3, 1) := by decide +kernel
theorem dX2_likeFrom_20 : decode cX2_likeFrom 20 = .ok (.iconst 0, 1) := by decide +kernel
theorem dX2_likeFrom_21 : decode cX2_likeFrom 21 = .ok (.istore 4, 2) := by decide +kernel
theorem dX2_likeFrom_23 : decode cX2_likeFrom 23 = .ok (.iload 4, 2) := by decide +kernel
theorem dX2_likeFrom_25 : decode cX2_likeFrom 25 = .ok (.iload_n 3, 1) := by decide +kernel
theorem dX2_likeFrom_26 : decode cX2_likeFrom 26 = .ok (.if_icmp .ge 26, 3) := by decide +kernel
theorem dX2_likeFrom_29 : decode cX2_likeFrom 29 = .ok (.aload_n 0, 1) := by decide +kernel
theorem dX2_likeFrom_30 : decode cX2_likeFrom 30 = .ok (.iload_n 1, 1) := by decide +kernel
theorem dX2_likeFrom_31 : decode cX2_likeFrom 31 = .ok (.iload 4, 2) := by decide +kernel
theorem dX2_likeFrom_33 : decode cX2_likeFrom 33 = .ok (.iadd, 1) := by decide +kernel
theorem dX2_likeFrom_34 : decode cX2_likeFrom 34 = .ok (.invokevirtual 25, 3) := by decide +kernel
theorem dX2_likeFrom_37 : decode cX2_likeFrom 37 = .ok (.aload_n 2, 1) := by decide +kernel
theorem dX2_likeFrom_38 : decode cX2_likeFrom 38 = .ok (.iload 4, 2) := by decide +kernel
theorem dX2_likeFrom_40 : decode cX2_likeFrom 40 = .ok (.invokevirtual 25, 3) := by decide +kernel
theorem dX2_likeFrom_43 : decode cX2_likeFrom 43 = .ok (.if_icmp .ne 9, 3) := by decide +kernel
theorem dX2_likeFrom_46 : decode cX2_likeFrom 46 = .ok (.iinc 4 1, 3) := by decide +kernel
theorem dX2_likeFrom_49 : decode cX2_likeFrom 49 = .ok (.goto (-26), 3) := by decide +kernel
theorem dX2_likeFrom_52 : decode cX2_likeFrom 52 = .ok (.iload 4, 2) := by decide +kernel
theorem dX2_likeFrom_54 : decode cX2_likeFrom 54 = .ok (.ireturn, 1) := by decide +kernel
theorem dX2_surplusOf_0 : decode cX2_surplusOf 0 = .ok (.iconst 0, 1) := by decide +kernel
theorem dX2_surplusOf_1 : decode cX2_surplusOf 1 = .ok (.istore_n 2, 1) := by decide +kernel
theorem dX2_surplusOf_2 : decode cX2_surplusOf 2 = .ok (.iconst 0, 1) := by decide +kernel
theorem dX2_surplusOf_3 : decode cX2_surplusOf 3 = .ok (.istore_n 3, 1) := by decide +kernel
theorem dX2_surplusOf_4 : decode cX2_surplusOf 4 = .ok (.iload_n 3, 1) := by decide +kernel
theorem dX2_surplusOf_5 : decode cX2_surplusOf 5 = .ok (.aload_n 0, 1) := by decide +kernel
theorem dX2_surplusOf_6 : decode cX2_surplusOf 6 = .ok (.getfield 21, 3) := by decide +kernel
theorem dX2_surplusOf_9 : decode cX2_surplusOf 9 = .ok (.if_icmp .ge 39, 3) := by decide +kernel
theorem dX2_surplusOf_12 : decode cX2_surplusOf 12 = .ok (.aload_n 0, 1) := by decide +kernel
theorem dX2_surplusOf_13 : decode cX2_surplusOf 13 = .ok (.iload_n 3, 1) := by decide +kernel
theorem dX2_surplusOf_14 : decode cX2_surplusOf 14 = .ok (.invokevirtual 25, 3) := by decide +kernel
theorem dX2_surplusOf_17 : decode cX2_surplusOf 17 = .ok (.iload_n 1, 1) := by decide +kernel
theorem dX2_surplusOf_18 : decode cX2_surplusOf 18 = .ok (.if_icmp .ne 9, 3) := by decide +kernel
theorem dX2_surplusOf_21 : decode cX2_surplusOf 21 = .ok (.iinc 2 1, 3) := by decide +kernel
theorem dX2_surplusOf_24 : decode cX2_surplusOf 24 = .ok (.goto 18, 3) := by decide +kernel
theorem dX2_surplusOf_27 : decode cX2_surplusOf 27 = .ok (.aload_n 0, 1) := by decide +kernel
theorem dX2_surplusOf_28 : decode cX2_surplusOf 28 = .ok (.iload_n 3, 1) := by decide +kernel
theorem dX2_surplusOf_29 : decode cX2_surplusOf 29 = .ok (.invokevirtual 25, 3) := by decide +kernel
theorem dX2_surplusOf_32 : decode cX2_surplusOf 32 = .ok (.iload_n 1, 1) := by decide +kernel
theorem dX2_surplusOf_33 : decode cX2_surplusOf 33 = .ok (.invokestatic 29, 3) := by decide +kernel
theorem dX2_surplusOf_36 : decode cX2_surplusOf 36 = .ok (.if_icmp .ne 6, 3) := by decide +kernel
theorem dX2_surplusOf_39 : decode cX2_surplusOf 39 = .ok (.iinc 2 (-1), 3) := by decide +kernel
theorem dX2_surplusOf_42 : decode cX2_surplusOf 42 = .ok (.iinc 3 1, 3) := by decide +kernel
theorem dX2_surplusOf_45 : decode cX2_surplusOf 45 = .ok (.goto (-41), 3) := by decide +kernel
theorem dX2_surplusOf_48 : decode cX2_surplusOf 48 = .ok (.iload_n 2, 1) := by decide +kernel
theorem dX2_surplusOf_49 : decode cX2_surplusOf 49 = .ok (.ireturn, 1) := by decide +kernel
theorem dX4_init_0 : decode cX4_init 0 = .ok (.aload_n 0, 1) := by decide +kernel
theorem dX4_init_1 : decode cX4_init 1 = .ok (.invokespecial 3, 3) := by decide +kernel
theorem dX4_init_4 : decode cX4_init 4 = .ok (.aload_n 0, 1) := by decide +kernel
theorem dX4_init_5 : decode cX4_init 5 = .ok (.bipush 100, 2) := by decide +kernel
theorem dX4_init_7 : decode cX4_init 7 = .ok (.newarray .int, 2) := by decide +kernel
theorem dX4_init_9 : decode cX4_init 9 = .ok (.putfield 9, 3) := by decide +kernel
theorem dX4_init_12 : decode cX4_init 12 = .ok (.return_, 1) := by decide +kernel
theorem dX4_accept_0 : decode cX4_accept 0 = .ok (.aload_n 0, 1) := by decide +kernel
theorem dX4_accept_1 : decode cX4_accept 1 = .ok (.getfield 15, 3) := by decide +kernel
theorem dX4_accept_4 : decode cX4_accept 4 = .ok (.aload_n 0, 1) := by decide +kernel
theorem dX4_accept_5 : decode cX4_accept 5 = .ok (.getfield 9, 3) := by decide +kernel
theorem dX4_accept_8 : decode cX4_accept 8 = .ok (.arraylength, 1) := by decide +kernel
theorem dX4_accept_9 : decode cX4_accept 9 = .ok (.if_icmp .lt 5, 3) := by decide +kernel
theorem dX4_accept_12 : decode cX4_accept 12 = .ok (.iconst 0, 1) := by decide +kernel
theorem dX4_accept_13 : decode cX4_accept 13 = .ok (.ireturn, 1) := by decide +kernel
theorem dX4_accept_14 : decode cX4_accept 14 = .ok (.aload_n 0, 1) := by decide +kernel
theorem dX4_accept_15 : decode cX4_accept 15 = .ok (.getfield 9, 3) := by decide +kernel
theorem dX4_accept_18 : decode cX4_accept 18 = .ok (.aload_n 0, 1) := by decide +kernel
theorem dX4_accept_19 : decode cX4_accept 19 = .ok (.getfield 15, 3) := by decide +kernel
theorem dX4_accept_22 : decode cX4_accept 22 = .ok (.iload_n 1, 1) := by decide +kernel
theorem dX4_accept_23 : decode cX4_accept 23 = .ok (.iastore, 1) := by decide +kernel
theorem dX4_accept_24 : decode cX4_accept 24 = .ok (.aload_n 0, 1) := by decide +kernel
theorem dX4_accept_25 : decode cX4_accept 25 = .ok (.dup, 1) := by decide +kernel
theorem dX4_accept_26 : decode cX4_accept 26 = .ok (.getfield 15, 3) := by decide +kernel
theorem dX4_accept_29 : decode cX4_accept 29 = .ok (.iconst 1, 1) := by decide +kernel
theorem dX4_accept_30 : decode cX4_accept 30 = .ok (.iadd, 1) := by decide +kernel
theorem dX4_accept_31 : decode cX4_accept 31 = .ok (.putfield 15, 3) := by decide +kernel
theorem dX4_accept_34 : decode cX4_accept 34 = .ok (.iconst 1, 1) := by decide +kernel
theorem dX4_accept_35 : decode cX4_accept 35 = .ok (.ireturn, 1) := by decide +kernel
theorem dX4_byteAt_0 : decode cX4_byteAt 0 = .ok (.iload_n 1, 1) := by decide +kernel
theorem dX4_byteAt_1 : decode cX4_byteAt 1 = .ok (.ifCond .lt 29, 3) := by decide +kernel
theorem dX4_byteAt_4 : decode cX4_byteAt 4 = .ok (.iload_n 1, 1) := by decide +kernel
theorem dX4_byteAt_5 : decode cX4_byteAt 5 = .ok (.aload_n 0, 1) := by decide +kernel
theorem dX4_byteAt_6 : decode cX4_byteAt 6 = .ok (.getfield 15, 3) := by decide +kernel
theorem dX4_byteAt_9 : decode cX4_byteAt 9 = .ok (.if_icmp .ge 21, 3) := by decide +kernel
theorem dX4_byteAt_12 : decode cX4_byteAt 12 = .ok (.iload_n 1, 1) := by decide +kernel
theorem dX4_byteAt_13 : decode cX4_byteAt 13 = .ok (.aload_n 0, 1) := by decide +kernel
theorem dX4_byteAt_14 : decode cX4_byteAt 14 = .ok (.getfield 9, 3) := by decide +kernel
theorem dX4_byteAt_17 : decode cX4_byteAt 17 = .ok (.arraylength, 1) := by decide +kernel
theorem dX4_byteAt_18 : decode cX4_byteAt 18 = .ok (.if_icmp .ge 12, 3) := by decide +kernel
theorem dX4_byteAt_21 : decode cX4_byteAt 21 = .ok (.aload_n 0, 1) := by decide +kernel
theorem dX4_byteAt_22 : decode cX4_byteAt 22 = .ok (.getfield 9, 3) := by decide +kernel
theorem dX4_byteAt_25 : decode cX4_byteAt 25 = .ok (.iload_n 1, 1) := by decide +kernel
theorem dX4_byteAt_26 : decode cX4_byteAt 26 = .ok (.iaload, 1) := by decide +kernel
theorem dX4_byteAt_27 : decode cX4_byteAt 27 = .ok (.goto 4, 3) := by decide +kernel
theorem dX4_byteAt_30 : decode cX4_byteAt 30 = .ok (.iconst (-1), 1) := by decide +kernel
theorem dX4_byteAt_31 : decode cX4_byteAt 31 = .ok (.ireturn, 1) := by decide +kernel
theorem dX4_wrongPlace_0 : decode cX4_wrongPlace 0 = .ok (.aload_n 0, 1) := by decide +kernel
theorem dX4_wrongPlace_1 : decode cX4_wrongPlace 1 = .ok (.iconst 0, 1) := by decide +kernel
theorem dX4_wrongPlace_2 : decode cX4_wrongPlace 2 = .ok (.putfield 19, 3) := by decide +kernel
theorem dX4_wrongPlace_5 : decode cX4_wrongPlace 5 = .ok (.aload_n 0, 1) := by decide +kernel
theorem dX4_wrongPlace_6 : decode cX4_wrongPlace 6 = .ok (.iconst 0, 1) := by decide +kernel
theorem dX4_wrongPlace_7 : decode cX4_wrongPlace 7 = .ok (.putfield 22, 3) := by decide +kernel
theorem dX4_wrongPlace_10 : decode cX4_wrongPlace 10 = .ok (.aload_n 0, 1) := by decide +kernel
theorem dX4_wrongPlace_11 : decode cX4_wrongPlace 11 = .ok (.iconst 0, 1) := by decide +kernel
theorem dX4_wrongPlace_12 : decode cX4_wrongPlace 12 = .ok (.putfield 26, 3) := by decide +kernel
theorem dX4_wrongPlace_15 : decode cX4_wrongPlace 15 = .ok (.aload_n 0, 1) := by decide +kernel
theorem dX4_wrongPlace_16 : decode cX4_wrongPlace 16 = .ok (.iconst 0, 1) := by decide +kernel
theorem dX4_wrongPlace_17 : decode cX4_wrongPlace 17 = .ok (.putfield 29, 3) := by decide +kernel
theorem dX4_wrongPlace_20 : decode cX4_wrongPlace 20 = .ok (.iconst 0, 1) := by decide +kernel
theorem dX4_wrongPlace_21 : decode cX4_wrongPlace 21 = .ok (.istore_n 1, 1) := by decide +kernel
theorem dX4_wrongPlace_22 : decode cX4_wrongPlace 22 = .ok (.iload_n 1, 1) := by decide +kernel
theorem dX4_wrongPlace_23 : decode cX4_wrongPlace 23 = .ok (.aload_n 0, 1) := by decide +kernel
theorem dX4_wrongPlace_24 : decode cX4_wrongPlace 24 = .ok (.getfield 15, 3) := by decide +kernel
theorem dX4_wrongPlace_27 : decode cX4_wrongPlace 27 = .ok (.if_icmp .ge 23, 3) := by decide +kernel
theorem dX4_wrongPlace_30 : decode cX4_wrongPlace 30 = .ok (.aload_n 0, 1) := by decide +kernel
theorem dX4_wrongPlace_31 : decode cX4_wrongPlace 31 = .ok (.aload_n 0, 1) := by decide +kernel
theorem dX4_wrongPlace_32 : decode cX4_wrongPlace 32 = .ok (.iload_n 1, 1) := by decide +kernel
theorem dX4_wrongPlace_33 : decode cX4_wrongPlace 33 = .ok (.invokevirtual 32, 3) := by decide +kernel
theorem dX4_wrongPlace_36 : decode cX4_wrongPlace 36 = .ok (.invokevirtual 36, 3) := by decide +kernel
theorem dX4_wrongPlace_39 : decode cX4_wrongPlace 39 = .ok (.ifCond .ne 5, 3) := by decide +kernel
theorem dX4_wrongPlace_42 : decode cX4_wrongPlace 42 = .ok (.iload_n 1, 1) := by decide +kernel
theorem dX4_wrongPlace_43 : decode cX4_wrongPlace 43 = .ok (.ireturn, 1) := by decide +kernel
theorem dX4_wrongPlace_44 : decode cX4_wrongPlace 44 = .ok (.iinc 1 1, 3) := by decide +kernel
theorem dX4_wrongPlace_47 : decode cX4_wrongPlace 47 = .ok (.goto (-25), 3) := by decide +kernel
theorem dX4_wrongPlace_50 : decode cX4_wrongPlace 50 = .ok (.aload_n 0, 1) := by decide +kernel
theorem dX4_wrongPlace_51 : decode cX4_wrongPlace 51 = .ok (.getfield 29, 3) := by decide +kernel
theorem dX4_wrongPlace_54 : decode cX4_wrongPlace 54 = .ok (.ifCond .eq 21, 3) := by decide +kernel
theorem dX4_wrongPlace_57 : decode cX4_wrongPlace 57 = .ok (.aload_n 0, 1) := by decide +kernel
theorem dX4_wrongPlace_58 : decode cX4_wrongPlace 58 = .ok (.getfield 19, 3) := by decide +kernel
theorem dX4_wrongPlace_61 : decode cX4_wrongPlace 61 = .ok (.ifCond .ne 14, 3) := by decide +kernel
theorem dX4_wrongPlace_64 : decode cX4_wrongPlace 64 = .ok (.aload_n 0, 1) := by decide +kernel
theorem dX4_wrongPlace_65 : decode cX4_wrongPlace 65 = .ok (.getfield 22, 3) := by decide +kernel
theorem dX4_wrongPlace_68 : decode cX4_wrongPlace 68 = .ok (.ifCond .ne 7, 3) := by decide +kernel
theorem dX4_wrongPlace_71 : decode cX4_wrongPlace 71 = .ok (.iconst (-1), 1) := by decide +kernel
theorem dX4_wrongPlace_72 : decode cX4_wrongPlace 72 = .ok (.goto 7, 3) := by decide +kernel
theorem dX4_wrongPlace_75 : decode cX4_wrongPlace 75 = .ok (.aload_n 0, 1) := by decide +kernel
theorem dX4_wrongPlace_76 : decode cX4_wrongPlace 76 = .ok (.getfield 15, 3) := by decide +kernel
theorem dX4_wrongPlace_79 : decode cX4_wrongPlace 79 = .ok (.ireturn, 1) := by decide +kernel
theorem dX4_standsNext_0 : decode cX4_standsNext 0 = .ok (.aload_n 0, 1) := by decide +kernel
theorem dX4_standsNext_1 : decode cX4_standsNext 1 = .ok (.getfield 26, 3) := by decide +kernel
theorem dX4_standsNext_4 : decode cX4_standsNext 4 = .ok (.istore_n 2, 1) := by decide +kernel
theorem dX4_standsNext_5 : decode cX4_standsNext 5 = .ok (.aload_n 0, 1) := by decide +kernel
theorem dX4_standsNext_6 : decode cX4_standsNext 6 = .ok (.iconst 0, 1) := by decide +kernel
theorem dX4_standsNext_7 : decode cX4_standsNext 7 = .ok (.putfield 26, 3) := by decide +kernel
theorem dX4_standsNext_10 : decode cX4_standsNext 10 = .ok (.iload_n 1, 1) := by decide +kernel
theorem dX4_standsNext_11 : decode cX4_standsNext 11 = .ok (.bipush 32, 2) := by decide +kernel
theorem dX4_standsNext_13 : decode cX4_standsNext 13 = .ok (.if_icmp .ne 5, 3) := by decide +kernel
theorem dX4_standsNext_16 : decode cX4_standsNext 16 = .ok (.iconst 1, 1) := by decide +kernel
theorem dX4_standsNext_17 : decode cX4_standsNext 17 = .ok (.ireturn, 1) := by decide +kernel
theorem dX4_standsNext_18 : decode cX4_standsNext 18 = .ok (.iload_n 1, 1) := by decide +kernel
theorem dX4_standsNext_19 : decode cX4_standsNext 19 = .ok (.invokestatic 40, 3) := by decide +kernel
theorem dX4_standsNext_22 : decode cX4_standsNext 22 = .ok (.iconst (-1), 1) := by decide +kernel
theorem dX4_standsNext_23 : decode cX4_standsNext 23 = .ok (.if_icmp .eq 5, 3) := by decide +kernel
theorem dX4_standsNext_26 : decode cX4_standsNext 26 = .ok (.iload_n 2, 1) := by decide +kernel
theorem dX4_standsNext_27 : decode cX4_standsNext 27 = .ok (.ireturn, 1) := by decide +kernel
theorem dX4_standsNext_28 : decode cX4_standsNext 28 = .ok (.iload_n 1, 1) := by decide +kernel
theorem dX4_standsNext_29 : decode cX4_standsNext 29 = .ok (.invokestatic 43, 3) := by decide +kernel
theorem dX4_standsNext_32 : decode cX4_standsNext 32 = .ok (.iconst (-1), 1) := by decide +kernel
theorem dX4_standsNext_33 : decode cX4_standsNext 33 = .ok (.if_icmp .eq 8, 3) := by decide +kernel
theorem dX4_standsNext_36 : decode cX4_standsNext 36 = .ok (.aload_n 0, 1) := by decide +kernel
theorem dX4_standsNext_37 : decode cX4_standsNext 37 = .ok (.invokevirtual 46, 3) := by decide +kernel
theorem dX4_standsNext_40 : decode cX4_standsNext 40 = .ok (.ireturn, 1) := by decide +kernel
theorem dX4_standsNext_41 : decode cX4_standsNext 41 = .ok (.iload_n 1, 1) := by decide +kernel
theorem dX4_standsNext_42 : decode cX4_standsNext 42 = .ok (.lookupswitch 49 #[(40, 34), (41, 39), (59, 44)], 34) := by decide +kernel
theorem dX4_standsNext_76 : decode cX4_standsNext 76 = .ok (.aload_n 0, 1) := by decide +kernel
theorem dX4_standsNext_77 : decode cX4_standsNext 77 = .ok (.invokevirtual 50, 3) := by decide +kernel
theorem dX4_standsNext_80 : decode cX4_standsNext 80 = .ok (.ireturn, 1) := by decide +kernel
theorem dX4_standsNext_81 : decode cX4_standsNext 81 = .ok (.aload_n 0, 1) := by decide +kernel
theorem dX4_standsNext_82 : decode cX4_standsNext 82 = .ok (.invokevirtual 53, 3) := by decide +kernel
theorem dX4_standsNext_85 : decode cX4_standsNext 85 = .ok (.ireturn, 1) := by decide +kernel
theorem dX4_standsNext_86 : decode cX4_standsNext 86 = .ok (.aload_n 0, 1) := by decide +kernel
theorem dX4_standsNext_87 : decode cX4_standsNext 87 = .ok (.invokevirtual 56, 3) := by decide +kernel
theorem dX4_standsNext_90 : decode cX4_standsNext 90 = .ok (.ireturn, 1) := by decide +kernel
theorem dX4_standsNext_91 : decode cX4_standsNext 91 = .ok (.iconst 0, 1) := by decide +kernel
theorem dX4_standsNext_92 : decode cX4_standsNext 92 = .ok (.ireturn, 1) := by decide +kernel
theorem dX4_factorEnds_0 : decode cX4_factorEnds 0 = .ok (.aload_n 0, 1) := by decide +kernel
theorem dX4_factorEnds_1 : decode cX4_factorEnds 1 = .ok (.iconst 1, 1) := by decide +kernel
theorem dX4_factorEnds_2 : decode cX4_factorEnds 2 = .ok (.putfield 22, 3) := by decide +kernel
theorem dX4_factorEnds_5 : decode cX4_factorEnds 5 = .ok (.aload_n 0, 1) := by decide +kernel
theorem dX4_factorEnds_6 : decode cX4_factorEnds 6 = .ok (.iconst 1, 1) := by decide +kernel
theorem dX4_factorEnds_7 : decode cX4_factorEnds 7 = .ok (.putfield 26, 3) := by decide +kernel
theorem dX4_factorEnds_10 : decode cX4_factorEnds 10 = .ok (.iconst 1, 1) := by decide +kernel
theorem dX4_factorEnds_11 : decode cX4_factorEnds 11 = .ok (.ireturn, 1) := by decide +kernel
theorem dX4_bracketOpens_0 : decode cX4_bracketOpens 0 = .ok (.aload_n 0, 1) := by decide +kernel
theorem dX4_bracketOpens_1 : decode cX4_bracketOpens 1 = .ok (.getfield 19, 3) := by decide +kernel
theorem dX4_bracketOpens_4 : decode cX4_bracketOpens 4 = .ok (.iconst 4, 1) := by decide +kernel
theorem dX4_bracketOpens_5 : decode cX4_bracketOpens 5 = .ok (.if_icmp .lt 5, 3) := by decide +kernel
theorem dX4_bracketOpens_8 : decode cX4_bracketOpens 8 = .ok (.iconst 0, 1) := by decide +kernel
theorem dX4_bracketOpens_9 : decode cX4_bracketOpens 9 = .ok (.ireturn, 1) := by decide +kernel
theorem dX4_bracketOpens_10 : decode cX4_bracketOpens 10 = .ok (.aload_n 0, 1) := by decide +kernel
theorem dX4_bracketOpens_11 : decode cX4_bracketOpens 11 = .ok (.dup, 1) := by decide +kernel
theorem dX4_bracketOpens_12 : decode cX4_bracketOpens 12 = .ok (.getfield 19, 3) := by decide +kernel
theorem dX4_bracketOpens_15 : decode cX4_bracketOpens 15 = .ok (.iconst 1, 1) := by decide +kernel
theorem dX4_bracketOpens_16 : decode cX4_bracketOpens 16 = .ok (.iadd, 1) := by decide +kernel
theorem dX4_bracketOpens_17 : decode cX4_bracketOpens 17 = .ok (.putfield 19, 3) := by decide +kernel
theorem dX4_bracketOpens_20 : decode cX4_bracketOpens 20 = .ok (.aload_n 0, 1) := by decide +kernel
theorem dX4_bracketOpens_21 : decode cX4_bracketOpens 21 = .ok (.iconst 0, 1) := by decide +kernel
theorem dX4_bracketOpens_22 : decode cX4_bracketOpens 22 = .ok (.putfield 22, 3) := by decide +kernel
theorem dX4_bracketOpens_25 : decode cX4_bracketOpens 25 = .ok (.iconst 1, 1) := by decide +kernel
theorem dX4_bracketOpens_26 : decode cX4_bracketOpens 26 = .ok (.ireturn, 1) := by decide +kernel
theorem dX4_bracketCloses_0 : decode cX4_bracketCloses 0 = .ok (.aload_n 0, 1) := by decide +kernel
theorem dX4_bracketCloses_1 : decode cX4_bracketCloses 1 = .ok (.getfield 19, 3) := by decide +kernel
theorem dX4_bracketCloses_4 : decode cX4_bracketCloses 4 = .ok (.ifCond .eq 10, 3) := by decide +kernel
theorem dX4_bracketCloses_7 : decode cX4_bracketCloses 7 = .ok (.aload_n 0, 1) := by decide +kernel
theorem dX4_bracketCloses_8 : decode cX4_bracketCloses 8 = .ok (.getfield 22, 3) := by decide +kernel
theorem dX4_bracketCloses_11 : decode cX4_bracketCloses 11 = .ok (.ifCond .ne 5, 3) := by decide +kernel
theorem dX4_bracketCloses_14 : decode cX4_bracketCloses 14 = .ok (.iconst 0, 1) := by decide +kernel
theorem dX4_bracketCloses_15 : decode cX4_bracketCloses 15 = .ok (.ireturn, 1) := by decide +kernel
theorem dX4_bracketCloses_16 : decode cX4_bracketCloses 16 = .ok (.aload_n 0, 1) := by decide +kernel
theorem dX4_bracketCloses_17 : decode cX4_bracketCloses 17 = .ok (.dup, 1) := by decide +kernel
theorem dX4_bracketCloses_18 : decode cX4_bracketCloses 18 = .ok (.getfield 19, 3) := by decide +kernel
theorem dX4_bracketCloses_21 : decode cX4_bracketCloses 21 = .ok (.iconst 1, 1) := by decide +kernel
theorem dX4_bracketCloses_22 : decode cX4_bracketCloses 22 = .ok (.isub, 1) := by decide +kernel
theorem dX4_bracketCloses_23 : decode cX4_bracketCloses 23 = .ok (.putfield 19, 3) := by decide +kernel
theorem dX4_bracketCloses_26 : decode cX4_bracketCloses 26 = .ok (.aload_n 0, 1) := by decide +kernel
theorem dX4_bracketCloses_27 : decode cX4_bracketCloses 27 = .ok (.invokevirtual 46, 3) := by decide +kernel
theorem dX4_bracketCloses_30 : decode cX4_bracketCloses 30 = .ok (.ireturn, 1) := by decide +kernel
theorem dX4_wordEnds_0 : decode cX4_wordEnds 0 = .ok (.aload_n 0, 1) := by decide +kernel
theorem dX4_wordEnds_1 : decode cX4_wordEnds 1 = .ok (.getfield 19, 3) := by decide +kernel
theorem dX4_wordEnds_4 : decode cX4_wordEnds 4 = .ok (.ifCond .gt 10, 3) := by decide +kernel
theorem dX4_wordEnds_7 : decode cX4_wordEnds 7 = .ok (.aload_n 0, 1) := by decide +kernel
theorem dX4_wordEnds_8 : decode cX4_wordEnds 8 = .ok (.getfield 22, 3) := by decide +kernel
theorem dX4_wordEnds_11 : decode cX4_wordEnds 11 = .ok (.ifCond .ne 5, 3) := by decide +kernel
theorem dX4_wordEnds_14 : decode cX4_wordEnds 14 = .ok (.iconst 0, 1) := by decide +kernel
theorem dX4_wordEnds_15 : decode cX4_wordEnds 15 = .ok (.ireturn, 1) := by decide +kernel
theorem dX4_wordEnds_16 : decode cX4_wordEnds 16 = .ok (.aload_n 0, 1) := by decide +kernel
theorem dX4_wordEnds_17 : decode cX4_wordEnds 17 = .ok (.iconst 0, 1) := by decide +kernel
theorem dX4_wordEnds_18 : decode cX4_wordEnds 18 = .ok (.putfield 22, 3) := by decide +kernel
theorem dX4_wordEnds_21 : decode cX4_wordEnds 21 = .ok (.aload_n 0, 1) := by decide +kernel
theorem dX4_wordEnds_22 : decode cX4_wordEnds 22 = .ok (.iconst 1, 1) := by decide +kernel
theorem dX4_wordEnds_23 : decode cX4_wordEnds 23 = .ok (.putfield 29, 3) := by decide +kernel
theorem dX4_wordEnds_26 : decode cX4_wordEnds 26 = .ok (.iconst 1, 1) := by decide +kernel
theorem dX4_wordEnds_27 : decode cX4_wordEnds 27 = .ok (.ireturn, 1) := by decide +kernel
theorem dX4_letterFor_0 : decode cX4_letterFor 0 = .ok (.iload_n 0, 1) := by decide +kernel
theorem dX4_letterFor_1 : decode cX4_letterFor 1 = .ok (.bipush 97, 2) := by decide +kernel
theorem dX4_letterFor_3 : decode cX4_letterFor 3 = .ok (.if_icmp .lt 14, 3) := by decide +kernel
theorem dX4_letterFor_6 : decode cX4_letterFor 6 = .ok (.iload_n 0, 1) := by decide +kernel
theorem dX4_letterFor_7 : decode cX4_letterFor 7 = .ok (.bipush 100, 2) := by decide +kernel
theorem dX4_letterFor_9 : decode cX4_letterFor 9 = .ok (.if_icmp .gt 8, 3) := by decide +kernel
theorem dX4_letterFor_12 : decode cX4_letterFor 12 = .ok (.iload_n 0, 1) := by decide +kernel
theorem dX4_letterFor_13 : decode cX4_letterFor 13 = .ok (.bipush 97, 2) := by decide +kernel
theorem dX4_letterFor_15 : decode cX4_letterFor 15 = .ok (.isub, 1) := by decide +kernel
theorem dX4_letterFor_16 : decode cX4_letterFor 16 = .ok (.ireturn, 1) := by decide +kernel
theorem dX4_letterFor_17 : decode cX4_letterFor 17 = .ok (.iload_n 0, 1) := by decide +kernel
theorem dX4_letterFor_18 : decode cX4_letterFor 18 = .ok (.bipush 65, 2) := by decide +kernel
theorem dX4_letterFor_20 : decode cX4_letterFor 20 = .ok (.if_icmp .lt 18, 3) := by decide +kernel
theorem dX4_letterFor_23 : decode cX4_letterFor 23 = .ok (.iload_n 0, 1) := by decide +kernel
theorem dX4_letterFor_24 : decode cX4_letterFor 24 = .ok (.bipush 68, 2) := by decide +kernel
theorem dX4_letterFor_26 : decode cX4_letterFor 26 = .ok (.if_icmp .gt 12, 3) := by decide +kernel
theorem dX4_letterFor_29 : decode cX4_letterFor 29 = .ok (.iload_n 0, 1) := by decide +kernel
theorem dX4_letterFor_30 : decode cX4_letterFor 30 = .ok (.bipush 65, 2) := by decide +kernel
theorem dX4_letterFor_32 : decode cX4_letterFor 32 = .ok (.isub, 1) := by decide +kernel
theorem dX4_letterFor_33 : decode cX4_letterFor 33 = .ok (.iconst 4, 1) := by decide +kernel
theorem dX4_letterFor_34 : decode cX4_letterFor 34 = .ok (.iadd, 1) := by decide +kernel
theorem dX4_letterFor_35 : decode cX4_letterFor 35 = .ok (.goto 4, 3) := by decide +kernel
theorem dX4_letterFor_38 : decode cX4_letterFor 38 = .ok (.iconst (-1), 1) := by decide +kernel
theorem dX4_letterFor_39 : decode cX4_letterFor 39 = .ok (.ireturn, 1) := by decide +kernel
theorem dX4_figureFor_0 : decode cX4_figureFor 0 = .ok (.iload_n 0, 1) := by decide +kernel
theorem dX4_figureFor_1 : decode cX4_figureFor 1 = .ok (.bipush 49, 2) := by decide +kernel
theorem dX4_figureFor_3 : decode cX4_figureFor 3 = .ok (.if_icmp .lt 16, 3) := by decide +kernel
theorem dX4_figureFor_6 : decode cX4_figureFor 6 = .ok (.iload_n 0, 1) := by decide +kernel
theorem dX4_figureFor_7 : decode cX4_figureFor 7 = .ok (.bipush 57, 2) := by decide +kernel
theorem dX4_figureFor_9 : decode cX4_figureFor 9 = .ok (.if_icmp .gt 10, 3) := by decide +kernel
theorem dX4_figureFor_12 : decode cX4_figureFor 12 = .ok (.iload_n 0, 1) := by decide +kernel
theorem dX4_figureFor_13 : decode cX4_figureFor 13 = .ok (.bipush 48, 2) := by decide +kernel
theorem dX4_figureFor_15 : decode cX4_figureFor 15 = .ok (.isub, 1) := by decide +kernel
theorem dX4_figureFor_16 : decode cX4_figureFor 16 = .ok (.goto 4, 3) := by decide +kernel
theorem dX4_figureFor_19 : decode cX4_figureFor 19 = .ok (.iconst (-1), 1) := by decide +kernel
theorem dX4_figureFor_20 : decode cX4_figureFor 20 = .ok (.ireturn, 1) := by decide +kernel
theorem dX3_init_0 : decode cX3_init 0 = .ok (.aload_n 0, 1) := by decide +kernel
theorem dX3_init_1 : decode cX3_init 1 = .ok (.invokespecial 3, 3) := by decide +kernel
theorem dX3_init_4 : decode cX3_init 4 = .ok (.aload_n 0, 1) := by decide +kernel
theorem dX3_init_5 : decode cX3_init 5 = .ok (.new 9, 3) := by decide +kernel
theorem dX3_init_8 : decode cX3_init 8 = .ok (.dup, 1) := by decide +kernel
theorem dX3_init_9 : decode cX3_init 9 = .ok (.bipush 60, 2) := by decide +kernel
theorem dX3_init_11 : decode cX3_init 11 = .ok (.invokespecial 11, 3) := by decide +kernel
theorem dX3_init_14 : decode cX3_init 14 = .ok (.putfield 14, 3) := by decide +kernel
theorem dX3_init_17 : decode cX3_init 17 = .ok (.aload_n 0, 1) := by decide +kernel
theorem dX3_init_18 : decode cX3_init 18 = .ok (.iconst 0, 1) := by decide +kernel
theorem dX3_init_19 : decode cX3_init 19 = .ok (.putfield 20, 3) := by decide +kernel
theorem dX3_init_22 : decode cX3_init 22 = .ok (.aload_n 0, 1) := by decide +kernel
theorem dX3_init_23 : decode cX3_init 23 = .ok (.aload_n 1, 1) := by decide +kernel
theorem dX3_init_24 : decode cX3_init 24 = .ok (.putfield 24, 3) := by decide +kernel
theorem dX3_init_27 : decode cX3_init 27 = .ok (.return_, 1) := by decide +kernel
theorem dX3_seek_0 : decode cX3_seek 0 = .ok (.iconst 0, 1) := by decide +kernel
theorem dX3_seek_1 : decode cX3_seek 1 = .ok (.istore_n 2, 1) := by decide +kernel
theorem dX3_seek_2 : decode cX3_seek 2 = .ok (.iconst 0, 1) := by decide +kernel
theorem dX3_seek_3 : decode cX3_seek 3 = .ok (.istore_n 3, 1) := by decide +kernel
theorem dX3_seek_4 : decode cX3_seek 4 = .ok (.iload_n 3, 1) := by decide +kernel
theorem dX3_seek_5 : decode cX3_seek 5 = .ok (.aload_n 1, 1) := by decide +kernel
theorem dX3_seek_6 : decode cX3_seek 6 = .ok (.getfield 28, 3) := by decide +kernel
theorem dX3_seek_9 : decode cX3_seek 9 = .ok (.if_icmp .ge 136, 3) := by decide +kernel
theorem dX3_seek_12 : decode cX3_seek 12 = .ok (.iconst 2, 1) := by decide +kernel
theorem dX3_seek_13 : decode cX3_seek 13 = .ok (.aload_n 1, 1) := by decide +kernel
theorem dX3_seek_14 : decode cX3_seek 14 = .ok (.getfield 28, 3) := by decide +kernel
theorem dX3_seek_17 : decode cX3_seek 17 = .ok (.iload_n 3, 1) := by decide +kernel
theorem dX3_seek_18 : decode cX3_seek 18 = .ok (.isub, 1) := by decide +kernel
theorem dX3_seek_19 : decode cX3_seek 19 = .ok (.imul, 1) := by decide +kernel
theorem dX3_seek_20 : decode cX3_seek 20 = .ok (.aload_n 0, 1) := by decide +kernel
theorem dX3_seek_21 : decode cX3_seek 21 = .ok (.getfield 24, 3) := by decide +kernel
theorem dX3_seek_24 : decode cX3_seek 24 = .ok (.getfield 31, 3) := by decide +kernel
theorem dX3_seek_27 : decode cX3_seek 27 = .ok (.if_icmp .le 118, 3) := by decide +kernel
theorem dX3_seek_30 : decode cX3_seek 30 = .ok (.aload_n 1, 1) := by decide +kernel
theorem dX3_seek_31 : decode cX3_seek 31 = .ok (.iload_n 3, 1) := by decide +kernel
theorem dX3_seek_32 : decode cX3_seek 32 = .ok (.invokevirtual 36, 3) := by decide +kernel
theorem dX3_seek_35 : decode cX3_seek 35 = .ok (.istore 4, 2) := by decide +kernel
theorem dX3_seek_37 : decode cX3_seek 37 = .ok (.aload_n 0, 1) := by decide +kernel
theorem dX3_seek_38 : decode cX3_seek 38 = .ok (.getfield 24, 3) := by decide +kernel
theorem dX3_seek_41 : decode cX3_seek 41 = .ok (.iload 4, 2) := by decide +kernel
theorem dX3_seek_43 : decode cX3_seek 43 = .ok (.invokevirtual 40, 3) := by decide +kernel
theorem dX3_seek_46 : decode cX3_seek 46 = .ok (.istore 5, 2) := by decide +kernel
theorem dX3_seek_48 : decode cX3_seek 48 = .ok (.iconst 0, 1) := by decide +kernel
theorem dX3_seek_49 : decode cX3_seek 49 = .ok (.istore 6, 2) := by decide +kernel
theorem dX3_seek_51 : decode cX3_seek 51 = .ok (.iload 6, 2) := by decide +kernel
theorem dX3_seek_53 : decode cX3_seek 53 = .ok (.iload 5, 2) := by decide +kernel
theorem dX3_seek_55 : decode cX3_seek 55 = .ok (.if_icmp .ge 84, 3) := by decide +kernel
theorem dX3_seek_58 : decode cX3_seek 58 = .ok (.aload_n 0, 1) := by decide +kernel
theorem dX3_seek_59 : decode cX3_seek 59 = .ok (.getfield 24, 3) := by decide +kernel
theorem dX3_seek_62 : decode cX3_seek 62 = .ok (.iload 4, 2) := by decide +kernel
theorem dX3_seek_64 : decode cX3_seek 64 = .ok (.iload 6, 2) := by decide +kernel
theorem dX3_seek_66 : decode cX3_seek 66 = .ok (.invokevirtual 43, 3) := by decide +kernel
theorem dX3_seek_69 : decode cX3_seek 69 = .ok (.istore 7, 2) := by decide +kernel
theorem dX3_seek_71 : decode cX3_seek 71 = .ok (.aload_n 0, 1) := by decide +kernel
theorem dX3_seek_72 : decode cX3_seek 72 = .ok (.getfield 24, 3) := by decide +kernel
theorem dX3_seek_75 : decode cX3_seek 75 = .ok (.aload_n 1, 1) := by decide +kernel
theorem dX3_seek_76 : decode cX3_seek 76 = .ok (.iload_n 3, 1) := by decide +kernel
theorem dX3_seek_77 : decode cX3_seek 77 = .ok (.iload 7, 2) := by decide +kernel
theorem dX3_seek_79 : decode cX3_seek 79 = .ok (.invokevirtual 47, 3) := by decide +kernel
theorem dX3_seek_82 : decode cX3_seek 82 = .ok (.istore 8, 2) := by decide +kernel
theorem dX3_seek_84 : decode cX3_seek 84 = .ok (.iconst 2, 1) := by decide +kernel
theorem dX3_seek_85 : decode cX3_seek 85 = .ok (.iload 8, 2) := by decide +kernel
theorem dX3_seek_87 : decode cX3_seek 87 = .ok (.imul, 1) := by decide +kernel
theorem dX3_seek_88 : decode cX3_seek 88 = .ok (.aload_n 0, 1) := by decide +kernel
theorem dX3_seek_89 : decode cX3_seek 89 = .ok (.getfield 24, 3) := by decide +kernel
theorem dX3_seek_92 : decode cX3_seek 92 = .ok (.iload 7, 2) := by decide +kernel
theorem dX3_seek_94 : decode cX3_seek 94 = .ok (.invokevirtual 51, 3) := by decide +kernel
theorem dX3_seek_97 : decode cX3_seek 97 = .ok (.isub, 1) := by decide +kernel
theorem dX3_seek_98 : decode cX3_seek 98 = .ok (.istore 9, 2) := by decide +kernel
theorem dX3_seek_100 : decode cX3_seek 100 = .ok (.iload 9, 2) := by decide +kernel
theorem dX3_seek_102 : decode cX3_seek 102 = .ok (.ifCond .le 31, 3) := by decide +kernel
theorem dX3_seek_105 : decode cX3_seek 105 = .ok (.iload_n 2, 1) := by decide +kernel
theorem dX3_seek_106 : decode cX3_seek 106 = .ok (.ifCond .eq 15, 3) := by decide +kernel
theorem dX3_seek_109 : decode cX3_seek 109 = .ok (.aload_n 0, 1) := by decide +kernel
theorem dX3_seek_110 : decode cX3_seek 110 = .ok (.iload_n 3, 1) := by decide +kernel
theorem dX3_seek_111 : decode cX3_seek 111 = .ok (.iload 8, 2) := by decide +kernel
theorem dX3_seek_113 : decode cX3_seek 113 = .ok (.iload 9, 2) := by decide +kernel
theorem dX3_seek_115 : decode cX3_seek 115 = .ok (.invokevirtual 54, 3) := by decide +kernel
theorem dX3_seek_118 : decode cX3_seek 118 = .ok (.ifCond .eq 12, 3) := by decide +kernel
theorem dX3_seek_121 : decode cX3_seek 121 = .ok (.aload_n 0, 1) := by decide +kernel
theorem dX3_seek_122 : decode cX3_seek 122 = .ok (.iload_n 3, 1) := by decide +kernel
theorem dX3_seek_123 : decode cX3_seek 123 = .ok (.iload 7, 2) := by decide +kernel
theorem dX3_seek_125 : decode cX3_seek 125 = .ok (.iload 8, 2) := by decide +kernel
theorem dX3_seek_127 : decode cX3_seek 127 = .ok (.invokevirtual 58, 3) := by decide +kernel
theorem dX3_seek_130 : decode cX3_seek 130 = .ok (.iinc 2 1, 3) := by decide +kernel
theorem dX3_seek_133 : decode cX3_seek 133 = .ok (.iinc 6 1, 3) := by decide +kernel
theorem dX3_seek_136 : decode cX3_seek 136 = .ok (.goto (-85), 3) := by decide +kernel
theorem dX3_seek_139 : decode cX3_seek 139 = .ok (.iinc 3 1, 3) := by decide +kernel
theorem dX3_seek_142 : decode cX3_seek 142 = .ok (.goto (-138), 3) := by decide +kernel
theorem dX3_seek_145 : decode cX3_seek 145 = .ok (.iload_n 2, 1) := by decide +kernel
theorem dX3_seek_146 : decode cX3_seek 146 = .ok (.ireturn, 1) := by decide +kernel
theorem dX3_isBetter_0 : decode cX3_isBetter 0 = .ok (.aload_n 0, 1) := by decide +kernel
theorem dX3_isBetter_1 : decode cX3_isBetter 1 = .ok (.getfield 20, 3) := by decide +kernel
theorem dX3_isBetter_4 : decode cX3_isBetter 4 = .ok (.tableswitch 96 1 4 #[32, 54, 68, 82], 32) := by decide +kernel
theorem dX3_isBetter_36 : decode cX3_isBetter 36 = .ok (.iload_n 1, 1) := by decide +kernel
theorem dX3_isBetter_37 : decode cX3_isBetter 37 = .ok (.aload_n 0, 1) := by decide +kernel
theorem dX3_isBetter_38 : decode cX3_isBetter 38 = .ok (.getfield 62, 3) := by decide +kernel
theorem dX3_isBetter_41 : decode cX3_isBetter 41 = .ok (.if_icmp .gt 11, 3) := by decide +kernel
theorem dX3_isBetter_44 : decode cX3_isBetter 44 = .ok (.iload_n 2, 1) := by decide +kernel
theorem dX3_isBetter_45 : decode cX3_isBetter 45 = .ok (.aload_n 0, 1) := by decide +kernel
theorem dX3_isBetter_46 : decode cX3_isBetter 46 = .ok (.getfield 65, 3) := by decide +kernel
theorem dX3_isBetter_49 : decode cX3_isBetter 49 = .ok (.if_icmp .le 7, 3) := by decide +kernel
theorem dX3_isBetter_52 : decode cX3_isBetter 52 = .ok (.iconst 1, 1) := by decide +kernel
theorem dX3_isBetter_53 : decode cX3_isBetter 53 = .ok (.goto 4, 3) := by decide +kernel
theorem dX3_isBetter_56 : decode cX3_isBetter 56 = .ok (.iconst 0, 1) := by decide +kernel
theorem dX3_isBetter_57 : decode cX3_isBetter 57 = .ok (.ireturn, 1) := by decide +kernel
theorem dX3_isBetter_58 : decode cX3_isBetter 58 = .ok (.iload_n 3, 1) := by decide +kernel
theorem dX3_isBetter_59 : decode cX3_isBetter 59 = .ok (.aload_n 0, 1) := by decide +kernel
theorem dX3_isBetter_60 : decode cX3_isBetter 60 = .ok (.getfield 68, 3) := by decide +kernel
theorem dX3_isBetter_63 : decode cX3_isBetter 63 = .ok (.if_icmp .le 7, 3) := by decide +kernel
theorem dX3_isBetter_66 : decode cX3_isBetter 66 = .ok (.iconst 1, 1) := by decide +kernel
theorem dX3_isBetter_67 : decode cX3_isBetter 67 = .ok (.goto 4, 3) := by decide +kernel
theorem dX3_isBetter_70 : decode cX3_isBetter 70 = .ok (.iconst 0, 1) := by decide +kernel
theorem dX3_isBetter_71 : decode cX3_isBetter 71 = .ok (.ireturn, 1) := by decide +kernel
theorem dX3_isBetter_72 : decode cX3_isBetter 72 = .ok (.iload_n 3, 1) := by decide +kernel
theorem dX3_isBetter_73 : decode cX3_isBetter 73 = .ok (.aload_n 0, 1) := by decide +kernel
theorem dX3_isBetter_74 : decode cX3_isBetter 74 = .ok (.getfield 68, 3) := by decide +kernel
theorem dX3_isBetter_77 : decode cX3_isBetter 77 = .ok (.if_icmp .ge 7, 3) := by decide +kernel
theorem dX3_isBetter_80 : decode cX3_isBetter 80 = .ok (.iconst 1, 1) := by decide +kernel
theorem dX3_isBetter_81 : decode cX3_isBetter 81 = .ok (.goto 4, 3) := by decide +kernel
theorem dX3_isBetter_84 : decode cX3_isBetter 84 = .ok (.iconst 0, 1) := by decide +kernel
theorem dX3_isBetter_85 : decode cX3_isBetter 85 = .ok (.ireturn, 1) := by decide +kernel
theorem dX3_isBetter_86 : decode cX3_isBetter 86 = .ok (.iload_n 2, 1) := by decide +kernel
theorem dX3_isBetter_87 : decode cX3_isBetter 87 = .ok (.aload_n 0, 1) := by decide +kernel
theorem dX3_isBetter_88 : decode cX3_isBetter 88 = .ok (.getfield 65, 3) := by decide +kernel
theorem dX3_isBetter_91 : decode cX3_isBetter 91 = .ok (.if_icmp .le 7, 3) := by decide +kernel
theorem dX3_isBetter_94 : decode cX3_isBetter 94 = .ok (.iconst 1, 1) := by decide +kernel
theorem dX3_isBetter_95 : decode cX3_isBetter 95 = .ok (.goto 4, 3) := by decide +kernel
theorem dX3_isBetter_98 : decode cX3_isBetter 98 = .ok (.iconst 0, 1) := by decide +kernel
theorem dX3_isBetter_99 : decode cX3_isBetter 99 = .ok (.ireturn, 1) := by decide +kernel
theorem dX3_isBetter_100 : decode cX3_isBetter 100 = .ok (.iload_n 1, 1) := by decide +kernel
theorem dX3_isBetter_101 : decode cX3_isBetter 101 = .ok (.aload_n 0, 1) := by decide +kernel
theorem dX3_isBetter_102 : decode cX3_isBetter 102 = .ok (.getfield 62, 3) := by decide +kernel
theorem dX3_isBetter_105 : decode cX3_isBetter 105 = .ok (.if_icmp .ne 15, 3) := by decide +kernel
theorem dX3_isBetter_108 : decode cX3_isBetter 108 = .ok (.iload_n 2, 1) := by decide +kernel
theorem dX3_isBetter_109 : decode cX3_isBetter 109 = .ok (.aload_n 0, 1) := by decide +kernel
theorem dX3_isBetter_110 : decode cX3_isBetter 110 = .ok (.getfield 65, 3) := by decide +kernel
theorem dX3_isBetter_113 : decode cX3_isBetter 113 = .ok (.if_icmp .le 7, 3) := by decide +kernel
theorem dX3_isBetter_116 : decode cX3_isBetter 116 = .ok (.iconst 1, 1) := by decide +kernel
theorem dX3_isBetter_117 : decode cX3_isBetter 117 = .ok (.goto 4, 3) := by decide +kernel
theorem dX3_isBetter_120 : decode cX3_isBetter 120 = .ok (.iconst 0, 1) := by decide +kernel
theorem dX3_isBetter_121 : decode cX3_isBetter 121 = .ok (.ireturn, 1) := by decide +kernel
theorem dX3_take_0 : decode cX3_take 0 = .ok (.aload_n 0, 1) := by decide +kernel
theorem dX3_take_1 : decode cX3_take 1 = .ok (.iload_n 1, 1) := by decide +kernel
theorem dX3_take_2 : decode cX3_take 2 = .ok (.putfield 62, 3) := by decide +kernel
theorem dX3_take_5 : decode cX3_take 5 = .ok (.aload_n 0, 1) := by decide +kernel
theorem dX3_take_6 : decode cX3_take 6 = .ok (.iload_n 2, 1) := by decide +kernel
theorem dX3_take_7 : decode cX3_take 7 = .ok (.putfield 71, 3) := by decide +kernel
theorem dX3_take_10 : decode cX3_take 10 = .ok (.aload_n 0, 1) := by decide +kernel
theorem dX3_take_11 : decode cX3_take 11 = .ok (.iload_n 3, 1) := by decide +kernel
theorem dX3_take_12 : decode cX3_take 12 = .ok (.putfield 65, 3) := by decide +kernel
theorem dX3_take_15 : decode cX3_take 15 = .ok (.aload_n 0, 1) := by decide +kernel
theorem dX3_take_16 : decode cX3_take 16 = .ok (.iconst 2, 1) := by decide +kernel
theorem dX3_take_17 : decode cX3_take 17 = .ok (.iload_n 3, 1) := by decide +kernel
theorem dX3_take_18 : decode cX3_take 18 = .ok (.imul, 1) := by decide +kernel
theorem dX3_take_19 : decode cX3_take 19 = .ok (.aload_n 0, 1) := by decide +kernel
theorem dX3_take_20 : decode cX3_take 20 = .ok (.getfield 24, 3) := by decide +kernel
theorem dX3_take_23 : decode cX3_take 23 = .ok (.iload_n 2, 1) := by decide +kernel
theorem dX3_take_24 : decode cX3_take 24 = .ok (.invokevirtual 51, 3) := by decide +kernel
theorem dX3_take_27 : decode cX3_take 27 = .ok (.isub, 1) := by decide +kernel
theorem dX3_take_28 : decode cX3_take 28 = .ok (.putfield 68, 3) := by decide +kernel
theorem dX3_take_31 : decode cX3_take 31 = .ok (.return_, 1) := by decide +kernel
theorem dX3_doCut_0 : decode cX3_doCut 0 = .ok (.aload_n 0, 1) := by decide +kernel
theorem dX3_doCut_1 : decode cX3_doCut 1 = .ok (.getfield 14, 3) := by decide +kernel
theorem dX3_doCut_4 : decode cX3_doCut 4 = .ok (.invokevirtual 74, 3) := by decide +kernel
theorem dX3_doCut_7 : decode cX3_doCut 7 = .ok (.aload_n 0, 1) := by decide +kernel
theorem dX3_doCut_8 : decode cX3_doCut 8 = .ok (.getfield 14, 3) := by decide +kernel
theorem dX3_doCut_11 : decode cX3_doCut 11 = .ok (.aload_n 1, 1) := by decide +kernel
theorem dX3_doCut_12 : decode cX3_doCut 12 = .ok (.iconst 0, 1) := by decide +kernel
theorem dX3_doCut_13 : decode cX3_doCut 13 = .ok (.aload_n 0, 1) := by decide +kernel
theorem dX3_doCut_14 : decode cX3_doCut 14 = .ok (.getfield 62, 3) := by decide +kernel
theorem dX3_doCut_17 : decode cX3_doCut 17 = .ok (.invokevirtual 77, 3) := by decide +kernel
theorem dX3_doCut_20 : decode cX3_doCut 20 = .ok (.aload_n 0, 1) := by decide +kernel
theorem dX3_doCut_21 : decode cX3_doCut 21 = .ok (.getfield 24, 3) := by decide +kernel
theorem dX3_doCut_24 : decode cX3_doCut 24 = .ok (.aload_n 0, 1) := by decide +kernel
theorem dX3_doCut_25 : decode cX3_doCut 25 = .ok (.getfield 71, 3) := by decide +kernel
theorem dX3_doCut_28 : decode cX3_doCut 28 = .ok (.invokevirtual 51, 3) := by decide +kernel
theorem dX3_doCut_31 : decode cX3_doCut 31 = .ok (.iconst 1, 1) := by decide +kernel
theorem dX3_doCut_32 : decode cX3_doCut 32 = .ok (.isub, 1) := by decide +kernel
theorem dX3_doCut_33 : decode cX3_doCut 33 = .ok (.istore_n 2, 1) := by decide +kernel
theorem dX3_doCut_34 : decode cX3_doCut 34 = .ok (.iload_n 2, 1) := by decide +kernel
theorem dX3_doCut_35 : decode cX3_doCut 35 = .ok (.aload_n 0, 1) := by decide +kernel
theorem dX3_doCut_36 : decode cX3_doCut 36 = .ok (.getfield 65, 3) := by decide +kernel
theorem dX3_doCut_39 : decode cX3_doCut 39 = .ok (.if_icmp .lt 31, 3) := by decide +kernel
theorem dX3_doCut_42 : decode cX3_doCut 42 = .ok (.aload_n 0, 1) := by decide +kernel
theorem dX3_doCut_43 : decode cX3_doCut 43 = .ok (.getfield 14, 3) := by decide +kernel
theorem dX3_doCut_46 : decode cX3_doCut 46 = .ok (.aload_n 0, 1) := by decide +kernel
theorem dX3_doCut_47 : decode cX3_doCut 47 = .ok (.getfield 24, 3) := by decide +kernel
theorem dX3_doCut_50 : decode cX3_doCut 50 = .ok (.aload_n 0, 1) := by decide +kernel
theorem dX3_doCut_51 : decode cX3_doCut 51 = .ok (.getfield 71, 3) := by decide +kernel
theorem dX3_doCut_54 : decode cX3_doCut 54 = .ok (.iload_n 2, 1) := by decide +kernel
theorem dX3_doCut_55 : decode cX3_doCut 55 = .ok (.invokevirtual 81, 3) := by decide +kernel
theorem dX3_doCut_58 : decode cX3_doCut 58 = .ok (.invokestatic 84, 3) := by decide +kernel
theorem dX3_doCut_61 : decode cX3_doCut 61 = .ok (.invokevirtual 87, 3) := by decide +kernel
theorem dX3_doCut_64 : decode cX3_doCut 64 = .ok (.iinc 2 (-1), 3) := by decide +kernel
theorem dX3_doCut_67 : decode cX3_doCut 67 = .ok (.goto (-33), 3) := by decide +kernel
theorem dX3_doCut_70 : decode cX3_doCut 70 = .ok (.aload_n 0, 1) := by decide +kernel
theorem dX3_doCut_71 : decode cX3_doCut 71 = .ok (.getfield 14, 3) := by decide +kernel
theorem dX3_doCut_74 : decode cX3_doCut 74 = .ok (.aload_n 1, 1) := by decide +kernel
theorem dX3_doCut_75 : decode cX3_doCut 75 = .ok (.aload_n 0, 1) := by decide +kernel
theorem dX3_doCut_76 : decode cX3_doCut 76 = .ok (.getfield 62, 3) := by decide +kernel
theorem dX3_doCut_79 : decode cX3_doCut 79 = .ok (.aload_n 0, 1) := by decide +kernel
theorem dX3_doCut_80 : decode cX3_doCut 80 = .ok (.getfield 65, 3) := by decide +kernel
theorem dX3_doCut_83 : decode cX3_doCut 83 = .ok (.iadd, 1) := by decide +kernel
theorem dX3_doCut_84 : decode cX3_doCut 84 = .ok (.aload_n 1, 1) := by decide +kernel
theorem dX3_doCut_85 : decode cX3_doCut 85 = .ok (.getfield 28, 3) := by decide +kernel
theorem dX3_doCut_88 : decode cX3_doCut 88 = .ok (.invokevirtual 77, 3) := by decide +kernel
theorem dX3_doCut_91 : decode cX3_doCut 91 = .ok (.aload_n 1, 1) := by decide +kernel
theorem dX3_doCut_92 : decode cX3_doCut 92 = .ok (.aload_n 0, 1) := by decide +kernel
theorem dX3_doCut_93 : decode cX3_doCut 93 = .ok (.getfield 14, 3) := by decide +kernel
theorem dX3_doCut_96 : decode cX3_doCut 96 = .ok (.invokevirtual 90, 3) := by decide +kernel
theorem dX3_doCut_99 : decode cX3_doCut 99 = .ok (.return_, 1) := by decide +kernel
theorem dX3_doAll_0 : decode cX3_doAll 0 = .ok (.iconst 0, 1) := by decide +kernel
theorem dX3_doAll_1 : decode cX3_doAll 1 = .ok (.istore_n 2, 1) := by decide +kernel
theorem dX3_doAll_2 : decode cX3_doAll 2 = .ok (.iload_n 2, 1) := by decide +kernel
theorem dX3_doAll_3 : decode cX3_doAll 3 = .ok (.bipush 60, 2) := by decide +kernel
theorem dX3_doAll_5 : decode cX3_doAll 5 = .ok (.if_icmp .ge 24, 3) := by decide +kernel
theorem dX3_doAll_8 : decode cX3_doAll 8 = .ok (.aload_n 0, 1) := by decide +kernel
theorem dX3_doAll_9 : decode cX3_doAll 9 = .ok (.aload_n 1, 1) := by decide +kernel
theorem dX3_doAll_10 : decode cX3_doAll 10 = .ok (.invokevirtual 94, 3) := by decide +kernel
theorem dX3_doAll_13 : decode cX3_doAll 13 = .ok (.ifCond .ne 5, 3) := by decide +kernel
theorem dX3_doAll_16 : decode cX3_doAll 16 = .ok (.iload_n 2, 1) := by decide +kernel
theorem dX3_doAll_17 : decode cX3_doAll 17 = .ok (.ireturn, 1) := by decide +kernel
theorem dX3_doAll_18 : decode cX3_doAll 18 = .ok (.aload_n 0, 1) := by decide +kernel
theorem dX3_doAll_19 : decode cX3_doAll 19 = .ok (.aload_n 1, 1) := by decide +kernel
theorem dX3_doAll_20 : decode cX3_doAll 20 = .ok (.invokevirtual 98, 3) := by decide +kernel
theorem dX3_doAll_23 : decode cX3_doAll 23 = .ok (.iinc 2 1, 3) := by decide +kernel
theorem dX3_doAll_26 : decode cX3_doAll 26 = .ok (.goto (-24), 3) := by decide +kernel
theorem dX3_doAll_29 : decode cX3_doAll 29 = .ok (.bipush 60, 2) := by decide +kernel
theorem dX3_doAll_31 : decode cX3_doAll 31 = .ok (.ireturn, 1) := by decide +kernel
theorem dX3_doThrough_0 : decode cX3_doThrough 0 = .ok (.iload_n 2, 1) := by decide +kernel
theorem dX3_doThrough_1 : decode cX3_doThrough 1 = .ok (.bipush 60, 2) := by decide +kernel
theorem dX3_doThrough_3 : decode cX3_doThrough 3 = .ok (.if_icmp .lt 5, 3) := by decide +kernel
theorem dX3_doThrough_6 : decode cX3_doThrough 6 = .ok (.iconst 0, 1) := by decide +kernel
theorem dX3_doThrough_7 : decode cX3_doThrough 7 = .ok (.ireturn, 1) := by decide +kernel
theorem dX3_doThrough_8 : decode cX3_doThrough 8 = .ok (.iconst 0, 1) := by decide +kernel
theorem dX3_doThrough_9 : decode cX3_doThrough 9 = .ok (.istore_n 3, 1) := by decide +kernel
theorem dX3_doThrough_10 : decode cX3_doThrough 10 = .ok (.iload_n 3, 1) := by decide +kernel
theorem dX3_doThrough_11 : decode cX3_doThrough 11 = .ok (.iload_n 2, 1) := by decide +kernel
theorem dX3_doThrough_12 : decode cX3_doThrough 12 = .ok (.if_icmp .gt 24, 3) := by decide +kernel
theorem dX3_doThrough_15 : decode cX3_doThrough 15 = .ok (.aload_n 0, 1) := by decide +kernel
theorem dX3_doThrough_16 : decode cX3_doThrough 16 = .ok (.aload_n 1, 1) := by decide +kernel
theorem dX3_doThrough_17 : decode cX3_doThrough 17 = .ok (.invokevirtual 94, 3) := by decide +kernel
theorem dX3_doThrough_20 : decode cX3_doThrough 20 = .ok (.ifCond .ne 5, 3) := by decide +kernel
theorem dX3_doThrough_23 : decode cX3_doThrough 23 = .ok (.iconst 0, 1) := by decide +kernel
theorem dX3_doThrough_24 : decode cX3_doThrough 24 = .ok (.ireturn, 1) := by decide +kernel
theorem dX3_doThrough_25 : decode cX3_doThrough 25 = .ok (.aload_n 0, 1) := by decide +kernel
theorem dX3_doThrough_26 : decode cX3_doThrough 26 = .ok (.aload_n 1, 1) := by decide +kernel
theorem dX3_doThrough_27 : decode cX3_doThrough 27 = .ok (.invokevirtual 98, 3) := by decide +kernel
theorem dX3_doThrough_30 : decode cX3_doThrough 30 = .ok (.iinc 3 1, 3) := by decide +kernel
theorem dX3_doThrough_33 : decode cX3_doThrough 33 = .ok (.goto (-23), 3) := by decide +kernel
theorem dX3_doThrough_36 : decode cX3_doThrough 36 = .ok (.iconst 1, 1) := by decide +kernel
theorem dX3_doThrough_37 : decode cX3_doThrough 37 = .ok (.ireturn, 1) := by decide +kernel
end
section
theorem dX5_opposite_0 : decode cX5_opposite 0 = .ok (.iload_n 0, 1) := by decide +kernel
theorem dX5_opposite_1 : decode cX5_opposite 1 = .ok (.iconst 4, 1) := by decide +kernel
theorem dX5_opposite_2 : decode cX5_opposite 2 = .ok (.if_icmp .ge 9, 3) := by decide +kernel
theorem dX5_opposite_5 : decode cX5_opposite 5 = .ok (.iload_n 0, 1) := by decide +kernel
theorem dX5_opposite_6 : decode cX5_opposite 6 = .ok (.iconst 4, 1) := by decide +kernel
theorem dX5_opposite_7 : decode cX5_opposite 7 = .ok (.iadd, 1) := by decide +kernel
theorem dX5_opposite_8 : decode cX5_opposite 8 = .ok (.goto 6, 3) := by decide +kernel
theorem dX5_opposite_11 : decode cX5_opposite 11 = .ok (.iload_n 0, 1) := by decide +kernel
theorem dX5_opposite_12 : decode cX5_opposite 12 = .ok (.iconst 4, 1) := by decide +kernel
theorem dX5_opposite_13 : decode cX5_opposite 13 = .ok (.isub, 1) := by decide +kernel
theorem dX5_opposite_14 : decode cX5_opposite 14 = .ok (.ireturn, 1) := by decide +kernel
theorem dJ9_floorMod_7cf53_0 : decode cJ9_floorMod_7cf53 0 = .ok (.iload_n 0, 1) := by decide +kernel
theorem dJ9_floorMod_7cf53_1 : decode cJ9_floorMod_7cf53 1 = .ok (.iload_n 1, 1) := by decide +kernel
theorem dJ9_floorMod_7cf53_2 : decode cJ9_floorMod_7cf53 2 = .ok (.irem, 1) := by decide +kernel
theorem dJ9_floorMod_7cf53_3 : decode cJ9_floorMod_7cf53 3 = .ok (.istore_n 2, 1) := by decide +kernel
theorem dJ9_floorMod_7cf53_4 : decode cJ9_floorMod_7cf53 4 = .ok (.iload_n 0, 1) := by decide +kernel
theorem dJ9_floorMod_7cf53_5 : decode cJ9_floorMod_7cf53 5 = .ok (.iload_n 1, 1) := by decide +kernel
theorem dJ9_floorMod_7cf53_6 : decode cJ9_floorMod_7cf53 6 = .ok (.ixor, 1) := by decide +kernel
theorem dJ9_floorMod_7cf53_7 : decode cJ9_floorMod_7cf53 7 = .ok (.ifCond .ge 11, 3) := by decide +kernel
theorem dJ9_floorMod_7cf53_10 : decode cJ9_floorMod_7cf53 10 = .ok (.iload_n 2, 1) := by decide +kernel
theorem dJ9_floorMod_7cf53_11 : decode cJ9_floorMod_7cf53 11 = .ok (.ifCond .eq 7, 3) := by decide +kernel
theorem dJ9_floorMod_7cf53_14 : decode cJ9_floorMod_7cf53 14 = .ok (.iload_n 2, 1) := by decide +kernel
theorem dJ9_floorMod_7cf53_15 : decode cJ9_floorMod_7cf53 15 = .ok (.iload_n 1, 1) := by decide +kernel
theorem dJ9_floorMod_7cf53_16 : decode cJ9_floorMod_7cf53 16 = .ok (.iadd, 1) := by decide +kernel
theorem dJ9_floorMod_7cf53_17 : decode cJ9_floorMod_7cf53 17 = .ok (.ireturn, 1) := by decide +kernel
theorem dJ9_floorMod_7cf53_18 : decode cJ9_floorMod_7cf53 18 = .ok (.iload_n 2, 1) := by decide +kernel
theorem dJ9_floorMod_7cf53_19 : decode cJ9_floorMod_7cf53 19 = .ok (.ireturn, 1) := by decide +kernel
end
section
theorem b_X2_at {l : Launch} {g : ww_G} {τ : ww_M} {r0 : Nat} {a1 : Int32} {Post : Int32 → ww_M → Prop} (hr0 : r0 < 104) (h : ∀ E : ww_E, ((a1 < nI 0 → Post (-1 : Int32) τ) ∧ (¬ (a1 < nI 0) → ((τ (21, r0) 1 ≤ a1 → Post (-1 : Int32) τ) ∧ (¬ (τ (21, r0) 1 ≤ a1) → ((nI (ww_cap r0) ≤ a1 → Post (-1 : Int32) τ) ∧ (¬ (nI (ww_cap r0) ≤ a1) → (∃ j1 : Nat, a1 = nI j1 ∧ j1 < ww_cap r0 ∧ Post (τ (22, r0) j1) τ)))))))) : ww_T l g mX2_at [.inr (.inr (21, r0)), .inl a1] τ (ww_QI Post) := by
  refine ww_enter (P := [some (.inr (.inr (21, r0))), some (.inl a1)]) (by decide) (Nat.le_of_ble_eq_true rfl) rfl (fun E => ?_)
  replace h := h E
  refine ww_iload_n 1 dX2_at_0 rfl 1 rfl rfl ?_
  refine ww_if_lt 30 4 dX2_at_1 (by decide) rfl (fun c => ?_) (fun c => ?_)
  · replace h := h.1 c
    refine ww_iconst (v := (-1 : Int32)) 31 dX2_at_30 (by decide) rfl ?_
    exact ww_iret dX2_at_31 rfl ⟨_, rfl, h⟩
  · replace h := h.2 c
    refine ww_iload_n 5 dX2_at_4 rfl 1 rfl rfl ?_
    refine ww_aload_n 6 dX2_at_5 rfl 0 rfl rfl ?_
    refine ww_getI 1 9 dX2_at_6 wf_X2_21 (show ww_in (21, r0) from (show r0 < 104 by omega)) rfl rfl rfl ?_
    refine ww_ic_ge 30 12 dX2_at_9 (by decide) rfl (fun c => ?_) (fun c => ?_)
    · replace h := h.1 c
      refine ww_iconst (v := (-1 : Int32)) 31 dX2_at_30 (by decide) rfl ?_
      exact ww_iret dX2_at_31 rfl ⟨_, rfl, h⟩
    · replace h := h.2 c
      refine ww_iload_n 13 dX2_at_12 rfl 1 rfl rfl ?_
      refine ww_aload_n 14 dX2_at_13 rfl 0 rfl rfl ?_
      refine ww_getR 0 17 dX2_at_14 wf_X2_15 (show ww_in (21, r0) from (show r0 < 104 by omega)) rfl rfl rfl ?_
      refine ww_alnI 18 dX2_at_17 (show ww_in (22, r0) from (show r0 < 104 by omega)) rfl rfl ?_
      refine ww_ic_ge 30 21 dX2_at_18 (by decide) rfl (fun c => ?_) (fun c => ?_)
      · replace h := h.1 c
        refine ww_iconst (v := (-1 : Int32)) 31 dX2_at_30 (by decide) rfl ?_
        exact ww_iret dX2_at_31 rfl ⟨_, rfl, h⟩
      · replace h := h.2 c
        refine ww_aload_n 22 dX2_at_21 rfl 0 rfl rfl ?_
        refine ww_getR 0 25 dX2_at_22 wf_X2_15 (show ww_in (21, r0) from (show r0 < 104 by omega)) rfl rfl rfl ?_
        refine ww_iload_n 26 dX2_at_25 rfl 1 rfl rfl ?_
        obtain ⟨j1, hij1, hj1, h⟩ := h
        refine ww_iald j1 27 dX2_at_26 (show ww_in (22, r0) from (show r0 < 104 by omega)) rfl (ww_cap_lt _) hij1 hj1 rfl ?_
        refine ww_goto 31 dX2_at_27 (by decide) ?_
        exact ww_iret dX2_at_31 rfl ⟨_, rfl, h⟩
theorem b_X2_wipe {l : Launch} {g : ww_G} {τ : ww_M} {r0 : Nat} {Post : ww_M → Prop} (hr0 : r0 < 104) (h : ∀ E : ww_E, (∀ τ1 : ww_M, τ1 = ww_up τ (21, r0) 1 (nI 0) → Post τ1)) : ww_T l g mX2_wipe [.inr (.inr (21, r0))] τ (ww_QV Post) := by
  refine ww_enter (P := [some (.inr (.inr (21, r0)))]) (by decide) (Nat.le_of_ble_eq_true rfl) rfl (fun E => ?_)
  replace h := h E
  refine ww_aload_n 1 dX2_wipe_0 rfl 0 rfl rfl ?_
  refine ww_iconst (v := nI 0) 2 dX2_wipe_1 (by decide) rfl ?_
  refine ww_putI 1 5 dX2_wipe_2 wf_X2_21 fp_X2_1 (show ww_in (21, r0) from (show r0 < 104 by omega)) rfl rfl rfl (fun τ1 eτ1 => ?_)
  replace h := h τ1 eτ1
  exact ww_vret dX2_wipe_5 rfl ⟨rfl, h⟩
theorem b_X2_put {l : Launch} {g : ww_G} {τ : ww_M} {r0 : Nat} {a1 : Int32} {Post : ww_M → Prop} (hr0 : r0 < 104) (h : ∀ E : ww_E, ((a1 < nI 0 → Post τ) ∧ (¬ (a1 < nI 0) → ((a1 < nI 8 → ((τ (21, r0) 1 ≤ nI 0 → ww_W g mX2_put E (ww_QV Post) 48 [some (.inr (.inr (21, r0))), some (.inl a1)] [] τ) ∧ (¬ (τ (21, r0) 1 ≤ nI 0) → (∃ Q1 : Int32 → ww_M → Prop, ww_T E.2.1 g mX2_at [.inr (.inr (21, r0)), .inl ((τ (21, r0) 1) - (nI 1))] τ (ww_QI Q1) ∧ ∀ (v2 : Int32) (τ3 : ww_M), Q1 v2 τ3 → (∃ Q4 : Int32 → ww_M → Prop, ww_T E.2.1 g mX5_opposite [.inl a1] τ3 (ww_QI Q4) ∧ ∀ (v5 : Int32) (τ6 : ww_M), Q4 v5 τ6 → (¬ v2 = v5 → ww_W g mX2_put E (ww_QV Post) 48 [some (.inr (.inr (21, r0))), some (.inl a1)] [] τ6) ∧ (v2 = v5 → (∀ τ7 : ww_M, τ7 = ww_up τ6 (21, r0) 1 ((τ6 (21, r0) 1) - (nI 1)) → Post τ7))))))) ∧ (¬ (a1 < nI 8) → Post τ))))) : ww_T l g mX2_put [.inr (.inr (21, r0)), .inl a1] τ (ww_QV Post) := by
  refine ww_enter (P := [some (.inr (.inr (21, r0))), some (.inl a1)]) (by decide) (Nat.le_of_ble_eq_true rfl) rfl (fun E => ?_)
  replace h := h E
  refine ww_iload_n 1 dX2_put_0 rfl 1 rfl rfl ?_
  refine ww_if_lt 10 4 dX2_put_1 (by decide) rfl (fun c => ?_) (fun c => ?_)
  · replace h := h.1 c
    exact ww_vret dX2_put_10 rfl ⟨rfl, h⟩
  · replace h := h.2 c
    refine ww_iload_n 5 dX2_put_4 rfl 1 rfl rfl ?_
    refine ww_bipush (v := nI 8) 7 dX2_put_5 (by decide) rfl ?_
    refine ww_ic_lt 11 10 dX2_put_7 (by decide) rfl (fun c => ?_) (fun c => ?_)
    · replace h := h.1 c
      refine ww_aload_n 12 dX2_put_11 rfl 0 rfl rfl ?_
      refine ww_getI 1 15 dX2_put_12 wf_X2_21 (show ww_in (21, r0) from (show r0 < 104 by omega)) rfl rfl rfl ?_
      refine ww_if_le 48 18 dX2_put_15 (by decide) rfl (fun c => ?_) (fun c => ?_)
      · replace h := h.1 c
        exact h
      · replace h := h.2 c
        refine ww_aload_n 19 dX2_put_18 rfl 0 rfl rfl ?_
        refine ww_aload_n 20 dX2_put_19 rfl 0 rfl rfl ?_
        refine ww_getI 1 23 dX2_put_20 wf_X2_21 (show ww_in (21, r0) from (show r0 < 104 by omega)) rfl rfl rfl ?_
        refine ww_iconst (v := nI 1) 24 dX2_put_23 (by decide) rfl ?_
        refine ww_isub 25 dX2_put_24 rfl ?_
        obtain ⟨Q1, hT, h⟩ := h
        refine ww_invVI (d' := mX2_at) [.inl ((τ (21, r0) 1) - (nI 1))] rfl 28 dX2_put_25 ⟨wi_X2, wc_X2_at, wp_X2_at, by decide, by decide⟩ wl_X2_25 wn_X2_at we_X2_at (show ww_in (21, r0) from (show r0 < 104 by omega)) rfl rfl (Nat.le_of_ble_eq_true rfl) rfl hT (fun v2 τ3 hq => ?_)
        replace h := h v2 τ3 hq
        refine ww_iload_n 29 dX2_put_28 rfl 1 rfl rfl ?_
        obtain ⟨Q4, hT, h⟩ := h
        refine ww_invSI (d' := mX5_opposite) [.inl a1] rfl 32 dX2_put_29 ⟨wi_X5, wc_X5_opposite, wp_X5_opposite, by decide, by decide⟩ (Or.inr ⟨"PieceWords", List.mem_of_getElem? (i := 1) rfl⟩) wn_X5_opposite (Nat.le_of_ble_eq_true rfl) rfl hT (fun v5 τ6 hq => ?_)
        replace h := h v5 τ6 hq
        refine ww_ic_ne 48 35 dX2_put_32 (by decide) rfl (fun c => ?_) (fun c => ?_)
        · replace h := h.1 c
          exact h
        · replace h := h.2 c
          refine ww_aload_n 36 dX2_put_35 rfl 0 rfl rfl ?_
          refine ww_dup 37 dX2_put_36 rfl rfl ?_
          refine ww_getI 1 40 dX2_put_37 wf_X2_21 (show ww_in (21, r0) from (show r0 < 104 by omega)) rfl rfl rfl ?_
          refine ww_iconst (v := nI 1) 41 dX2_put_40 (by decide) rfl ?_
          refine ww_isub 42 dX2_put_41 rfl ?_
          refine ww_putI 1 45 dX2_put_42 wf_X2_21 fp_X2_1 (show ww_in (21, r0) from (show r0 < 104 by omega)) rfl rfl rfl (fun τ7 eτ7 => ?_)
          replace h := h τ7 eτ7
          refine ww_goto 80 dX2_put_45 (by decide) ?_
          exact ww_vret dX2_put_80 rfl ⟨rfl, h⟩
    · replace h := h.2 c
      exact ww_vret dX2_put_10 rfl ⟨rfl, h⟩
theorem b_X2_put_48 {g : ww_G} {E : ww_E} {τ : ww_M} {r0 : Nat} {x1 : Int32} {Post : ww_M → Prop} (hr0 : r0 < 104) (h : ((nI (ww_cap r0) ≤ τ (21, r0) 1 → Post τ) ∧ (¬ (nI (ww_cap r0) ≤ τ (21, r0) 1) → (∃ j1 : Nat, τ (21, r0) 1 = nI j1 ∧ j1 < ww_cap r0 ∧ ∀ τ2 : ww_M, τ2 = ww_up τ (22, r0) j1 x1 → (∀ τ3 : ww_M, τ3 = ww_up τ2 (21, r0) 1 ((τ2 (21, r0) 1) + (nI 1)) → Post τ3))))) : ww_W g mX2_put E (ww_QV Post) 48 [some (.inr (.inr (21, r0))), some (.inl x1)] [] τ := by
  refine ww_aload_n 49 dX2_put_48 rfl 0 rfl rfl ?_
  refine ww_getI 1 52 dX2_put_49 wf_X2_21 (show ww_in (21, r0) from (show r0 < 104 by omega)) rfl rfl rfl ?_
  refine ww_aload_n 53 dX2_put_52 rfl 0 rfl rfl ?_
  refine ww_getR 0 56 dX2_put_53 wf_X2_15 (show ww_in (21, r0) from (show r0 < 104 by omega)) rfl rfl rfl ?_
  refine ww_alnI 57 dX2_put_56 (show ww_in (22, r0) from (show r0 < 104 by omega)) rfl rfl ?_
  refine ww_ic_ge 80 60 dX2_put_57 (by decide) rfl (fun c => ?_) (fun c => ?_)
  · replace h := h.1 c
    exact ww_vret dX2_put_80 rfl ⟨rfl, h⟩
  · replace h := h.2 c
    refine ww_aload_n 61 dX2_put_60 rfl 0 rfl rfl ?_
    refine ww_getR 0 64 dX2_put_61 wf_X2_15 (show ww_in (21, r0) from (show r0 < 104 by omega)) rfl rfl rfl ?_
    refine ww_aload_n 65 dX2_put_64 rfl 0 rfl rfl ?_
    refine ww_getI 1 68 dX2_put_65 wf_X2_21 (show ww_in (21, r0) from (show r0 < 104 by omega)) rfl rfl rfl ?_
    refine ww_iload_n 69 dX2_put_68 rfl 1 rfl rfl ?_
    obtain ⟨j1, hij1, hj1, h⟩ := h
    refine ww_iast j1 70 dX2_put_69 (show ww_in (22, r0) from (show r0 < 104 by omega)) rfl (ww_cap_lt _) hij1 hj1 rfl (fun τ2 eτ2 => ?_)
    replace h := h τ2 eτ2
    refine ww_aload_n 71 dX2_put_70 rfl 0 rfl rfl ?_
    refine ww_dup 72 dX2_put_71 rfl rfl ?_
    refine ww_getI 1 75 dX2_put_72 wf_X2_21 (show ww_in (21, r0) from (show r0 < 104 by omega)) rfl rfl rfl ?_
    refine ww_iconst (v := nI 1) 76 dX2_put_75 (by decide) rfl ?_
    refine ww_iadd 77 dX2_put_76 rfl ?_
    refine ww_putI 1 80 dX2_put_77 wf_X2_21 fp_X2_1 (show ww_in (21, r0) from (show r0 < 104 by omega)) rfl rfl rfl (fun τ3 eτ3 => ?_)
    replace h := h τ3 eτ3
    exact ww_vret dX2_put_80 rfl ⟨rfl, h⟩
theorem b_X2_copy {l : Launch} {g : ww_G} {τ : ww_M} {r0 : Nat} {r1 : Nat} {Post : ww_M → Prop} (hr0 : r0 < 104) (hr1 : r1 < 104) (h : ∀ E : ww_E, ww_W g mX2_copy E (ww_QV Post) 23 [some (.inr (.inr (21, r0))), some (.inr (.inr (21, r1))), some (.inl (if (if nI (ww_cap r0) < nI (ww_cap r1) then nI (ww_cap r0) else nI (ww_cap r1)) < τ (21, r1) 1 then (if nI (ww_cap r0) < nI (ww_cap r1) then nI (ww_cap r0) else nI (ww_cap r1)) else τ (21, r1) 1)), some (.inl (nI 0))] [] τ) : ww_T l g mX2_copy [.inr (.inr (21, r0)), .inr (.inr (21, r1))] τ (ww_QV Post) := by
  refine ww_enter (P := [some (.inr (.inr (21, r0))), some (.inr (.inr (21, r1))), none, none]) (by decide) (Nat.le_of_ble_eq_true rfl) rfl (fun E => ?_)
  replace h := h E
  refine ww_aload_n 1 dX2_copy_0 rfl 1 rfl rfl ?_
  refine ww_getI 1 4 dX2_copy_1 wf_X2_21 (show ww_in (21, r1) from (show r1 < 104 by omega)) rfl rfl rfl ?_
  refine ww_aload_n 5 dX2_copy_4 rfl 1 rfl rfl ?_
  refine ww_getR 0 8 dX2_copy_5 wf_X2_15 (show ww_in (21, r1) from (show r1 < 104 by omega)) rfl rfl rfl ?_
  refine ww_alnI 9 dX2_copy_8 (show ww_in (22, r1) from (show r1 < 104 by omega)) rfl rfl ?_
  refine ww_aload_n 10 dX2_copy_9 rfl 0 rfl rfl ?_
  refine ww_getR 0 13 dX2_copy_10 wf_X2_15 (show ww_in (21, r0) from (show r0 < 104 by omega)) rfl rfl rfl ?_
  refine ww_alnI 14 dX2_copy_13 (show ww_in (22, r0) from (show r0 < 104 by omega)) rfl rfl ?_
  refine ww_mmin 17 dX2_copy_14 wl_X2_32 ws_Math_min wi_J9 wc_Math_min (by decide) (Nat.le_of_ble_eq_true rfl) rfl ?_
  refine ww_mmin 20 dX2_copy_17 wl_X2_32 ws_Math_min wi_J9 wc_Math_min (by decide) (Nat.le_of_ble_eq_true rfl) rfl ?_
  refine ww_istore_n 21 dX2_copy_20 rfl 2 rfl (by decide) rfl [some (.inr (.inr (21, r0))), some (.inr (.inr (21, r1))), some (.inl (if (if nI (ww_cap r0) < nI (ww_cap r1) then nI (ww_cap r0) else nI (ww_cap r1)) < τ (21, r1) 1 then (if nI (ww_cap r0) < nI (ww_cap r1) then nI (ww_cap r0) else nI (ww_cap r1)) else τ (21, r1) 1)), none] rfl ?_
  refine ww_iconst (v := nI 0) 22 dX2_copy_21 (by decide) rfl ?_
  refine ww_istore_n 23 dX2_copy_22 rfl 3 rfl (by decide) rfl [some (.inr (.inr (21, r0))), some (.inr (.inr (21, r1))), some (.inl (if (if nI (ww_cap r0) < nI (ww_cap r1) then nI (ww_cap r0) else nI (ww_cap r1)) < τ (21, r1) 1 then (if nI (ww_cap r0) < nI (ww_cap r1) then nI (ww_cap r0) else nI (ww_cap r1)) else τ (21, r1) 1)), some (.inl (nI 0))] rfl ?_
  exact h
theorem b_X2_copy_23 {g : ww_G} {E : ww_E} {τ : ww_M} {r0 : Nat} {r1 : Nat} {x2 : Int32} {x3 : Int32} {Post : ww_M → Prop} (hr0 : r0 < 104) (hr1 : r1 < 104) (h : ((x2 ≤ x3 → (∀ τ1 : ww_M, τ1 = ww_up τ (21, r0) 1 x2 → Post τ1)) ∧ (¬ (x2 ≤ x3) → (∃ j2 : Nat, x3 = nI j2 ∧ j2 < ww_cap r1 ∧ (∃ j3 : Nat, x3 = nI j3 ∧ j3 < ww_cap r0 ∧ ∀ τ4 : ww_M, τ4 = ww_up τ (22, r0) j3 (τ (22, r1) j2) → ww_W g mX2_copy E (ww_QV Post) 23 [some (.inr (.inr (21, r0))), some (.inr (.inr (21, r1))), some (.inl x2), some (.inl (x3 + nI 1))] [] τ4))))) : ww_W g mX2_copy E (ww_QV Post) 23 [some (.inr (.inr (21, r0))), some (.inr (.inr (21, r1))), some (.inl x2), some (.inl x3)] [] τ := by
  refine ww_iload_n 24 dX2_copy_23 rfl 3 rfl rfl ?_
  refine ww_iload_n 25 dX2_copy_24 rfl 2 rfl rfl ?_
  refine ww_ic_ge 46 28 dX2_copy_25 (by decide) rfl (fun c => ?_) (fun c => ?_)
  · replace h := h.1 c
    refine ww_aload_n 47 dX2_copy_46 rfl 0 rfl rfl ?_
    refine ww_iload_n 48 dX2_copy_47 rfl 2 rfl rfl ?_
    refine ww_putI 1 51 dX2_copy_48 wf_X2_21 fp_X2_1 (show ww_in (21, r0) from (show r0 < 104 by omega)) rfl rfl rfl (fun τ1 eτ1 => ?_)
    replace h := h τ1 eτ1
    exact ww_vret dX2_copy_51 rfl ⟨rfl, h⟩
  · replace h := h.2 c
    refine ww_aload_n 29 dX2_copy_28 rfl 0 rfl rfl ?_
    refine ww_getR 0 32 dX2_copy_29 wf_X2_15 (show ww_in (21, r0) from (show r0 < 104 by omega)) rfl rfl rfl ?_
    refine ww_iload_n 33 dX2_copy_32 rfl 3 rfl rfl ?_
    refine ww_aload_n 34 dX2_copy_33 rfl 1 rfl rfl ?_
    refine ww_getR 0 37 dX2_copy_34 wf_X2_15 (show ww_in (21, r1) from (show r1 < 104 by omega)) rfl rfl rfl ?_
    refine ww_iload_n 38 dX2_copy_37 rfl 3 rfl rfl ?_
    obtain ⟨j2, hij2, hj2, h⟩ := h
    refine ww_iald j2 39 dX2_copy_38 (show ww_in (22, r1) from (show r1 < 104 by omega)) rfl (ww_cap_lt _) hij2 hj2 rfl ?_
    obtain ⟨j3, hij3, hj3, h⟩ := h
    refine ww_iast j3 40 dX2_copy_39 (show ww_in (22, r0) from (show r0 < 104 by omega)) rfl (ww_cap_lt _) hij3 hj3 rfl (fun τ4 eτ4 => ?_)
    replace h := h τ4 eτ4
    refine ww_iinc (nI 1) 43 3 dX2_copy_40 (by decide) rfl rfl (by decide) rfl [some (.inr (.inr (21, r0))), some (.inr (.inr (21, r1))), some (.inl x2), some (.inl (x3 + nI 1))] rfl ?_
    refine ww_goto 23 dX2_copy_43 (by decide) ?_
    exact h
theorem b_X2_putRow {l : Launch} {g : ww_G} {τ : ww_M} {r0 : Nat} {r1 : Nat} {Post : ww_M → Prop} (hr0 : r0 < 104) (hr1 : r1 < 104) (h : ∀ E : ww_E, (∃ Q1 : ww_M → Prop, ww_T E.2.1 g mX2_putPart [.inr (.inr (21, r0)), .inr (.inr (21, r1)), .inl (nI 0), .inl (τ (21, r1) 1)] τ (ww_QV Q1) ∧ ∀ (τ2 : ww_M), Q1 τ2 → Post τ2)) : ww_T l g mX2_putRow [.inr (.inr (21, r0)), .inr (.inr (21, r1))] τ (ww_QV Post) := by
  refine ww_enter (P := [some (.inr (.inr (21, r0))), some (.inr (.inr (21, r1)))]) (by decide) (Nat.le_of_ble_eq_true rfl) rfl (fun E => ?_)
  replace h := h E
  refine ww_aload_n 1 dX2_putRow_0 rfl 0 rfl rfl ?_
  refine ww_aload_n 2 dX2_putRow_1 rfl 1 rfl rfl ?_
  refine ww_iconst (v := nI 0) 3 dX2_putRow_2 (by decide) rfl ?_
  refine ww_aload_n 4 dX2_putRow_3 rfl 1 rfl rfl ?_
  refine ww_getI 1 7 dX2_putRow_4 wf_X2_21 (show ww_in (21, r1) from (show r1 < 104 by omega)) rfl rfl rfl ?_
  obtain ⟨Q1, hT, h⟩ := h
  refine ww_invVV (d' := mX2_putPart) [.inr (.inr (21, r1)), .inl (nI 0), .inl (τ (21, r1) 1)] rfl 10 dX2_putRow_7 ⟨wi_X2, wc_X2_putPart, wp_X2_putPart, by decide, by decide⟩ wl_X2_35 wn_X2_putPart we_X2_putPart (show ww_in (21, r0) from (show r0 < 104 by omega)) rfl rfl (Nat.le_of_ble_eq_true rfl) rfl hT (fun τ2 hq => ?_)
  replace h := h τ2 hq
  exact ww_vret dX2_putRow_10 rfl ⟨rfl, h⟩
theorem b_X2_putPart {l : Launch} {g : ww_G} {τ : ww_M} {r0 : Nat} {r1 : Nat} {a2 : Int32} {a3 : Int32} {Post : ww_M → Prop} (hr0 : r0 < 104) (hr1 : r1 < 104) (h : ∀ E : ww_E, ww_W g mX2_putPart E (ww_QV Post) 3 [some (.inr (.inr (21, r0))), some (.inr (.inr (21, r1))), none, some (.inl a3), some (.inl a2)] [] τ) : ww_T l g mX2_putPart [.inr (.inr (21, r0)), .inr (.inr (21, r1)), .inl a2, .inl a3] τ (ww_QV Post) := by
  refine ww_enter (P := [some (.inr (.inr (21, r0))), some (.inr (.inr (21, r1))), some (.inl a2), some (.inl a3), none]) (by decide) (Nat.le_of_ble_eq_true rfl) rfl (fun E => ?_)
  replace h := h E
  refine ww_iload_n 1 dX2_putPart_0 rfl 2 rfl rfl ?_
  refine ww_istore 3 4 dX2_putPart_1 rfl (by decide) rfl [some (.inr (.inr (21, r0))), some (.inr (.inr (21, r1))), some (.inl a2), some (.inl a3), some (.inl a2)] rfl ?_
  exact ww_weak (ww_le_s (ww_le_s (ww_le_n (ww_le_s (ww_le_s (ww_le_nil _)))))) h
theorem b_X2_putPart_3 {g : ww_G} {E : ww_E} {τ : ww_M} {r0 : Nat} {r1 : Nat} {x3 : Int32} {x4 : Int32} {Post : ww_M → Prop} (hr0 : r0 < 104) (hr1 : r1 < 104) (h : ((x3 ≤ x4 → Post τ) ∧ (¬ (x3 ≤ x4) → (∃ Q1 : Int32 → ww_M → Prop, ww_T E.2.1 g mX2_at [.inr (.inr (21, r1)), .inl x4] τ (ww_QI Q1) ∧ ∀ (v2 : Int32) (τ3 : ww_M), Q1 v2 τ3 → (∃ Q4 : ww_M → Prop, ww_T E.2.1 g mX2_put [.inr (.inr (21, r0)), .inl v2] τ3 (ww_QV Q4) ∧ ∀ (τ5 : ww_M), Q4 τ5 → ww_W g mX2_putPart E (ww_QV Post) 3 [some (.inr (.inr (21, r0))), some (.inr (.inr (21, r1))), none, some (.inl x3), some (.inl (x4 + nI 1))] [] τ5))))) : ww_W g mX2_putPart E (ww_QV Post) 3 [some (.inr (.inr (21, r0))), some (.inr (.inr (21, r1))), none, some (.inl x3), some (.inl x4)] [] τ := by
  refine ww_iload 5 4 dX2_putPart_3 rfl rfl ?_
  refine ww_iload_n 6 dX2_putPart_5 rfl 3 rfl rfl ?_
  refine ww_ic_ge 25 9 dX2_putPart_6 (by decide) rfl (fun c => ?_) (fun c => ?_)
  · replace h := h.1 c
    exact ww_vret dX2_putPart_25 rfl ⟨rfl, h⟩
  · replace h := h.2 c
    refine ww_aload_n 10 dX2_putPart_9 rfl 0 rfl rfl ?_
    refine ww_aload_n 11 dX2_putPart_10 rfl 1 rfl rfl ?_
    refine ww_iload 13 4 dX2_putPart_11 rfl rfl ?_
    obtain ⟨Q1, hT, h⟩ := h
    refine ww_invVI (d' := mX2_at) [.inl x4] rfl 16 dX2_putPart_13 ⟨wi_X2, wc_X2_at, wp_X2_at, by decide, by decide⟩ wl_X2_25 wn_X2_at we_X2_at (show ww_in (21, r1) from (show r1 < 104 by omega)) rfl rfl (Nat.le_of_ble_eq_true rfl) rfl hT (fun v2 τ3 hq => ?_)
    replace h := h v2 τ3 hq
    obtain ⟨Q4, hT, h⟩ := h
    refine ww_invVV (d' := mX2_put) [.inl v2] rfl 19 dX2_putPart_16 ⟨wi_X2, wc_X2_put, wp_X2_put, by decide, by decide⟩ wl_X2_39 wn_X2_put we_X2_put (show ww_in (21, r0) from (show r0 < 104 by omega)) rfl rfl (Nat.le_of_ble_eq_true rfl) rfl hT (fun τ5 hq => ?_)
    replace h := h τ5 hq
    refine ww_iinc (nI 1) 22 4 dX2_putPart_19 (by decide) rfl rfl (by decide) rfl [some (.inr (.inr (21, r0))), some (.inr (.inr (21, r1))), none, some (.inl x3), some (.inl (x4 + nI 1))] rfl ?_
    refine ww_goto 3 dX2_putPart_22 (by decide) ?_
    exact h
theorem b_X2_putInverse {l : Launch} {g : ww_G} {τ : ww_M} {r0 : Nat} {r1 : Nat} {Post : ww_M → Prop} (hr0 : r0 < 104) (hr1 : r1 < 104) (h : ∀ E : ww_E, ww_W g mX2_putInverse E (ww_QV Post) 7 [some (.inr (.inr (21, r0))), some (.inr (.inr (21, r1))), some (.inl ((τ (21, r1) 1) - (nI 1)))] [] τ) : ww_T l g mX2_putInverse [.inr (.inr (21, r0)), .inr (.inr (21, r1))] τ (ww_QV Post) := by
  refine ww_enter (P := [some (.inr (.inr (21, r0))), some (.inr (.inr (21, r1))), none]) (by decide) (Nat.le_of_ble_eq_true rfl) rfl (fun E => ?_)
  replace h := h E
  refine ww_aload_n 1 dX2_putInverse_0 rfl 1 rfl rfl ?_
  refine ww_getI 1 4 dX2_putInverse_1 wf_X2_21 (show ww_in (21, r1) from (show r1 < 104 by omega)) rfl rfl rfl ?_
  refine ww_iconst (v := nI 1) 5 dX2_putInverse_4 (by decide) rfl ?_
  refine ww_isub 6 dX2_putInverse_5 rfl ?_
  refine ww_istore_n 7 dX2_putInverse_6 rfl 2 rfl (by decide) rfl [some (.inr (.inr (21, r0))), some (.inr (.inr (21, r1))), some (.inl ((τ (21, r1) 1) - (nI 1)))] rfl ?_
  exact h
theorem b_X2_putInverse_7 {g : ww_G} {E : ww_E} {τ : ww_M} {r0 : Nat} {r1 : Nat} {x2 : Int32} {Post : ww_M → Prop} (hr0 : r0 < 104) (hr1 : r1 < 104) (h : ((x2 < nI 0 → Post τ) ∧ (¬ (x2 < nI 0) → (∃ Q1 : Int32 → ww_M → Prop, ww_T E.2.1 g mX2_at [.inr (.inr (21, r1)), .inl x2] τ (ww_QI Q1) ∧ ∀ (v2 : Int32) (τ3 : ww_M), Q1 v2 τ3 → (∃ Q4 : Int32 → ww_M → Prop, ww_T E.2.1 g mX5_opposite [.inl v2] τ3 (ww_QI Q4) ∧ ∀ (v5 : Int32) (τ6 : ww_M), Q4 v5 τ6 → (∃ Q7 : ww_M → Prop, ww_T E.2.1 g mX2_put [.inr (.inr (21, r0)), .inl v5] τ6 (ww_QV Q7) ∧ ∀ (τ8 : ww_M), Q7 τ8 → ww_W g mX2_putInverse E (ww_QV Post) 7 [some (.inr (.inr (21, r0))), some (.inr (.inr (21, r1))), some (.inl (x2 + (-1 : Int32)))] [] τ8)))))) : ww_W g mX2_putInverse E (ww_QV Post) 7 [some (.inr (.inr (21, r0))), some (.inr (.inr (21, r1))), some (.inl x2)] [] τ := by
  refine ww_iload_n 8 dX2_putInverse_7 rfl 2 rfl rfl ?_
  refine ww_if_lt 29 11 dX2_putInverse_8 (by decide) rfl (fun c => ?_) (fun c => ?_)
  · replace h := h.1 c
    exact ww_vret dX2_putInverse_29 rfl ⟨rfl, h⟩
  · replace h := h.2 c
    refine ww_aload_n 12 dX2_putInverse_11 rfl 0 rfl rfl ?_
    refine ww_aload_n 13 dX2_putInverse_12 rfl 1 rfl rfl ?_
    refine ww_iload_n 14 dX2_putInverse_13 rfl 2 rfl rfl ?_
    obtain ⟨Q1, hT, h⟩ := h
    refine ww_invVI (d' := mX2_at) [.inl x2] rfl 17 dX2_putInverse_14 ⟨wi_X2, wc_X2_at, wp_X2_at, by decide, by decide⟩ wl_X2_25 wn_X2_at we_X2_at (show ww_in (21, r1) from (show r1 < 104 by omega)) rfl rfl (Nat.le_of_ble_eq_true rfl) rfl hT (fun v2 τ3 hq => ?_)
    replace h := h v2 τ3 hq
    obtain ⟨Q4, hT, h⟩ := h
    refine ww_invSI (d' := mX5_opposite) [.inl v2] rfl 20 dX2_putInverse_17 ⟨wi_X5, wc_X5_opposite, wp_X5_opposite, by decide, by decide⟩ (Or.inr ⟨"PieceWords", List.mem_of_getElem? (i := 1) rfl⟩) wn_X5_opposite (Nat.le_of_ble_eq_true rfl) rfl hT (fun v5 τ6 hq => ?_)
    replace h := h v5 τ6 hq
    obtain ⟨Q7, hT, h⟩ := h
    refine ww_invVV (d' := mX2_put) [.inl v5] rfl 23 dX2_putInverse_20 ⟨wi_X2, wc_X2_put, wp_X2_put, by decide, by decide⟩ wl_X2_39 wn_X2_put we_X2_put (show ww_in (21, r0) from (show r0 < 104 by omega)) rfl rfl (Nat.le_of_ble_eq_true rfl) rfl hT (fun τ8 hq => ?_)
    replace h := h τ8 hq
    refine ww_iinc (-1 : Int32) 26 2 dX2_putInverse_23 (by decide) rfl rfl (by decide) rfl [some (.inr (.inr (21, r0))), some (.inr (.inr (21, r1))), some (.inl (x2 + (-1 : Int32)))] rfl ?_
    refine ww_goto 7 dX2_putInverse_26 (by decide) ?_
    exact h
theorem b_X2_putTurn {l : Launch} {g : ww_G} {τ : ww_M} {r0 : Nat} {r1 : Nat} {a2 : Int32} {Post : ww_M → Prop} (hr0 : r0 < 104) (hr1 : r1 < 104) (h : ∀ E : ww_E, (∃ Q1 : ww_M → Prop, ww_T E.2.1 g mX2_putPart [.inr (.inr (21, r0)), .inr (.inr (21, r1)), .inl a2, .inl (τ (21, r1) 1)] τ (ww_QV Q1) ∧ ∀ (τ2 : ww_M), Q1 τ2 → (∃ Q3 : ww_M → Prop, ww_T E.2.1 g mX2_putPart [.inr (.inr (21, r0)), .inr (.inr (21, r1)), .inl (nI 0), .inl (if τ2 (21, r1) 1 < a2 then τ2 (21, r1) 1 else a2)] τ2 (ww_QV Q3) ∧ ∀ (τ4 : ww_M), Q3 τ4 → Post τ4))) : ww_T l g mX2_putTurn [.inr (.inr (21, r0)), .inr (.inr (21, r1)), .inl a2] τ (ww_QV Post) := by
  refine ww_enter (P := [some (.inr (.inr (21, r0))), some (.inr (.inr (21, r1))), some (.inl a2)]) (by decide) (Nat.le_of_ble_eq_true rfl) rfl (fun E => ?_)
  replace h := h E
  refine ww_aload_n 1 dX2_putTurn_0 rfl 0 rfl rfl ?_
  refine ww_aload_n 2 dX2_putTurn_1 rfl 1 rfl rfl ?_
  refine ww_iload_n 3 dX2_putTurn_2 rfl 2 rfl rfl ?_
  refine ww_aload_n 4 dX2_putTurn_3 rfl 1 rfl rfl ?_
  refine ww_getI 1 7 dX2_putTurn_4 wf_X2_21 (show ww_in (21, r1) from (show r1 < 104 by omega)) rfl rfl rfl ?_
  obtain ⟨Q1, hT, h⟩ := h
  refine ww_invVV (d' := mX2_putPart) [.inr (.inr (21, r1)), .inl a2, .inl (τ (21, r1) 1)] rfl 10 dX2_putTurn_7 ⟨wi_X2, wc_X2_putPart, wp_X2_putPart, by decide, by decide⟩ wl_X2_35 wn_X2_putPart we_X2_putPart (show ww_in (21, r0) from (show r0 < 104 by omega)) rfl rfl (Nat.le_of_ble_eq_true rfl) rfl hT (fun τ2 hq => ?_)
  replace h := h τ2 hq
  refine ww_aload_n 11 dX2_putTurn_10 rfl 0 rfl rfl ?_
  refine ww_aload_n 12 dX2_putTurn_11 rfl 1 rfl rfl ?_
  refine ww_iconst (v := nI 0) 13 dX2_putTurn_12 (by decide) rfl ?_
  refine ww_iload_n 14 dX2_putTurn_13 rfl 2 rfl rfl ?_
  refine ww_aload_n 15 dX2_putTurn_14 rfl 1 rfl rfl ?_
  refine ww_getI 1 18 dX2_putTurn_15 wf_X2_21 (show ww_in (21, r1) from (show r1 < 104 by omega)) rfl rfl rfl ?_
  refine ww_mmin 21 dX2_putTurn_18 wl_X2_32 ws_Math_min wi_J9 wc_Math_min (by decide) (Nat.le_of_ble_eq_true rfl) rfl ?_
  obtain ⟨Q3, hT, h⟩ := h
  refine ww_invVV (d' := mX2_putPart) [.inr (.inr (21, r1)), .inl (nI 0), .inl (if τ2 (21, r1) 1 < a2 then τ2 (21, r1) 1 else a2)] rfl 24 dX2_putTurn_21 ⟨wi_X2, wc_X2_putPart, wp_X2_putPart, by decide, by decide⟩ wl_X2_35 wn_X2_putPart we_X2_putPart (show ww_in (21, r0) from (show r0 < 104 by omega)) rfl rfl (Nat.le_of_ble_eq_true rfl) rfl hT (fun τ4 hq => ?_)
  replace h := h τ4 hq
  exact ww_vret dX2_putTurn_24 rfl ⟨rfl, h⟩
theorem b_X2_cutToRing {l : Launch} {g : ww_G} {τ : ww_M} {r0 : Nat} {Post : ww_M → Prop} (hr0 : r0 < 104) (h : ∀ E : ww_E, ww_W g mX2_cutToRing E (ww_QV Post) 2 [some (.inr (.inr (21, r0))), some (.inl (nI 0)), none, none] [] τ) : ww_T l g mX2_cutToRing [.inr (.inr (21, r0))] τ (ww_QV Post) := by
  refine ww_enter (P := [some (.inr (.inr (21, r0))), none, none, none]) (by decide) (Nat.le_of_ble_eq_true rfl) rfl (fun E => ?_)
  replace h := h E
  refine ww_iconst (v := nI 0) 1 dX2_cutToRing_0 (by decide) rfl ?_
  refine ww_istore_n 2 dX2_cutToRing_1 rfl 1 rfl (by decide) rfl [some (.inr (.inr (21, r0))), some (.inl (nI 0)), none, none] rfl ?_
  exact h
theorem b_X2_cutToRing_2 {g : ww_G} {E : ww_E} {τ : ww_M} {r0 : Nat} {x1 : Int32} {Post : ww_M → Prop} (hr0 : r0 < 104) (h : ((τ (21, r0) 1 ≤ ((nI 2) * x1) + (nI 1) → ww_W g mX2_cutToRing E (ww_QV Post) 54 [some (.inr (.inr (21, r0))), some (.inl x1), some (.inl ((τ (21, r0) 1) - ((nI 2) * x1))), some (.inl (nI 0))] [] τ) ∧ (¬ (τ (21, r0) 1 ≤ ((nI 2) * x1) + (nI 1)) → (∃ Q1 : Int32 → ww_M → Prop, ww_T E.2.1 g mX2_at [.inr (.inr (21, r0)), .inl x1] τ (ww_QI Q1) ∧ ∀ (v2 : Int32) (τ3 : ww_M), Q1 v2 τ3 → (∃ Q4 : Int32 → ww_M → Prop, ww_T E.2.1 g mX2_at [.inr (.inr (21, r0)), .inl (((τ3 (21, r0) 1) - (nI 1)) - x1)] τ3 (ww_QI Q4) ∧ ∀ (v5 : Int32) (τ6 : ww_M), Q4 v5 τ6 → (∃ Q7 : Int32 → ww_M → Prop, ww_T E.2.1 g mX5_opposite [.inl v5] τ6 (ww_QI Q7) ∧ ∀ (v8 : Int32) (τ9 : ww_M), Q7 v8 τ9 → (¬ v2 = v8 → ww_W g mX2_cutToRing E (ww_QV Post) 54 [some (.inr (.inr (21, r0))), some (.inl x1), some (.inl ((τ9 (21, r0) 1) - ((nI 2) * x1))), some (.inl (nI 0))] [] τ9) ∧ (v2 = v8 → ww_W g mX2_cutToRing E (ww_QV Post) 2 [some (.inr (.inr (21, r0))), some (.inl (x1 + nI 1)), none, none] [] τ9))))))) : ww_W g mX2_cutToRing E (ww_QV Post) 2 [some (.inr (.inr (21, r0))), some (.inl x1), none, none] [] τ := by
  refine ww_iconst (v := nI 2) 3 dX2_cutToRing_2 (by decide) rfl ?_
  refine ww_iload_n 4 dX2_cutToRing_3 rfl 1 rfl rfl ?_
  refine ww_imul 5 dX2_cutToRing_4 rfl ?_
  refine ww_iconst (v := nI 1) 6 dX2_cutToRing_5 (by decide) rfl ?_
  refine ww_iadd 7 dX2_cutToRing_6 rfl ?_
  refine ww_aload_n 8 dX2_cutToRing_7 rfl 0 rfl rfl ?_
  refine ww_getI 1 11 dX2_cutToRing_8 wf_X2_21 (show ww_in (21, r0) from (show r0 < 104 by omega)) rfl rfl rfl ?_
  refine ww_ic_ge 43 14 dX2_cutToRing_11 (by decide) rfl (fun c => ?_) (fun c => ?_)
  · replace h := h.1 c
    refine ww_aload_n 44 dX2_cutToRing_43 rfl 0 rfl rfl ?_
    refine ww_getI 1 47 dX2_cutToRing_44 wf_X2_21 (show ww_in (21, r0) from (show r0 < 104 by omega)) rfl rfl rfl ?_
    refine ww_iconst (v := nI 2) 48 dX2_cutToRing_47 (by decide) rfl ?_
    refine ww_iload_n 49 dX2_cutToRing_48 rfl 1 rfl rfl ?_
    refine ww_imul 50 dX2_cutToRing_49 rfl ?_
    refine ww_isub 51 dX2_cutToRing_50 rfl ?_
    refine ww_istore_n 52 dX2_cutToRing_51 rfl 2 rfl (by decide) rfl [some (.inr (.inr (21, r0))), some (.inl x1), some (.inl ((τ (21, r0) 1) - ((nI 2) * x1))), none] rfl ?_
    refine ww_iconst (v := nI 0) 53 dX2_cutToRing_52 (by decide) rfl ?_
    refine ww_istore_n 54 dX2_cutToRing_53 rfl 3 rfl (by decide) rfl [some (.inr (.inr (21, r0))), some (.inl x1), some (.inl ((τ (21, r0) 1) - ((nI 2) * x1))), some (.inl (nI 0))] rfl ?_
    exact h
  · replace h := h.2 c
    refine ww_aload_n 15 dX2_cutToRing_14 rfl 0 rfl rfl ?_
    refine ww_iload_n 16 dX2_cutToRing_15 rfl 1 rfl rfl ?_
    obtain ⟨Q1, hT, h⟩ := h
    refine ww_invVI (d' := mX2_at) [.inl x1] rfl 19 dX2_cutToRing_16 ⟨wi_X2, wc_X2_at, wp_X2_at, by decide, by decide⟩ wl_X2_25 wn_X2_at we_X2_at (show ww_in (21, r0) from (show r0 < 104 by omega)) rfl rfl (Nat.le_of_ble_eq_true rfl) rfl hT (fun v2 τ3 hq => ?_)
    replace h := h v2 τ3 hq
    refine ww_aload_n 20 dX2_cutToRing_19 rfl 0 rfl rfl ?_
    refine ww_aload_n 21 dX2_cutToRing_20 rfl 0 rfl rfl ?_
    refine ww_getI 1 24 dX2_cutToRing_21 wf_X2_21 (show ww_in (21, r0) from (show r0 < 104 by omega)) rfl rfl rfl ?_
    refine ww_iconst (v := nI 1) 25 dX2_cutToRing_24 (by decide) rfl ?_
    refine ww_isub 26 dX2_cutToRing_25 rfl ?_
    refine ww_iload_n 27 dX2_cutToRing_26 rfl 1 rfl rfl ?_
    refine ww_isub 28 dX2_cutToRing_27 rfl ?_
    obtain ⟨Q4, hT, h⟩ := h
    refine ww_invVI (d' := mX2_at) [.inl (((τ3 (21, r0) 1) - (nI 1)) - x1)] rfl 31 dX2_cutToRing_28 ⟨wi_X2, wc_X2_at, wp_X2_at, by decide, by decide⟩ wl_X2_25 wn_X2_at we_X2_at (show ww_in (21, r0) from (show r0 < 104 by omega)) rfl rfl (Nat.le_of_ble_eq_true rfl) rfl hT (fun v5 τ6 hq => ?_)
    replace h := h v5 τ6 hq
    obtain ⟨Q7, hT, h⟩ := h
    refine ww_invSI (d' := mX5_opposite) [.inl v5] rfl 34 dX2_cutToRing_31 ⟨wi_X5, wc_X5_opposite, wp_X5_opposite, by decide, by decide⟩ (Or.inr ⟨"PieceWords", List.mem_of_getElem? (i := 1) rfl⟩) wn_X5_opposite (Nat.le_of_ble_eq_true rfl) rfl hT (fun v8 τ9 hq => ?_)
    replace h := h v8 τ9 hq
    refine ww_ic_ne 43 37 dX2_cutToRing_34 (by decide) rfl (fun c => ?_) (fun c => ?_)
    · replace h := h.1 c
      refine ww_aload_n 44 dX2_cutToRing_43 rfl 0 rfl rfl ?_
      refine ww_getI 1 47 dX2_cutToRing_44 wf_X2_21 (show ww_in (21, r0) from (show r0 < 104 by omega)) rfl rfl rfl ?_
      refine ww_iconst (v := nI 2) 48 dX2_cutToRing_47 (by decide) rfl ?_
      refine ww_iload_n 49 dX2_cutToRing_48 rfl 1 rfl rfl ?_
      refine ww_imul 50 dX2_cutToRing_49 rfl ?_
      refine ww_isub 51 dX2_cutToRing_50 rfl ?_
      refine ww_istore_n 52 dX2_cutToRing_51 rfl 2 rfl (by decide) rfl [some (.inr (.inr (21, r0))), some (.inl x1), some (.inl ((τ9 (21, r0) 1) - ((nI 2) * x1))), none] rfl ?_
      refine ww_iconst (v := nI 0) 53 dX2_cutToRing_52 (by decide) rfl ?_
      refine ww_istore_n 54 dX2_cutToRing_53 rfl 3 rfl (by decide) rfl [some (.inr (.inr (21, r0))), some (.inl x1), some (.inl ((τ9 (21, r0) 1) - ((nI 2) * x1))), some (.inl (nI 0))] rfl ?_
      exact h
    · replace h := h.2 c
      refine ww_iinc (nI 1) 40 1 dX2_cutToRing_37 (by decide) rfl rfl (by decide) rfl [some (.inr (.inr (21, r0))), some (.inl (x1 + nI 1)), none, none] rfl ?_
      refine ww_goto 2 dX2_cutToRing_40 (by decide) ?_
      exact h
theorem b_X2_cutToRing_54 {g : ww_G} {E : ww_E} {τ : ww_M} {r0 : Nat} {x1 : Int32} {x2 : Int32} {x3 : Int32} {Post : ww_M → Prop} (hr0 : r0 < 104) (h : ((x2 ≤ x3 → (∀ τ1 : ww_M, τ1 = ww_up τ (21, r0) 1 x2 → Post τ1)) ∧ (¬ (x2 ≤ x3) → ((nI (ww_cap r0) ≤ x3 + x1 → (∀ τ2 : ww_M, τ2 = ww_up τ (21, r0) 1 x2 → Post τ2)) ∧ (¬ (nI (ww_cap r0) ≤ x3 + x1) → (∃ j3 : Nat, x3 + x1 = nI j3 ∧ j3 < ww_cap r0 ∧ (∃ j4 : Nat, x3 = nI j4 ∧ j4 < ww_cap r0 ∧ ∀ τ5 : ww_M, τ5 = ww_up τ (22, r0) j4 (τ (22, r0) j3) → ww_W g mX2_cutToRing E (ww_QV Post) 54 [some (.inr (.inr (21, r0))), some (.inl x1), some (.inl x2), some (.inl (x3 + nI 1))] [] τ5))))))) : ww_W g mX2_cutToRing E (ww_QV Post) 54 [some (.inr (.inr (21, r0))), some (.inl x1), some (.inl x2), some (.inl x3)] [] τ := by
  refine ww_iload_n 55 dX2_cutToRing_54 rfl 3 rfl rfl ?_
  refine ww_iload_n 56 dX2_cutToRing_55 rfl 2 rfl rfl ?_
  refine ww_ic_ge 90 59 dX2_cutToRing_56 (by decide) rfl (fun c => ?_) (fun c => ?_)
  · replace h := h.1 c
    refine ww_aload_n 91 dX2_cutToRing_90 rfl 0 rfl rfl ?_
    refine ww_iload_n 92 dX2_cutToRing_91 rfl 2 rfl rfl ?_
    refine ww_putI 1 95 dX2_cutToRing_92 wf_X2_21 fp_X2_1 (show ww_in (21, r0) from (show r0 < 104 by omega)) rfl rfl rfl (fun τ1 eτ1 => ?_)
    replace h := h τ1 eτ1
    exact ww_vret dX2_cutToRing_95 rfl ⟨rfl, h⟩
  · replace h := h.2 c
    refine ww_iload_n 60 dX2_cutToRing_59 rfl 3 rfl rfl ?_
    refine ww_iload_n 61 dX2_cutToRing_60 rfl 1 rfl rfl ?_
    refine ww_iadd 62 dX2_cutToRing_61 rfl ?_
    refine ww_aload_n 63 dX2_cutToRing_62 rfl 0 rfl rfl ?_
    refine ww_getR 0 66 dX2_cutToRing_63 wf_X2_15 (show ww_in (21, r0) from (show r0 < 104 by omega)) rfl rfl rfl ?_
    refine ww_alnI 67 dX2_cutToRing_66 (show ww_in (22, r0) from (show r0 < 104 by omega)) rfl rfl ?_
    refine ww_ic_ge 90 70 dX2_cutToRing_67 (by decide) rfl (fun c => ?_) (fun c => ?_)
    · replace h := h.1 c
      refine ww_aload_n 91 dX2_cutToRing_90 rfl 0 rfl rfl ?_
      refine ww_iload_n 92 dX2_cutToRing_91 rfl 2 rfl rfl ?_
      refine ww_putI 1 95 dX2_cutToRing_92 wf_X2_21 fp_X2_1 (show ww_in (21, r0) from (show r0 < 104 by omega)) rfl rfl rfl (fun τ2 eτ2 => ?_)
      replace h := h τ2 eτ2
      exact ww_vret dX2_cutToRing_95 rfl ⟨rfl, h⟩
    · replace h := h.2 c
      refine ww_aload_n 71 dX2_cutToRing_70 rfl 0 rfl rfl ?_
      refine ww_getR 0 74 dX2_cutToRing_71 wf_X2_15 (show ww_in (21, r0) from (show r0 < 104 by omega)) rfl rfl rfl ?_
      refine ww_iload_n 75 dX2_cutToRing_74 rfl 3 rfl rfl ?_
      refine ww_aload_n 76 dX2_cutToRing_75 rfl 0 rfl rfl ?_
      refine ww_getR 0 79 dX2_cutToRing_76 wf_X2_15 (show ww_in (21, r0) from (show r0 < 104 by omega)) rfl rfl rfl ?_
      refine ww_iload_n 80 dX2_cutToRing_79 rfl 3 rfl rfl ?_
      refine ww_iload_n 81 dX2_cutToRing_80 rfl 1 rfl rfl ?_
      refine ww_iadd 82 dX2_cutToRing_81 rfl ?_
      obtain ⟨j3, hij3, hj3, h⟩ := h
      refine ww_iald j3 83 dX2_cutToRing_82 (show ww_in (22, r0) from (show r0 < 104 by omega)) rfl (ww_cap_lt _) hij3 hj3 rfl ?_
      obtain ⟨j4, hij4, hj4, h⟩ := h
      refine ww_iast j4 84 dX2_cutToRing_83 (show ww_in (22, r0) from (show r0 < 104 by omega)) rfl (ww_cap_lt _) hij4 hj4 rfl (fun τ5 eτ5 => ?_)
      replace h := h τ5 eτ5
      refine ww_iinc (nI 1) 87 3 dX2_cutToRing_84 (by decide) rfl rfl (by decide) rfl [some (.inr (.inr (21, r0))), some (.inl x1), some (.inl x2), some (.inl (x3 + nI 1))] rfl ?_
      refine ww_goto 54 dX2_cutToRing_87 (by decide) ?_
      exact h
theorem b_X2_likeFrom {l : Launch} {g : ww_G} {τ : ww_M} {r0 : Nat} {a1 : Int32} {r2 : Nat} {Post : Int32 → ww_M → Prop} (hr0 : r0 < 104) (hr2 : r2 < 104) (h : ∀ E : ww_E, ((nI 0 ≤ a1 → ww_W g mX2_likeFrom E (ww_QI Post) 23 [some (.inr (.inr (21, r0))), some (.inl a1), some (.inr (.inr (21, r2))), some (.inl (if τ (21, r2) 1 < (τ (21, r0) 1) - a1 then τ (21, r2) 1 else (τ (21, r0) 1) - a1)), some (.inl (nI 0))] [] τ) ∧ (¬ (nI 0 ≤ a1) → Post (nI 0) τ))) : ww_T l g mX2_likeFrom [.inr (.inr (21, r0)), .inl a1, .inr (.inr (21, r2))] τ (ww_QI Post) := by
  refine ww_enter (P := [some (.inr (.inr (21, r0))), some (.inl a1), some (.inr (.inr (21, r2))), none, none]) (by decide) (Nat.le_of_ble_eq_true rfl) rfl (fun E => ?_)
  replace h := h E
  refine ww_iload_n 1 dX2_likeFrom_0 rfl 1 rfl rfl ?_
  refine ww_if_ge 6 4 dX2_likeFrom_1 (by decide) rfl (fun c => ?_) (fun c => ?_)
  · replace h := h.1 c
    refine ww_aload_n 7 dX2_likeFrom_6 rfl 0 rfl rfl ?_
    refine ww_getI 1 10 dX2_likeFrom_7 wf_X2_21 (show ww_in (21, r0) from (show r0 < 104 by omega)) rfl rfl rfl ?_
    refine ww_iload_n 11 dX2_likeFrom_10 rfl 1 rfl rfl ?_
    refine ww_isub 12 dX2_likeFrom_11 rfl ?_
    refine ww_aload_n 13 dX2_likeFrom_12 rfl 2 rfl rfl ?_
    refine ww_getI 1 16 dX2_likeFrom_13 wf_X2_21 (show ww_in (21, r2) from (show r2 < 104 by omega)) rfl rfl rfl ?_
    refine ww_mmin 19 dX2_likeFrom_16 wl_X2_32 ws_Math_min wi_J9 wc_Math_min (by decide) (Nat.le_of_ble_eq_true rfl) rfl ?_
    refine ww_istore_n 20 dX2_likeFrom_19 rfl 3 rfl (by decide) rfl [some (.inr (.inr (21, r0))), some (.inl a1), some (.inr (.inr (21, r2))), some (.inl (if τ (21, r2) 1 < (τ (21, r0) 1) - a1 then τ (21, r2) 1 else (τ (21, r0) 1) - a1)), none] rfl ?_
    refine ww_iconst (v := nI 0) 21 dX2_likeFrom_20 (by decide) rfl ?_
    refine ww_istore 23 4 dX2_likeFrom_21 rfl (by decide) rfl [some (.inr (.inr (21, r0))), some (.inl a1), some (.inr (.inr (21, r2))), some (.inl (if τ (21, r2) 1 < (τ (21, r0) 1) - a1 then τ (21, r2) 1 else (τ (21, r0) 1) - a1)), some (.inl (nI 0))] rfl ?_
    exact h
  · replace h := h.2 c
    refine ww_iconst (v := nI 0) 5 dX2_likeFrom_4 (by decide) rfl ?_
    exact ww_iret dX2_likeFrom_5 rfl ⟨_, rfl, h⟩
theorem b_X2_likeFrom_23 {g : ww_G} {E : ww_E} {τ : ww_M} {r0 : Nat} {x1 : Int32} {r2 : Nat} {x3 : Int32} {x4 : Int32} {Post : Int32 → ww_M → Prop} (hr0 : r0 < 104) (hr2 : r2 < 104) (h : ((x3 ≤ x4 → Post x4 τ) ∧ (¬ (x3 ≤ x4) → (∃ Q1 : Int32 → ww_M → Prop, ww_T E.2.1 g mX2_at [.inr (.inr (21, r0)), .inl (x1 + x4)] τ (ww_QI Q1) ∧ ∀ (v2 : Int32) (τ3 : ww_M), Q1 v2 τ3 → (∃ Q4 : Int32 → ww_M → Prop, ww_T E.2.1 g mX2_at [.inr (.inr (21, r2)), .inl x4] τ3 (ww_QI Q4) ∧ ∀ (v5 : Int32) (τ6 : ww_M), Q4 v5 τ6 → (¬ v2 = v5 → Post x4 τ6) ∧ (v2 = v5 → ww_W g mX2_likeFrom E (ww_QI Post) 23 [some (.inr (.inr (21, r0))), some (.inl x1), some (.inr (.inr (21, r2))), some (.inl x3), some (.inl (x4 + nI 1))] [] τ6)))))) : ww_W g mX2_likeFrom E (ww_QI Post) 23 [some (.inr (.inr (21, r0))), some (.inl x1), some (.inr (.inr (21, r2))), some (.inl x3), some (.inl x4)] [] τ := by
  refine ww_iload 25 4 dX2_likeFrom_23 rfl rfl ?_
  refine ww_iload_n 26 dX2_likeFrom_25 rfl 3 rfl rfl ?_
  refine ww_ic_ge 52 29 dX2_likeFrom_26 (by decide) rfl (fun c => ?_) (fun c => ?_)
  · replace h := h.1 c
    refine ww_iload 54 4 dX2_likeFrom_52 rfl rfl ?_
    exact ww_iret dX2_likeFrom_54 rfl ⟨_, rfl, h⟩
  · replace h := h.2 c
    refine ww_aload_n 30 dX2_likeFrom_29 rfl 0 rfl rfl ?_
    refine ww_iload_n 31 dX2_likeFrom_30 rfl 1 rfl rfl ?_
    refine ww_iload 33 4 dX2_likeFrom_31 rfl rfl ?_
    refine ww_iadd 34 dX2_likeFrom_33 rfl ?_
    obtain ⟨Q1, hT, h⟩ := h
    refine ww_invVI (d' := mX2_at) [.inl (x1 + x4)] rfl 37 dX2_likeFrom_34 ⟨wi_X2, wc_X2_at, wp_X2_at, by decide, by decide⟩ wl_X2_25 wn_X2_at we_X2_at (show ww_in (21, r0) from (show r0 < 104 by omega)) rfl rfl (Nat.le_of_ble_eq_true rfl) rfl hT (fun v2 τ3 hq => ?_)
    replace h := h v2 τ3 hq
    refine ww_aload_n 38 dX2_likeFrom_37 rfl 2 rfl rfl ?_
    refine ww_iload 40 4 dX2_likeFrom_38 rfl rfl ?_
    obtain ⟨Q4, hT, h⟩ := h
    refine ww_invVI (d' := mX2_at) [.inl x4] rfl 43 dX2_likeFrom_40 ⟨wi_X2, wc_X2_at, wp_X2_at, by decide, by decide⟩ wl_X2_25 wn_X2_at we_X2_at (show ww_in (21, r2) from (show r2 < 104 by omega)) rfl rfl (Nat.le_of_ble_eq_true rfl) rfl hT (fun v5 τ6 hq => ?_)
    replace h := h v5 τ6 hq
    refine ww_ic_ne 52 46 dX2_likeFrom_43 (by decide) rfl (fun c => ?_) (fun c => ?_)
    · replace h := h.1 c
      refine ww_iload 54 4 dX2_likeFrom_52 rfl rfl ?_
      exact ww_iret dX2_likeFrom_54 rfl ⟨_, rfl, h⟩
    · replace h := h.2 c
      refine ww_iinc (nI 1) 49 4 dX2_likeFrom_46 (by decide) rfl rfl (by decide) rfl [some (.inr (.inr (21, r0))), some (.inl x1), some (.inr (.inr (21, r2))), some (.inl x3), some (.inl (x4 + nI 1))] rfl ?_
      refine ww_goto 23 dX2_likeFrom_49 (by decide) ?_
      exact h
theorem b_X2_surplusOf {l : Launch} {g : ww_G} {τ : ww_M} {r0 : Nat} {a1 : Int32} {Post : Int32 → ww_M → Prop} (hr0 : r0 < 104) (h : ∀ E : ww_E, ww_W g mX2_surplusOf E (ww_QI Post) 4 [some (.inr (.inr (21, r0))), some (.inl a1), some (.inl (nI 0)), some (.inl (nI 0))] [] τ) : ww_T l g mX2_surplusOf [.inr (.inr (21, r0)), .inl a1] τ (ww_QI Post) := by
  refine ww_enter (P := [some (.inr (.inr (21, r0))), some (.inl a1), none, none]) (by decide) (Nat.le_of_ble_eq_true rfl) rfl (fun E => ?_)
  replace h := h E
  refine ww_iconst (v := nI 0) 1 dX2_surplusOf_0 (by decide) rfl ?_
  refine ww_istore_n 2 dX2_surplusOf_1 rfl 2 rfl (by decide) rfl [some (.inr (.inr (21, r0))), some (.inl a1), some (.inl (nI 0)), none] rfl ?_
  refine ww_iconst (v := nI 0) 3 dX2_surplusOf_2 (by decide) rfl ?_
  refine ww_istore_n 4 dX2_surplusOf_3 rfl 3 rfl (by decide) rfl [some (.inr (.inr (21, r0))), some (.inl a1), some (.inl (nI 0)), some (.inl (nI 0))] rfl ?_
  exact h
theorem b_X2_surplusOf_4 {g : ww_G} {E : ww_E} {τ : ww_M} {r0 : Nat} {x1 : Int32} {x2 : Int32} {x3 : Int32} {Post : Int32 → ww_M → Prop} (hr0 : r0 < 104) (h : ((τ (21, r0) 1 ≤ x3 → Post x2 τ) ∧ (¬ (τ (21, r0) 1 ≤ x3) → (∃ Q1 : Int32 → ww_M → Prop, ww_T E.2.1 g mX2_at [.inr (.inr (21, r0)), .inl x3] τ (ww_QI Q1) ∧ ∀ (v2 : Int32) (τ3 : ww_M), Q1 v2 τ3 → (¬ v2 = x1 → (∃ Q4 : Int32 → ww_M → Prop, ww_T E.2.1 g mX2_at [.inr (.inr (21, r0)), .inl x3] τ3 (ww_QI Q4) ∧ ∀ (v5 : Int32) (τ6 : ww_M), Q4 v5 τ6 → (∃ Q7 : Int32 → ww_M → Prop, ww_T E.2.1 g mX5_opposite [.inl x1] τ6 (ww_QI Q7) ∧ ∀ (v8 : Int32) (τ9 : ww_M), Q7 v8 τ9 → (¬ v5 = v8 → ww_W g mX2_surplusOf E (ww_QI Post) 4 [some (.inr (.inr (21, r0))), some (.inl x1), some (.inl x2), some (.inl (x3 + nI 1))] [] τ9) ∧ (v5 = v8 → ww_W g mX2_surplusOf E (ww_QI Post) 4 [some (.inr (.inr (21, r0))), some (.inl x1), some (.inl (x2 + (-1 : Int32))), some (.inl (x3 + nI 1))] [] τ9)))) ∧ (v2 = x1 → ww_W g mX2_surplusOf E (ww_QI Post) 4 [some (.inr (.inr (21, r0))), some (.inl x1), some (.inl (x2 + nI 1)), some (.inl (x3 + nI 1))] [] τ3))))) : ww_W g mX2_surplusOf E (ww_QI Post) 4 [some (.inr (.inr (21, r0))), some (.inl x1), some (.inl x2), some (.inl x3)] [] τ := by
  refine ww_iload_n 5 dX2_surplusOf_4 rfl 3 rfl rfl ?_
  refine ww_aload_n 6 dX2_surplusOf_5 rfl 0 rfl rfl ?_
  refine ww_getI 1 9 dX2_surplusOf_6 wf_X2_21 (show ww_in (21, r0) from (show r0 < 104 by omega)) rfl rfl rfl ?_
  refine ww_ic_ge 48 12 dX2_surplusOf_9 (by decide) rfl (fun c => ?_) (fun c => ?_)
  · replace h := h.1 c
    refine ww_iload_n 49 dX2_surplusOf_48 rfl 2 rfl rfl ?_
    exact ww_iret dX2_surplusOf_49 rfl ⟨_, rfl, h⟩
  · replace h := h.2 c
    refine ww_aload_n 13 dX2_surplusOf_12 rfl 0 rfl rfl ?_
    refine ww_iload_n 14 dX2_surplusOf_13 rfl 3 rfl rfl ?_
    obtain ⟨Q1, hT, h⟩ := h
    refine ww_invVI (d' := mX2_at) [.inl x3] rfl 17 dX2_surplusOf_14 ⟨wi_X2, wc_X2_at, wp_X2_at, by decide, by decide⟩ wl_X2_25 wn_X2_at we_X2_at (show ww_in (21, r0) from (show r0 < 104 by omega)) rfl rfl (Nat.le_of_ble_eq_true rfl) rfl hT (fun v2 τ3 hq => ?_)
    replace h := h v2 τ3 hq
    refine ww_iload_n 18 dX2_surplusOf_17 rfl 1 rfl rfl ?_
    refine ww_ic_ne 27 21 dX2_surplusOf_18 (by decide) rfl (fun c => ?_) (fun c => ?_)
    · replace h := h.1 c
      refine ww_aload_n 28 dX2_surplusOf_27 rfl 0 rfl rfl ?_
      refine ww_iload_n 29 dX2_surplusOf_28 rfl 3 rfl rfl ?_
      obtain ⟨Q4, hT, h⟩ := h
      refine ww_invVI (d' := mX2_at) [.inl x3] rfl 32 dX2_surplusOf_29 ⟨wi_X2, wc_X2_at, wp_X2_at, by decide, by decide⟩ wl_X2_25 wn_X2_at we_X2_at (show ww_in (21, r0) from (show r0 < 104 by omega)) rfl rfl (Nat.le_of_ble_eq_true rfl) rfl hT (fun v5 τ6 hq => ?_)
      replace h := h v5 τ6 hq
      refine ww_iload_n 33 dX2_surplusOf_32 rfl 1 rfl rfl ?_
      obtain ⟨Q7, hT, h⟩ := h
      refine ww_invSI (d' := mX5_opposite) [.inl x1] rfl 36 dX2_surplusOf_33 ⟨wi_X5, wc_X5_opposite, wp_X5_opposite, by decide, by decide⟩ (Or.inr ⟨"PieceWords", List.mem_of_getElem? (i := 1) rfl⟩) wn_X5_opposite (Nat.le_of_ble_eq_true rfl) rfl hT (fun v8 τ9 hq => ?_)
      replace h := h v8 τ9 hq
      refine ww_ic_ne 42 39 dX2_surplusOf_36 (by decide) rfl (fun c => ?_) (fun c => ?_)
      · replace h := h.1 c
        refine ww_iinc (nI 1) 45 3 dX2_surplusOf_42 (by decide) rfl rfl (by decide) rfl [some (.inr (.inr (21, r0))), some (.inl x1), some (.inl x2), some (.inl (x3 + nI 1))] rfl ?_
        refine ww_goto 4 dX2_surplusOf_45 (by decide) ?_
        exact h
      · replace h := h.2 c
        refine ww_iinc (-1 : Int32) 42 2 dX2_surplusOf_39 (by decide) rfl rfl (by decide) rfl [some (.inr (.inr (21, r0))), some (.inl x1), some (.inl (x2 + (-1 : Int32))), some (.inl x3)] rfl ?_
        refine ww_iinc (nI 1) 45 3 dX2_surplusOf_42 (by decide) rfl rfl (by decide) rfl [some (.inr (.inr (21, r0))), some (.inl x1), some (.inl (x2 + (-1 : Int32))), some (.inl (x3 + nI 1))] rfl ?_
        refine ww_goto 4 dX2_surplusOf_45 (by decide) ?_
        exact h
    · replace h := h.2 c
      refine ww_iinc (nI 1) 24 2 dX2_surplusOf_21 (by decide) rfl rfl (by decide) rfl [some (.inr (.inr (21, r0))), some (.inl x1), some (.inl (x2 + nI 1)), some (.inl x3)] rfl ?_
      refine ww_goto 42 dX2_surplusOf_24 (by decide) ?_
      refine ww_iinc (nI 1) 45 3 dX2_surplusOf_42 (by decide) rfl rfl (by decide) rfl [some (.inr (.inr (21, r0))), some (.inl x1), some (.inl (x2 + nI 1)), some (.inl (x3 + nI 1))] rfl ?_
      refine ww_goto 4 dX2_surplusOf_45 (by decide) ?_
      exact h
theorem b_X5_opposite {l : Launch} {g : ww_G} {τ : ww_M} {a0 : Int32} {Post : Int32 → ww_M → Prop}  (h : ∀ E : ww_E, ((nI 4 ≤ a0 → Post (a0 - (nI 4)) τ) ∧ (¬ (nI 4 ≤ a0) → Post (a0 + (nI 4)) τ))) : ww_T l g mX5_opposite [.inl a0] τ (ww_QI Post) := by
  refine ww_enter (P := [some (.inl a0)]) (by decide) (Nat.le_of_ble_eq_true rfl) rfl (fun E => ?_)
  replace h := h E
  refine ww_iload_n 1 dX5_opposite_0 rfl 0 rfl rfl ?_
  refine ww_iconst (v := nI 4) 2 dX5_opposite_1 (by decide) rfl ?_
  refine ww_ic_ge 11 5 dX5_opposite_2 (by decide) rfl (fun c => ?_) (fun c => ?_)
  · replace h := h.1 c
    refine ww_iload_n 12 dX5_opposite_11 rfl 0 rfl rfl ?_
    refine ww_iconst (v := nI 4) 13 dX5_opposite_12 (by decide) rfl ?_
    refine ww_isub 14 dX5_opposite_13 rfl ?_
    exact ww_iret dX5_opposite_14 rfl ⟨_, rfl, h⟩
  · replace h := h.2 c
    refine ww_iload_n 6 dX5_opposite_5 rfl 0 rfl rfl ?_
    refine ww_iconst (v := nI 4) 7 dX5_opposite_6 (by decide) rfl ?_
    refine ww_iadd 8 dX5_opposite_7 rfl ?_
    refine ww_goto 14 dX5_opposite_8 (by decide) ?_
    exact ww_iret dX5_opposite_14 rfl ⟨_, rfl, h⟩
theorem b_J9_floorMod_7cf53 {l : Launch} {g : ww_G} {τ : ww_M} {a0 : Int32} {a1 : Int32} {Post : Int32 → ww_M → Prop}  (h : ∀ E : ww_E, (¬ a1 = nI 0 ∧ (nI 0 ≤ a0 ^^^ a1 → Post (a0 - a0 / a1 * a1) τ) ∧ (¬ (nI 0 ≤ a0 ^^^ a1) → ((a0 - a0 / a1 * a1 = nI 0 → Post (a0 - a0 / a1 * a1) τ) ∧ (¬ a0 - a0 / a1 * a1 = nI 0 → Post ((a0 - a0 / a1 * a1) + a1) τ))))) : ww_T l g mJ9_floorMod_7cf53 [.inl a0, .inl a1] τ (ww_QI Post) := by
  refine ww_enterF (P := [some (.inl a0), some (.inl a1), none]) (by decide +kernel) (Nat.le_of_ble_eq_true rfl) rfl (fun E => ?_)
  replace h := h E
  refine ww_iload_n 1 dJ9_floorMod_7cf53_0 rfl 0 rfl rfl ?_
  refine ww_iload_n 2 dJ9_floorMod_7cf53_1 rfl 1 rfl rfl ?_
  obtain ⟨hz1, h⟩ := h
  refine ww_irem 3 dJ9_floorMod_7cf53_2 rfl hz1 ?_
  refine ww_istore_n 4 dJ9_floorMod_7cf53_3 rfl 2 rfl (by decide) rfl [some (.inl a0), some (.inl a1), some (.inl (a0 - a0 / a1 * a1))] rfl ?_
  refine ww_iload_n 5 dJ9_floorMod_7cf53_4 rfl 0 rfl rfl ?_
  refine ww_iload_n 6 dJ9_floorMod_7cf53_5 rfl 1 rfl rfl ?_
  refine ww_ixor 7 dJ9_floorMod_7cf53_6 rfl ?_
  refine ww_if_ge 18 10 dJ9_floorMod_7cf53_7 (by decide) rfl (fun c => ?_) (fun c => ?_)
  · replace h := h.1 c
    refine ww_iload_n 19 dJ9_floorMod_7cf53_18 rfl 2 rfl rfl ?_
    exact ww_iret dJ9_floorMod_7cf53_19 rfl ⟨_, rfl, h⟩
  · replace h := h.2 c
    refine ww_iload_n 11 dJ9_floorMod_7cf53_10 rfl 2 rfl rfl ?_
    refine ww_if_eq 18 14 dJ9_floorMod_7cf53_11 (by decide) rfl (fun c => ?_) (fun c => ?_)
    · replace h := h.1 c
      refine ww_iload_n 19 dJ9_floorMod_7cf53_18 rfl 2 rfl rfl ?_
      exact ww_iret dJ9_floorMod_7cf53_19 rfl ⟨_, rfl, h⟩
    · replace h := h.2 c
      refine ww_iload_n 15 dJ9_floorMod_7cf53_14 rfl 2 rfl rfl ?_
      refine ww_iload_n 16 dJ9_floorMod_7cf53_15 rfl 1 rfl rfl ?_
      refine ww_iadd 17 dJ9_floorMod_7cf53_16 rfl ?_
      exact ww_iret dJ9_floorMod_7cf53_17 rfl ⟨_, rfl, h⟩
end
section
/-! ===== numbers ===== -/
theorem zlt {a b : Nat} (ha : a < 2147483648) (hb : b < 2147483648) : (nI a < nI b) = (a < b) := propext (nI_ltI ha hb)
theorem zle {a b : Nat} (ha : a < 2147483648) (hb : b < 2147483648) : (nI a ≤ nI b) = (a ≤ b) := propext (nI_leI ha hb)
theorem zeq {a b : Nat} (ha : a < 2147483648) (hb : b < 2147483648) : (nI a = nI b) = (a = b) := propext (nI_eq ha hb)
theorem zsub {a b : Nat} (h : b ≤ a) : nI a - nI b = nI (a - b) := pk_sub h
theorem zadd (a b : Nat) : nI a + nI b = nI (a + b) := nI_add a b
theorem zmul (a b : Nat) : nI a * nI b = nI (a * b) := pk_mul a b
theorem zm1 {a : Nat} (h : 0 < a) : nI a + (-1 : Int32) = nI (a - 1) := sb_m1 h
theorem zne1 {a : Nat} (h : a < 2147483648) : ¬ nI a = (-1 : Int32) := by
  intro e
  have := congrArg Int32.toInt e
  rw [nI_toInt h] at this
  have h2 : ((-1 : Int32)).toInt = -1 := by decide
  omega
theorem zmin {x y : Nat} (hx : x < 2147483648) (hy : y < 2147483648) : (if nI y < nI x then nI y else nI x) = nI (min x y) := by
  by_cases h : y < x
  · rw [if_pos ((nI_ltI hy hx).mpr h), Nat.min_eq_right (Nat.le_of_lt h)]
  · rw [if_neg (fun q => h ((nI_ltI hy hx).mp q)), Nat.min_eq_left (Nat.not_lt.mp h)]
theorem zmax {x y : Nat} (hx : x < 2147483648) (hy : y < 2147483648) : (if nI x < nI y then nI y else nI x) = nI (max x y) := by
  by_cases h : x < y
  · rw [if_pos ((nI_ltI hx hy).mpr h), Nat.max_eq_right (Nat.le_of_lt h)]
  · rw [if_neg (fun q => h ((nI_ltI hx hy).mp q)), Nat.max_eq_left (Nat.not_lt.mp h)]
theorem ww_cap_le (r : Nat) : ww_cap r ≤ 540 := by
  unfold ww_cap
  split
  · omega
  · split
    · omega
    · split
      · omega
      · split <;> omega
theorem ww_cap_ge (r : Nat) : 14 ≤ ww_cap r := by
  unfold ww_cap
  split
  · omega
  · split
    · omega
    · split
      · omega
      · split <;> omega
/-! ===== words: rows of letters 0 .. 7 ===== -/
def zo (l : Nat) : Nat := if l < 4 then l + 4 else l - 4
theorem zo_lt {l : Nat} (h : l < 8) : zo l < 8 := by unfold zo; split <;> omega
theorem zo_zo {l : Nat} (h : l < 8) : zo (zo l) = l := by unfold zo; split <;> split <;> omega
theorem zo_inj {a b : Nat} (ha : a < 8) (hb : b < 8) (h : zo a = zo b) : a = b := by rw [← zo_zo ha, h, zo_zo hb]
def zat (xs : List Nat) (k : Nat) : Nat := xs.getD k 0
def zpush (xs : List Nat) (l : Nat) : List Nat := if 0 < xs.length ∧ zat xs (xs.length - 1) = zo l then xs.dropLast else xs ++ [l]
def zpushs (xs ys : List Nat) : List Nat := ys.foldl zpush xs
def zinv (xs : List Nat) : List Nat := (xs.map zo).reverse
def zok (xs : List Nat) : Prop := ∀ x ∈ xs, x < 8
theorem zat_lt {xs : List Nat} (h : zok xs) {k : Nat} (hk : k < xs.length) : zat xs k < 8 := by
  unfold zat
  rw [List.getD_eq_getElem?_getD, List.getElem?_eq_getElem hk]
  exact h _ (List.getElem_mem hk)
theorem zat_eq {xs : List Nat} {k : Nat} (hk : k < xs.length) : zat xs k = xs[k] := by
  unfold zat
  rw [List.getD_eq_getElem?_getD, List.getElem?_eq_getElem hk]; rfl
theorem zok_drop {xs : List Nat} (h : zok xs) : zok xs.dropLast := fun x hx => h x (List.dropLast_subset xs hx)
theorem zok_app {xs ys : List Nat} (h : zok xs) (h2 : zok ys) : zok (xs ++ ys) := fun x hx => (List.mem_append.mp hx).elim (h x) (h2 x)
theorem zok_push {xs : List Nat} {l : Nat} (h : zok xs) (hl : l < 8) : zok (zpush xs l) := by
  unfold zpush
  split
  · exact zok_drop h
  · exact zok_app h (fun x hx => by rw [List.mem_singleton.mp hx]; exact hl)
theorem zok_pushs {ys : List Nat} : ∀ {xs : List Nat}, zok xs → zok ys → zok (zpushs xs ys) := by
  induction ys with
  | nil => intro xs h _; exact h
  | cons y ys ih => intro xs h h2; exact ih (zok_push h (h2 y List.mem_cons_self)) (fun x hx => h2 x (List.mem_cons_of_mem _ hx))
theorem zpush_len (xs : List Nat) (l : Nat) : (zpush xs l).length ≤ xs.length + 1 := by
  unfold zpush
  split
  · rw [List.length_dropLast]; omega
  · rw [List.length_append]; exact Nat.le_refl _
theorem zpushs_len {ys : List Nat} : ∀ (xs : List Nat), (zpushs xs ys).length ≤ xs.length + ys.length := by
  induction ys with
  | nil => intro xs; exact Nat.le_refl _
  | cons y ys ih => intro xs; have := ih (zpush xs y); have := zpush_len xs y; simp only [zpushs, List.foldl_cons, List.length_cons] at *; omega
theorem zpushs_cons (xs : List Nat) (y : Nat) (ys : List Nat) : zpushs xs (y :: ys) = zpushs (zpush xs y) ys := rfl
theorem zpushs_nil (xs : List Nat) : zpushs xs [] = xs := rfl
theorem zpushs_app (xs ys zs : List Nat) : zpushs xs (ys ++ zs) = zpushs (zpushs xs ys) zs := by unfold zpushs; rw [List.foldl_append]
theorem zat_app_l {xs ys : List Nat} {k : Nat} (h : k < xs.length) : zat (xs ++ ys) k = zat xs k := by
  unfold zat; rw [List.getD_eq_getElem?_getD, List.getD_eq_getElem?_getD, List.getElem?_append_left h]
theorem zat_app_e (xs : List Nat) (l : Nat) : zat (xs ++ [l]) xs.length = l := by
  unfold zat; rw [List.getD_eq_getElem?_getD, List.getElem?_append_right (Nat.le_refl _), Nat.sub_self]; rfl
theorem zat_dropLast {xs : List Nat} {k : Nat} (h : k < xs.length - 1) : zat xs.dropLast k = zat xs k := by
  rw [zat_eq (by rw [List.length_dropLast]; exact h), zat_eq (by omega), List.getElem_dropLast]
/-! ===== rows of the class ===== -/
def zRow (τ : ww_M) (r : Nat) (xs : List Nat) : Prop := xs.length ≤ ww_cap r ∧ τ (21, r) 1 = nI xs.length ∧ (∀ k, k < xs.length → τ (22, r) k = nI (zat xs k)) ∧ zok xs
def zup (R : Nat → List Nat) (r : Nat) (xs : List Nat) : Nat → List Nat := fun q => if q = r then xs else R q
theorem zup_s (R : Nat → List Nat) (r : Nat) (xs : List Nat) : zup R r xs r = xs := if_pos rfl
theorem zup_n {R : Nat → List Nat} {r q : Nat} {xs : List Nat} (h : q ≠ r) : zup R r xs q = R q := if_neg h
theorem zup_up (R : Nat → List Nat) (r : Nat) (xs ys : List Nat) : zup (zup R r xs) r ys = zup R r ys := by
  funext q; unfold zup; split <;> rfl
theorem zup_id (R : Nat → List Nat) (r : Nat) : zup R r (R r) = R := by
  funext q; unfold zup; split
  · rename_i h; rw [h]
  · rfl
def zRows (τ : ww_M) (R : Nat → List Nat) : Prop := ∀ r, r < 104 → zRow τ r (R r)
/-- nothing but rows has changed -/
def zNR (τ τ' : ww_M) : Prop := ∀ n : ww_N, n.1 ≠ 21 → n.1 ≠ 22 → τ' n = τ n
theorem zNR.rf (τ : ww_M) : zNR τ τ := fun _ _ _ => rfl
theorem zNR.tr {a b c : ww_M} (h : zNR a b) (h2 : zNR b c) : zNR a c := fun n h1 h3 => (h2 n h1 h3).trans (h n h1 h3)
theorem zRow.same {τ τ' : ww_M} {r : Nat} {xs : List Nat} (h : zRow τ r xs) (h1 : τ' (21, r) = τ (21, r)) (h2 : τ' (22, r) = τ (22, r)) : zRow τ' r xs := ⟨h.1, by rw [h1]; exact h.2.1, fun k hk => by rw [h2]; exact h.2.2.1 k hk, h.2.2.2⟩
theorem zRows.set {τ τ' : ww_M} {R : Nat → List Nat} {r : Nat} {xs : List Nat} (h : zRows τ R) (hr : zRow τ' r xs) (ho : ∀ n : ww_N, n ≠ (21, r) → n ≠ (22, r) → τ' n = τ n) : zRows τ' (zup R r xs) := by
  intro q hq
  by_cases e : q = r
  · subst e; rw [zup_s]; exact hr
  · rw [zup_n e]
    exact (h q hq).same (ho _ (by simp [e]) (by simp)) (ho _ (by simp) (by simp [e]))
theorem zRows.keep {τ τ' : ww_M} {R : Nat → List Nat} (h : zRows τ R) (ho : ∀ n : ww_N, n.1 = 21 ∨ n.1 = 22 → τ' n = τ n) : zRows τ' R := fun q hq => (h q hq).same (ho _ (Or.inl rfl)) (ho _ (Or.inr rfl))
section ROWS
variable {l : Launch} {g : ww_G} {τ : ww_M} {R : Nat → List Nat} {r : Nat}
theorem s_opp {a : Nat} (ha : a < 8) : ww_T l g mX5_opposite [.inl (nI a)] τ (ww_QI (fun v τ' => τ = τ' ∧ v = nI (zo a))) := by
  refine b_X5_opposite (fun E => ⟨fun c => ⟨rfl, ?_⟩, fun c => ⟨rfl, ?_⟩⟩)
  · rw [zle (by omega) (by omega)] at c
    rw [zsub c, zo, if_neg (by omega)]
  · rw [zle (by omega) (by omega)] at c
    rw [zadd, zo, if_pos (by omega)]
theorem s_at {j : Nat} {xs : List Nat} (h : zRow τ r xs) (hr : r < 104) (hj : j < 2147483648) : ww_T l g mX2_at [.inr (.inr (21, r)), .inl (nI j)] τ (ww_QI (fun v τ' => τ = τ' ∧ v = if j < xs.length then nI (zat xs j) else (-1 : Int32))) := by
  have hc := ww_cap_le r
  obtain ⟨h1, h2, h3, h4⟩ := h
  refine b_X2_at hr (fun E => ⟨fun c => ?_, fun _ => ⟨fun c => ?_, fun c => ⟨fun c2 => ?_, fun c2 => ?_⟩⟩⟩)
  · rw [zlt (by omega) (by omega)] at c; omega
  · rw [h2, zle (by omega) (by omega)] at c
    exact ⟨rfl, by rw [if_neg (by omega)]⟩
  · rw [h2, zle (by omega) (by omega)] at c
    rw [zle (by omega) (by omega)] at c2
    omega
  · rw [h2, zle (by omega) (by omega)] at c
    exact ⟨j, rfl, by omega, rfl, by rw [if_pos (by omega), h3 j (by omega)]⟩
theorem s_wipe (h : zRows τ R) (hr : r < 104) : ww_T l g mX2_wipe [.inr (.inr (21, r))] τ (ww_QV (fun τ' => zRows τ' (zup R r []) ∧ zNR τ τ')) := by
  refine b_X2_wipe hr (fun E τ1 e1 => ?_)
  subst e1
  refine ⟨h.set ⟨Nat.zero_le _, ww_up_s _ _ _ _, fun k hk => absurd hk (Nat.not_lt_zero k), fun x hx => absurd hx List.not_mem_nil⟩ (fun n h1 h2 => ww_up_f h1), fun n h1 h2 => ww_up_f (fun e => h1 (by rw [e]))⟩
theorem s_put {a : Nat} (h : zRows τ R) (hr : r < 104) (ha : a < 8) (hc : (R r).length < ww_cap r) : ww_T l g mX2_put [.inr (.inr (21, r)), .inl (nI a)] τ (ww_QV (fun τ' => zRows τ' (zup R r (zpush (R r) a)) ∧ zNR τ τ')) := by
  have hcl := ww_cap_le r
  obtain ⟨h1, h2, h3, h4⟩ := h r hr
  have app : ∀ E : ww_E, ¬ (0 < (R r).length ∧ zat (R r) ((R r).length - 1) = zo a) → ww_W g mX2_put E (ww_QV (fun τ' => zRows τ' (zup R r (zpush (R r) a)) ∧ zNR τ τ')) 48 [some (.inr (.inr (21, r))), some (.inl (nI a))] [] τ := by
    intro E hn
    refine b_X2_put_48 hr ⟨fun c => ?_, fun c => ⟨(R r).length, h2, hc, ?_⟩⟩
    · rw [h2, zle (by omega) (by omega)] at c; omega
    · intro τ2 e2 τ3 e3
      have e4 : τ2 (21, r) 1 = nI (R r).length := by rw [e2, ww_up_n (by simp), h2]
      rw [e4] at e3
      have ho : ∀ n : ww_N, n ≠ (21, r) → n ≠ (22, r) → τ3 n = τ n := fun n n1 n2 => by rw [e3, ww_up_f n1, e2, ww_up_f n2]
      refine ⟨h.set ?_ ho, fun n n1 n2 => ho n (fun e => n1 (by rw [e])) (fun e => n2 (by rw [e]))⟩
      unfold zpush
      rw [if_neg hn]
      refine ⟨by rw [List.length_append]; exact hc, by rw [e3, ww_up_s, List.length_append]; exact zadd _ _, fun k hk => ?_, zok_app h4 (fun x hx => by rw [List.mem_singleton.mp hx]; exact ha)⟩
      rw [List.length_append, List.length_singleton] at hk
      rw [e3, ww_up_n (by simp), e2]
      by_cases hk2 : k = (R r).length
      · subst hk2; rw [ww_up_s, zat_app_e]
      · rw [ww_up_k hk2, zat_app_l (by omega), h3 k (by omega)]
  refine b_X2_put hr (fun E => ⟨fun c => ?_, fun _ => ⟨fun _ => ⟨fun c => ?_, fun c => ?_⟩, fun c => ?_⟩⟩)
  · rw [zlt (by omega) (by omega)] at c; omega
  · rw [h2, zle (by omega) (by omega)] at c
    exact app E (by omega)
  · rw [h2, zle (by omega) (by omega)] at c
    rw [h2, zsub (by omega)]
    refine ⟨_, s_at (h r hr) hr (by omega), ?_⟩
    rintro v2 τ3 ⟨rfl, rfl⟩
    rw [if_pos (by omega)]
    refine ⟨_, s_opp ha, ?_⟩
    rintro v5 τ6 ⟨rfl, rfl⟩
    have hz := zat_lt h4 (show (R r).length - 1 < (R r).length by omega)
    have ho := zo_lt ha
    rw [zeq (by omega) (by omega)]
    refine ⟨fun c2 => app E (fun q => c2 q.2), fun c2 τ7 e7 => ?_⟩
    rw [h2, zsub (by omega)] at e7
    have ho : ∀ n : ww_N, n ≠ (21, r) → n ≠ (22, r) → τ7 n = τ n := fun n n1 n2 => by rw [e7, ww_up_f n1]
    refine ⟨h.set ?_ ho, fun n n1 n2 => ho n (fun e => n1 (by rw [e])) (fun e => n2 (by rw [e]))⟩
    unfold zpush
    rw [if_pos ⟨by omega, c2⟩]
    refine ⟨by rw [List.length_dropLast]; omega, by rw [e7, ww_up_s, List.length_dropLast], fun k hk => ?_, zok_drop h4⟩
    rw [List.length_dropLast] at hk
    rw [e7, ww_up_n (by simp), zat_dropLast hk, h3 k (by omega)]
  · rw [zlt (by omega) (by omega)] at c; omega
theorem s_copy {r1 : Nat} (h : zRows τ R) (hr : r < 104) (hr1 : r1 < 104) (hne : r ≠ r1) (hc : (R r1).length ≤ ww_cap r) : ww_T l g mX2_copy [.inr (.inr (21, r)), .inr (.inr (21, r1))] τ (ww_QV (fun τ' => zRows τ' (zup R r (R r1)) ∧ zNR τ τ')) := by
  have hcl := ww_cap_le r
  have hcl1 := ww_cap_le r1
  obtain ⟨h1, h2, h3, h4⟩ := h r1 hr1
  refine b_X2_copy hr hr1 (fun E => ?_)
  have loop : ∀ (n j : Nat) (σ : ww_M), j + n = (R r1).length → (∀ m, m ≠ (22, r) → σ m = τ m) → (∀ i, i < j → σ (22, r) i = nI (zat (R r1) i)) → ww_W g mX2_copy E (ww_QV (fun τ' => zRows τ' (zup R r (R r1)) ∧ zNR τ τ')) 23 [some (.inr (.inr (21, r))), some (.inr (.inr (21, r1))), some (.inl (nI (R r1).length)), some (.inl (nI j))] [] σ := by
    intro n
    induction n with
    | zero =>
      intro j σ hj ho hi
      refine b_X2_copy_23 hr hr1 ⟨fun c τ1 e1 => ?_, fun c => ?_⟩
      · have hof : ∀ m : ww_N, m ≠ (21, r) → m ≠ (22, r) → τ1 m = τ m := fun m m1 m2 => by rw [e1, ww_up_f m1, ho m m2]
        refine ⟨h.set ⟨hc, by rw [e1, ww_up_s], fun k hk => ?_, h4⟩ hof, fun m m1 m2 => hof m (fun e => m1 (by rw [e])) (fun e => m2 (by rw [e]))⟩
        rw [e1, ww_up_n (by simp), hi k (by omega)]
      · rw [zle (by omega) (by omega)] at c; omega
    | succ n ih =>
      intro j σ hj ho hi
      refine b_X2_copy_23 hr hr1 ⟨fun c => ?_, fun c => ⟨j, rfl, by omega, j, rfl, by omega, fun τ4 e4 => ?_⟩⟩
      · rw [zle (by omega) (by omega)] at c; omega
      · rw [zadd]
        refine ih (j + 1) τ4 (by omega) (fun m hm => by rw [e4, ww_up_f hm, ho m hm]) (fun i hi2 => ?_)
        rw [e4]
        by_cases hij : i = j
        · subst hij
          rw [ww_up_s, ho _ (by simp [Ne.symm hne]), h3 i (by omega)]
        · rw [ww_up_k hij, hi i (by omega)]
  have e : (if (if nI (ww_cap r) < nI (ww_cap r1) then nI (ww_cap r) else nI (ww_cap r1)) < τ (21, r1) 1 then (if nI (ww_cap r) < nI (ww_cap r1) then nI (ww_cap r) else nI (ww_cap r1)) else τ (21, r1) 1) = nI (R r1).length := by
    rw [h2, zmin (by omega) (by omega), zmin (by omega) (by omega)]
    congr 1
    omega
  rw [e]
  exact loop (R r1).length 0 τ (by omega) (fun _ _ => rfl) (fun i hi => absurd hi (Nat.not_lt_zero i))
theorem zdrop_cons {xs : List Nat} {j : Nat} (h : j < xs.length) : xs.drop j = zat xs j :: xs.drop (j + 1) := by
  rw [zat_eq h]; exact List.drop_eq_getElem_cons h
/-- letters of another row, from a to b, put behind a row -/
theorem s_putPart {r1 a b : Nat} (h : zRows τ R) (hr : r < 104) (hr1 : r1 < 104) (hne : r ≠ r1) (hab : a ≤ b) (hb : b ≤ (R r1).length) (hc : (R r).length + (b - a) ≤ ww_cap r) : ww_T l g mX2_putPart [.inr (.inr (21, r)), .inr (.inr (21, r1)), .inl (nI a), .inl (nI b)] τ (ww_QV (fun τ' => zRows τ' (zup R r (zpushs (R r) (((R r1).drop a).take (b - a)))) ∧ zNR τ τ')) := by
  have hcl := ww_cap_le r
  have hcl1 := ww_cap_le r1
  have hlen := (h r1 hr1).1
  refine b_X2_putPart hr hr1 (fun E => ?_)
  have loop : ∀ (n a : Nat) (σ : ww_M) (S : Nat → List Nat), a + n = b → zRows σ S → (∀ q, q ≠ r → S q = R q) → zNR τ σ → (S r).length + n ≤ ww_cap r → zpushs (S r) (((R r1).drop a).take n) = zpushs (R r) (((R r1).drop (b - n - (a - a))).take n) ∨ True → ww_W g mX2_putPart E (ww_QV (fun τ' => zRows τ' (zup S r (zpushs (S r) (((R r1).drop a).take n))) ∧ zNR τ τ')) 3 [some (.inr (.inr (21, r))), some (.inr (.inr (21, r1))), none, some (.inl (nI b)), some (.inl (nI a))] [] σ := by
    intro n
    induction n with
    | zero =>
      intro a σ S ha hS ho hn hl _
      refine b_X2_putPart_3 hr hr1 ⟨fun c => ?_, fun c => ?_⟩
      · rw [List.take_zero, zpushs_nil, zup_id]
        exact ⟨hS, hn⟩
      · rw [zle (by omega) (by omega)] at c; omega
    | succ n ih =>
      intro a σ S ha hS ho hn hl _
      refine b_X2_putPart_3 hr hr1 ⟨fun c => ?_, fun c => ?_⟩
      · rw [zle (by omega) (by omega)] at c; omega
      · have hx := hS r1 hr1
        rw [ho r1 (Ne.symm hne)] at hx
        refine ⟨_, s_at hx hr1 (by omega), ?_⟩
        rintro v2 τ3 ⟨rfl, rfl⟩
        rw [if_pos (by omega)]
        refine ⟨_, s_put hS hr (zat_lt hx.2.2.2 (by omega)) (by omega), ?_⟩
        rintro τ5 ⟨h5, n5⟩
        rw [zadd]
        have := zpush_len (S r) (zat (R r1) a)
        have key := ih (a + 1) τ5 (zup S r (zpush (S r) (zat (R r1) a))) (by omega) h5 (fun q hq => by rw [zup_n hq, ho q hq]) (hn.tr n5) (by rw [zup_s]; omega) (Or.inr trivial)
        rw [zup_up, zup_s] at key
        rw [zdrop_cons (show a < (R r1).length by omega), List.take_succ_cons, zpushs_cons]
        exact key
  have := loop (b - a) a τ R (by omega) h (fun _ _ => rfl) (zNR.rf τ) hc (Or.inr trivial)
  exact this
theorem s_putRow {r1 : Nat} (h : zRows τ R) (hr : r < 104) (hr1 : r1 < 104) (hne : r ≠ r1) (hc : (R r).length + (R r1).length ≤ ww_cap r) : ww_T l g mX2_putRow [.inr (.inr (21, r)), .inr (.inr (21, r1))] τ (ww_QV (fun τ' => zRows τ' (zup R r (zpushs (R r) (R r1))) ∧ zNR τ τ')) := by
  refine b_X2_putRow hr hr1 (fun E => ?_)
  rw [(h r1 hr1).2.1]
  refine ⟨_, s_putPart h hr hr1 hne (Nat.zero_le _) (Nat.le_refl _) (by omega), fun τ2 h2 => ?_⟩
  rw [List.drop_zero, Nat.sub_zero, List.take_length] at h2
  exact h2
theorem zdec (m : Nat) : (nI (m + 1) - nI 1) + (-1 : Int32) = nI m - nI 1 := by
  rw [zsub (by omega), Nat.add_sub_cancel]
  show nI m + (-1 : Int32) = nI m - 1
  rw [Int32.sub_eq_add_neg]
theorem ztake_succ {xs : List Nat} {m : Nat} (h : m < xs.length) : xs.take (m + 1) = xs.take m ++ [zat xs m] := by
  rw [zat_eq h]; exact List.take_succ_eq_append_getElem h
theorem zinv_app (xs ys : List Nat) : zinv (xs ++ ys) = zinv ys ++ zinv xs := by unfold zinv; rw [List.map_append, List.reverse_append]
theorem zinv_len (xs : List Nat) : (zinv xs).length = xs.length := by unfold zinv; rw [List.length_reverse, List.length_map]
theorem zinv_ok {xs : List Nat} (h : zok xs) : zok (zinv xs) := by
  intro x hx
  unfold zinv at hx
  rw [List.mem_reverse, List.mem_map] at hx
  obtain ⟨y, hy, rfl⟩ := hx
  exact zo_lt (h y hy)
theorem s_putInverse {r1 : Nat} (h : zRows τ R) (hr : r < 104) (hr1 : r1 < 104) (hne : r ≠ r1) (hc : (R r).length + (R r1).length ≤ ww_cap r) : ww_T l g mX2_putInverse [.inr (.inr (21, r)), .inr (.inr (21, r1))] τ (ww_QV (fun τ' => zRows τ' (zup R r (zpushs (R r) (zinv (R r1)))) ∧ zNR τ τ')) := by
  have hcl := ww_cap_le r
  have hcl1 := ww_cap_le r1
  have hlen := (h r1 hr1).1
  refine b_X2_putInverse hr hr1 (fun E => ?_)
  have loop : ∀ (m : Nat) (σ : ww_M) (S : Nat → List Nat), m ≤ (R r1).length → zRows σ S → (∀ q, q ≠ r → S q = R q) → zNR τ σ → (S r).length + m ≤ ww_cap r → ww_W g mX2_putInverse E (ww_QV (fun τ' => zRows τ' (zup S r (zpushs (S r) (zinv ((R r1).take m)))) ∧ zNR τ τ')) 7 [some (.inr (.inr (21, r))), some (.inr (.inr (21, r1))), some (.inl (nI m - nI 1))] [] σ := by
    intro m
    induction m with
    | zero =>
      intro σ S hm hS ho hn hl
      refine b_X2_putInverse_7 hr hr1 ⟨fun c => ?_, fun c => absurd (by decide) c⟩
      have : zinv ((R r1).take 0) = [] := by rw [List.take_zero]; rfl
      rw [this, zpushs_nil, zup_id]
      exact ⟨hS, hn⟩
    | succ m ih =>
      intro σ S hm hS ho hn hl
      refine b_X2_putInverse_7 hr hr1 ⟨fun c => ?_, fun c => ?_⟩
      · rw [zsub (by omega), zlt (by omega) (by omega)] at c; omega
      · have hx := hS r1 hr1
        rw [ho r1 (Ne.symm hne)] at hx
        rw [zdec, zsub (by omega), Nat.add_sub_cancel]
        have hz := zat_lt hx.2.2.2 (show m < (R r1).length by omega)
        refine ⟨_, s_at hx hr1 (by omega), ?_⟩
        rintro v2 τ3 ⟨rfl, rfl⟩
        rw [if_pos (by omega)]
        refine ⟨_, s_opp hz, ?_⟩
        rintro v5 τ6 ⟨rfl, rfl⟩
        refine ⟨_, s_put hS hr (zo_lt hz) (by omega), ?_⟩
        rintro τ8 ⟨h8, n8⟩
        have := zpush_len (S r) (zo (zat (R r1) m))
        have key := ih τ8 (zup S r (zpush (S r) (zo (zat (R r1) m)))) (by omega) h8 (fun q hq => by rw [zup_n hq, ho q hq]) (hn.tr n8) (by rw [zup_s]; omega)
        rw [zup_up, zup_s] at key
        rw [ztake_succ (show m < (R r1).length by omega), zinv_app]
        exact key
  rw [(h r1 hr1).2.1]
  have := loop (R r1).length τ R (Nat.le_refl _) h (fun _ _ => rfl) (zNR.rf τ) hc
  rw [List.take_length] at this
  exact this
theorem s_putTurn {r1 a : Nat} (h : zRows τ R) (hr : r < 104) (hr1 : r1 < 104) (hne : r ≠ r1) (ha : a ≤ (R r1).length) (hc : (R r).length + (R r1).length ≤ ww_cap r) : ww_T l g mX2_putTurn [.inr (.inr (21, r)), .inr (.inr (21, r1)), .inl (nI a)] τ (ww_QV (fun τ' => zRows τ' (zup R r (zpushs (R r) ((R r1).drop a ++ (R r1).take a))) ∧ zNR τ τ')) := by
  have hcl := ww_cap_le r
  have hcl1 := ww_cap_le r1
  have hlen := (h r1 hr1).1
  refine b_X2_putTurn hr hr1 (fun E => ?_)
  rw [(h r1 hr1).2.1]
  refine ⟨_, s_putPart h hr hr1 hne ha (Nat.le_refl _) (by omega), ?_⟩
  rintro τ2 ⟨h2, n2⟩
  rw [List.take_of_length_le (by rw [List.length_drop]; exact Nat.le_refl _)] at h2
  have hx := (h2 r1 hr1).2.1
  rw [zup_n (Ne.symm hne)] at hx
  rw [hx, zmin (by omega) (by omega), Nat.min_eq_left ha]
  have hp := zpushs_len (ys := (R r1).drop a) (R r)
  rw [List.length_drop] at hp
  refine ⟨_, s_putPart (a := 0) (b := a) h2 hr hr1 hne (Nat.zero_le _) (by rw [zup_n (Ne.symm hne)]; exact ha) (by rw [zup_s]; omega), ?_⟩
  rintro τ4 ⟨h4, n4⟩
  rw [zup_s, zup_n (Ne.symm hne), zup_up, List.drop_zero, Nat.sub_zero] at h4
  rw [zpushs_app]
  exact ⟨h4, n2.tr n4⟩
/-- how many letters from a place on are as another row begins -/
def zlk (xs ys : List Nat) (i l : Nat) : Nat → Nat
  | 0 => l
  | n + 1 => if zat xs (i + l) = zat ys l then zlk xs ys i (l + 1) n else l
def zlike (xs : List Nat) (i : Nat) (ys : List Nat) : Nat := zlk xs ys i 0 (min (xs.length - i) ys.length)
theorem s_likeFrom {r1 i : Nat} (h : zRows τ R) (hr : r < 104) (hr1 : r1 < 104) (hi : i ≤ (R r).length) : ww_T l g mX2_likeFrom [.inr (.inr (21, r)), .inl (nI i), .inr (.inr (21, r1))] τ (ww_QI (fun v τ' => τ = τ' ∧ v = nI (zlike (R r) i (R r1)))) := by
  have hcl := ww_cap_le r
  have hcl1 := ww_cap_le r1
  have hx := h r hr
  have hy := h r1 hr1
  have hl1 := hx.1
  have hl2 := hy.1
  refine b_X2_likeFrom hr hr1 (fun E => ⟨fun c => ?_, fun c => ?_⟩)
  · rw [hx.2.1, hy.2.1, zsub hi, zmin (by omega) (by omega)]
    have loop : ∀ (n j : Nat), j + n = min ((R r).length - i) (R r1).length → ww_W g mX2_likeFrom E (ww_QI (fun v τ' => τ = τ' ∧ v = nI (zlk (R r) (R r1) i j n))) 23 [some (.inr (.inr (21, r))), some (.inl (nI i)), some (.inr (.inr (21, r1))), some (.inl (nI (min ((R r).length - i) (R r1).length))), some (.inl (nI j))] [] τ := by
      intro n
      induction n with
      | zero =>
        intro j hj
        refine b_X2_likeFrom_23 hr hr1 ⟨fun c => ⟨rfl, rfl⟩, fun c => ?_⟩
        rw [zle (by omega) (by omega)] at c; omega
      | succ n ih =>
        intro j hj
        refine b_X2_likeFrom_23 hr hr1 ⟨fun c => ?_, fun c => ?_⟩
        · rw [zle (by omega) (by omega)] at c; omega
        · rw [zadd, zadd]
          refine ⟨_, s_at hx hr (by omega), ?_⟩
          rintro v2 τ3 ⟨rfl, rfl⟩
          rw [if_pos (by omega)]
          refine ⟨_, s_at hy hr1 (by omega), ?_⟩
          rintro v5 τ6 ⟨rfl, rfl⟩
          rw [if_pos (by omega)]
          have z1 := zat_lt hx.2.2.2 (show i + j < (R r).length by omega)
          have z2 := zat_lt hy.2.2.2 (show j < (R r1).length by omega)
          rw [zeq (by omega) (by omega)]
          refine ⟨fun c2 => ⟨rfl, ?_⟩, fun c2 => ?_⟩
          · rw [zlk, if_neg c2]
          · have := ih (j + 1) (by omega)
            rw [zlk, if_pos c2]
            exact this
    exact loop _ 0 (by omega)
  · rw [zle (by omega) (by omega)] at c; omega
/-- how often a letter is in a row, its opposite less -/
def zsum : List Nat → Nat → Int
  | [], _ => 0
  | x :: xs, a => (if x = a then 1 else if x = zo a then -1 else 0) + zsum xs a
theorem zsum_app (a : Nat) : ∀ xs ys : List Nat, zsum (xs ++ ys) a = zsum xs a + zsum ys a
  | [], ys => by simp [zsum]
  | x :: xs, ys => by rw [List.cons_append, zsum, zsum, zsum_app a xs ys]; omega
theorem zsum_le (a : Nat) : ∀ xs : List Nat, -(xs.length : Int) ≤ zsum xs a ∧ zsum xs a ≤ xs.length
  | [] => by simp [zsum]
  | x :: xs => by
    have := zsum_le a xs
    rw [zsum, List.length_cons]
    split
    · omega
    · split <;> omega
theorem zoi1 (a : Int) : Int32.ofInt a + nI 1 = Int32.ofInt (a + 1) := by rw [Int32.ofInt_add]; rfl
theorem zoi2 (a : Int) : Int32.ofInt a + (-1 : Int32) = Int32.ofInt (a + -1) := by rw [Int32.ofInt_add]; rfl
theorem s_surplusOf {a : Nat} (h : zRows τ R) (hr : r < 104) (ha : a < 8) : ww_T l g mX2_surplusOf [.inr (.inr (21, r)), .inl (nI a)] τ (ww_QI (fun v τ' => τ = τ' ∧ v = Int32.ofInt (zsum (R r) a))) := by
  have hcl := ww_cap_le r
  have hx := h r hr
  have hl1 := hx.1
  have hza := zo_lt ha
  refine b_X2_surplusOf hr (fun E => ?_)
  have loop : ∀ (n j : Nat), j + n = (R r).length → ww_W g mX2_surplusOf E (ww_QI (fun v τ' => τ = τ' ∧ v = Int32.ofInt (zsum (R r) a))) 4 [some (.inr (.inr (21, r))), some (.inl (nI a)), some (.inl (Int32.ofInt (zsum ((R r).take j) a))), some (.inl (nI j))] [] τ := by
    intro n
    induction n with
    | zero =>
      intro j hj
      refine b_X2_surplusOf_4 hr ⟨fun c => ⟨rfl, ?_⟩, fun c => ?_⟩
      · rw [List.take_of_length_le (by omega)]
      · rw [hx.2.1, zle (by omega) (by omega)] at c; omega
    | succ n ih =>
      intro j hj
      refine b_X2_surplusOf_4 hr ⟨fun c => ?_, fun c => ?_⟩
      · rw [hx.2.1, zle (by omega) (by omega)] at c; omega
      · have hz := zat_lt hx.2.2.2 (show j < (R r).length by omega)
        have hs := ih (j + 1) (by omega)
        rw [ztake_succ (show j < (R r).length by omega), zsum_app, zsum, zsum] at hs
        rw [zadd]
        refine ⟨_, s_at hx hr (by omega), ?_⟩
        rintro v2 τ3 ⟨rfl, rfl⟩
        rw [if_pos (by omega), zeq (by omega) (by omega)]
        refine ⟨fun c2 => ?_, fun c2 => ?_⟩
        · refine ⟨_, s_at hx hr (by omega), ?_⟩
          rintro v5 τ6 ⟨rfl, rfl⟩
          rw [if_pos (by omega)]
          refine ⟨_, s_opp ha, ?_⟩
          rintro v8 τ9 ⟨rfl, rfl⟩
          rw [zeq (by omega) (by omega)]
          rw [if_neg c2] at hs
          refine ⟨fun c3 => ?_, fun c3 => ?_⟩
          · rw [if_neg c3] at hs
            simpa using hs
          · rw [if_pos c3] at hs
            rw [zoi2]
            simpa using hs
        · rw [if_pos c2] at hs
          rw [zoi1]
          simpa using hs
  have := loop (R r).length 0 (by omega)
  exact this
/-- the ends are left out as long as they are opposites -/
def zends (xs : List Nat) (e : Nat) : Nat → Nat
  | 0 => e
  | n + 1 => if 2 * e + 1 < xs.length ∧ zat xs e = zo (zat xs (xs.length - 1 - e)) then zends xs (e + 1) n else e
def zring (xs : List Nat) : List Nat := (xs.drop (zends xs 0 (xs.length + 1))).take (xs.length - 2 * zends xs 0 (xs.length + 1))
theorem zends_le {xs : List Nat} : ∀ (n e : Nat), 2 * e ≤ xs.length → 2 * zends xs e n ≤ xs.length
  | 0, e, h => h
  | n + 1, e, h => by
    rw [zends]
    split
    · rename_i hc; exact zends_le n (e + 1) (by omega)
    · exact h
theorem zok_sub {xs ys : List Nat} (h : zok xs) (hs : ∀ y ∈ ys, y ∈ xs) : zok ys := fun y hy => h y (hs y hy)
theorem zring_ok {xs : List Nat} (h : zok xs) : zok (zring xs) := zok_sub h (fun y hy => List.mem_of_mem_drop (List.mem_of_mem_take hy))
theorem zring_len (xs : List Nat) : (zring xs).length = xs.length - 2 * zends xs 0 (xs.length + 1) := by
  have := zends_le (xs := xs) (xs.length + 1) 0 (by omega)
  unfold zring
  rw [List.length_take, List.length_drop]
  omega
theorem zat_drop (xs : List Nat) (e k : Nat) : zat (xs.drop e) k = zat xs (e + k) := by
  unfold zat; rw [List.getD_eq_getElem?_getD, List.getD_eq_getElem?_getD, List.getElem?_drop]
theorem zat_take {xs : List Nat} {n k : Nat} (h : k < n) : zat (xs.take n) k = zat xs k := by
  unfold zat; rw [List.getD_eq_getElem?_getD, List.getD_eq_getElem?_getD, List.getElem?_take_of_lt h]
theorem s_cutToRing (h : zRows τ R) (hr : r < 104) : ww_T l g mX2_cutToRing [.inr (.inr (21, r))] τ (ww_QV (fun τ' => zRows τ' (zup R r (zring (R r))) ∧ zNR τ τ')) := by
  have hcl := ww_cap_le r
  have hx := h r hr
  obtain ⟨h1, h2, h3, h4⟩ := id hx
  refine b_X2_cutToRing hr (fun E => ?_)
  generalize hQ : (ww_QV (fun τ' => zRows τ' (zup R r (zring (R r))) ∧ zNR τ τ')) = Q
  have fin : ∀ e, 2 * e ≤ (R r).length → e = zends (R r) 0 ((R r).length + 1) → ∀ (n j : Nat) (σ : ww_M), j + n = (R r).length - 2 * e → (∀ m, m ≠ (22, r) → σ m = τ m) → (∀ i, i < j → σ (22, r) i = nI (zat (R r) (e + i))) → (∀ i, j ≤ i → σ (22, r) i = τ (22, r) i) → ww_W g mX2_cutToRing E Q 54 [some (.inr (.inr (21, r))), some (.inl (nI e)), some (.inl (nI ((R r).length - 2 * e))), some (.inl (nI j))] [] σ := by
    intro e he hee n
    induction n with
    | zero =>
      intro j σ hj ho hi hk
      subst hQ
      have done : ∀ τ1 : ww_M, τ1 = ww_up σ (21, r) 1 (nI ((R r).length - 2 * e)) → zRows τ1 (zup R r (zring (R r))) ∧ zNR τ τ1 := by
        intro τ1 e1
        have hof : ∀ m : ww_N, m ≠ (21, r) → m ≠ (22, r) → τ1 m = τ m := fun m m1 m2 => by rw [e1, ww_up_f m1, ho m m2]
        refine ⟨h.set ⟨by rw [zring_len]; omega, by rw [e1, ww_up_s, zring_len, ← hee], fun k hk => ?_, zring_ok h4⟩ hof, fun m m1 m2 => hof m (fun q => m1 (by rw [q])) (fun q => m2 (by rw [q]))⟩
        rw [zring_len, ← hee] at hk
        rw [e1, ww_up_n (by simp), hi k (by omega)]
        unfold zring
        rw [← hee, zat_take hk, zat_drop]
      refine b_X2_cutToRing_54 hr ⟨fun c => done, fun c => ?_⟩
      rw [zle (by omega) (by omega)] at c; omega
    | succ n ih =>
      intro j σ hj ho hi hk
      have key : ∀ τ5 : ww_M, τ5 = ww_up σ (22, r) j (σ (22, r) (j + e)) → ww_W g mX2_cutToRing E Q 54 [some (.inr (.inr (21, r))), some (.inl (nI e)), some (.inl (nI ((R r).length - 2 * e))), some (.inl (nI j + nI 1))] [] τ5 := by
        intro τ5 e5
        rw [zadd]
        refine ih (j + 1) τ5 (by omega) (fun m hm => by rw [e5, ww_up_f hm, ho m hm]) (fun i hi2 => ?_) (fun i hi2 => ?_)
        · rw [e5]
          by_cases hij : i = j
          · subst hij
            rw [ww_up_s, hk _ (by omega), h3 _ (by omega), Nat.add_comm]
          · rw [ww_up_k hij, hi i (by omega)]
        · rw [e5, ww_up_k (by omega), hk i (by omega)]
      subst hQ
      refine b_X2_cutToRing_54 hr ⟨fun c => ?_, fun c => ⟨fun c2 => ?_, fun c2 => ⟨j + e, zadd _ _, by omega, j, rfl, by omega, key⟩⟩⟩
      · rw [zle (by omega) (by omega)] at c; omega
      · rw [zadd, zle (by omega) (by omega)] at c2; omega
  have loop : ∀ (n e : Nat), 2 * e ≤ (R r).length → (R r).length < e + n → zends (R r) e n = zends (R r) 0 ((R r).length + 1) → ww_W g mX2_cutToRing E Q 2 [some (.inr (.inr (21, r))), some (.inl (nI e)), none, none] [] τ := by
    intro n
    induction n with
    | zero => intro e he hn; omega
    | succ n ih =>
      intro e he hn hz
      have stop : ¬ (2 * e + 1 < (R r).length ∧ zat (R r) e = zo (zat (R r) ((R r).length - 1 - e))) → ww_W g mX2_cutToRing E Q 54 [some (.inr (.inr (21, r))), some (.inl (nI e)), some (.inl (nI (R r).length - nI 2 * nI e)), some (.inl (nI 0))] [] τ := by
        intro hn2
        rw [zends, if_neg hn2] at hz
        rw [zmul, zsub (by omega)]
        exact fin e he hz ((R r).length - 2 * e) 0 τ (by omega) (fun _ _ => rfl) (fun i hi => absurd hi (Nat.not_lt_zero i)) (fun _ _ => rfl)
      subst hQ
      refine b_X2_cutToRing_2 hr ⟨fun c => ?_, fun c => ?_⟩
      · rw [h2] at c ⊢
        refine stop (fun q => ?_)
        rw [zmul, zadd, zle (by omega) (by omega)] at c; omega
      · rw [h2, zmul, zadd, zle (by omega) (by omega)] at c
        refine ⟨_, s_at hx hr (by omega), ?_⟩
        rintro v2 τ3 ⟨rfl, rfl⟩
        rw [if_pos (by omega), h2, zsub (by omega), zsub (by omega)]
        refine ⟨_, s_at hx hr (by omega), ?_⟩
        rintro v5 τ6 ⟨rfl, rfl⟩
        rw [if_pos (by omega)]
        have z1 := zat_lt h4 (show e < (R r).length by omega)
        have z2 := zat_lt h4 (show (R r).length - 1 - e < (R r).length by omega)
        have z3 := zo_lt z2
        refine ⟨_, s_opp z2, ?_⟩
        rintro v8 τ9 ⟨rfl, rfl⟩
        rw [zeq (by omega) (by omega), zadd]
        refine ⟨fun c2 => by rw [h2]; exact stop (fun q => c2 q.2), fun c2 => ih (e + 1) (by omega) (by omega) ?_⟩
        rw [zends, if_pos ⟨by omega, c2⟩] at hz
        exact hz
  exact loop ((R r).length + 1) 0 (by omega) (by omega) rfl
end ROWS
end
