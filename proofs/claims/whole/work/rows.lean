section
-- ===== PART A: goes FIRST, ahead of the names: the tables' words, and 'selects' of the private methods out of them =====
/-- a private method of a class that the tables say can be made, by its rows of tables_1 -/
def lw_okq (q : MethodName × Nat) : Prop := (q.1.cls ≠ "java/lang/invoke/MethodHandle" ∧ q.1.cls ≠ "java/lang/invoke/VarHandle") ∧ Cond.instantiable q.1.cls q.2 ∈ tables_1 ∧ Cond.privateMethod q.1 ∈ tables_1 ∧ Cond.instanceMethod q.1 ∈ tables_1
theorem lw_p0 : lw_okq (⟨"StandingQueries$Words", "putWordsOf", "(LStandingQueries$Held;I)V"⟩, 2) := ⟨⟨by decide +kernel, by decide +kernel⟩, List.mem_of_getElem? (i := 82) (by decide +kernel), List.mem_of_getElem? (i := 250) (by decide +kernel), List.mem_of_getElem? (i := 251) (by decide +kernel)⟩
theorem lw_p1 : lw_okq (⟨"StandingQueries$Text", "advance", "()V"⟩, 8) := ⟨⟨by decide +kernel, by decide +kernel⟩, List.mem_of_getElem? (i := 23) (by decide +kernel), List.mem_of_getElem? (i := 266) (by decide +kernel), List.mem_of_getElem? (i := 267) (by decide +kernel)⟩
theorem lw_p2 : lw_okq (⟨"StandingQueries$Text", "readItem", "()Z"⟩, 8) := ⟨⟨by decide +kernel, by decide +kernel⟩, List.mem_of_getElem? (i := 23) (by decide +kernel), List.mem_of_getElem? (i := 273) (by decide +kernel), List.mem_of_getElem? (i := 274) (by decide +kernel)⟩
theorem lw_p3 : lw_okq (⟨"StandingQueries$Text", "readQuery", "()Z"⟩, 8) := ⟨⟨by decide +kernel, by decide +kernel⟩, List.mem_of_getElem? (i := 23) (by decide +kernel), List.mem_of_getElem? (i := 277) (by decide +kernel), List.mem_of_getElem? (i := 278) (by decide +kernel)⟩
theorem lw_p4 : lw_okq (⟨"StandingQueries$Text", "lacksParts", "()Z"⟩, 8) := ⟨⟨by decide +kernel, by decide +kernel⟩, List.mem_of_getElem? (i := 23) (by decide +kernel), List.mem_of_getElem? (i := 281) (by decide +kernel), List.mem_of_getElem? (i := 282) (by decide +kernel)⟩
theorem lw_p5 : lw_okq (⟨"StandingQueries$Text", "hasOpenQuery", "()Z"⟩, 8) := ⟨⟨by decide +kernel, by decide +kernel⟩, List.mem_of_getElem? (i := 23) (by decide +kernel), List.mem_of_getElem? (i := 285) (by decide +kernel), List.mem_of_getElem? (i := 286) (by decide +kernel)⟩
theorem lw_p6 : lw_okq (⟨"StandingQueries$Text", "readStop", "()Z"⟩, 8) := ⟨⟨by decide +kernel, by decide +kernel⟩, List.mem_of_getElem? (i := 23) (by decide +kernel), List.mem_of_getElem? (i := 297) (by decide +kernel), List.mem_of_getElem? (i := 298) (by decide +kernel)⟩
theorem lw_p7 : lw_okq (⟨"StandingQueries$Text", "readPart", "(I)Z"⟩, 8) := ⟨⟨by decide +kernel, by decide +kernel⟩, List.mem_of_getElem? (i := 23) (by decide +kernel), List.mem_of_getElem? (i := 301) (by decide +kernel), List.mem_of_getElem? (i := 302) (by decide +kernel)⟩
theorem lw_p8 : lw_okq (⟨"StandingQueries$Text", "mayHavePart", "()Z"⟩, 8) := ⟨⟨by decide +kernel, by decide +kernel⟩, List.mem_of_getElem? (i := 23) (by decide +kernel), List.mem_of_getElem? (i := 305) (by decide +kernel), List.mem_of_getElem? (i := 306) (by decide +kernel)⟩
theorem lw_p9 : lw_okq (⟨"StandingQueries$Text", "readWord", "()I"⟩, 8) := ⟨⟨by decide +kernel, by decide +kernel⟩, List.mem_of_getElem? (i := 23) (by decide +kernel), List.mem_of_getElem? (i := 309) (by decide +kernel), List.mem_of_getElem? (i := 310) (by decide +kernel)⟩
theorem lw_p10 : lw_okq (⟨"StandingQueries$Text", "readNear", "()Z"⟩, 8) := ⟨⟨by decide +kernel, by decide +kernel⟩, List.mem_of_getElem? (i := 23) (by decide +kernel), List.mem_of_getElem? (i := 329) (by decide +kernel), List.mem_of_getElem? (i := 330) (by decide +kernel)⟩
theorem lw_p11 : lw_okq (⟨"StandingQueries", "rebuild", "()V"⟩, 9) := ⟨⟨by decide +kernel, by decide +kernel⟩, List.mem_of_getElem? (i := 15) (by decide +kernel), List.mem_of_getElem? (i := 347) (by decide +kernel), List.mem_of_getElem? (i := 348) (by decide +kernel)⟩
theorem lw_p12 : lw_okq (⟨"StandingQueries$Automaton", "growTo", "(ILStandingQueries$Words;)V"⟩, 8) := ⟨⟨by decide +kernel, by decide +kernel⟩, List.mem_of_getElem? (i := 149) (by decide +kernel), List.mem_of_getElem? (i := 359) (by decide +kernel), List.mem_of_getElem? (i := 360) (by decide +kernel)⟩
theorem lw_p13 : lw_okq (⟨"StandingQueries$Automaton", "addNode", "(III)V"⟩, 8) := ⟨⟨by decide +kernel, by decide +kernel⟩, List.mem_of_getElem? (i := 149) (by decide +kernel), List.mem_of_getElem? (i := 375) (by decide +kernel), List.mem_of_getElem? (i := 376) (by decide +kernel)⟩
theorem lw_p14 : lw_okq (⟨"StandingQueries$Automaton", "link", "()V"⟩, 8) := ⟨⟨by decide +kernel, by decide +kernel⟩, List.mem_of_getElem? (i := 149) (by decide +kernel), List.mem_of_getElem? (i := 379) (by decide +kernel), List.mem_of_getElem? (i := 380) (by decide +kernel)⟩
theorem lw_p15 : lw_okq (⟨"StandingQueries", "walk", "()V"⟩, 9) := ⟨⟨by decide +kernel, by decide +kernel⟩, List.mem_of_getElem? (i := 15) (by decide +kernel), List.mem_of_getElem? (i := 383) (by decide +kernel), List.mem_of_getElem? (i := 384) (by decide +kernel)⟩
def lw_privs_1 : List (MethodName × Nat) := [(⟨"StandingQueries$Words", "putWordsOf", "(LStandingQueries$Held;I)V"⟩, 2), (⟨"StandingQueries$Text", "advance", "()V"⟩, 8), (⟨"StandingQueries$Text", "readItem", "()Z"⟩, 8), (⟨"StandingQueries$Text", "readQuery", "()Z"⟩, 8), (⟨"StandingQueries$Text", "lacksParts", "()Z"⟩, 8), (⟨"StandingQueries$Text", "hasOpenQuery", "()Z"⟩, 8), (⟨"StandingQueries$Text", "readStop", "()Z"⟩, 8), (⟨"StandingQueries$Text", "readPart", "(I)Z"⟩, 8), (⟨"StandingQueries$Text", "mayHavePart", "()Z"⟩, 8), (⟨"StandingQueries$Text", "readWord", "()I"⟩, 8), (⟨"StandingQueries$Text", "readNear", "()Z"⟩, 8), (⟨"StandingQueries", "rebuild", "()V"⟩, 9), (⟨"StandingQueries$Automaton", "growTo", "(ILStandingQueries$Words;)V"⟩, 8), (⟨"StandingQueries$Automaton", "addNode", "(III)V"⟩, 8), (⟨"StandingQueries$Automaton", "link", "()V"⟩, 8), (⟨"StandingQueries", "walk", "()V"⟩, 9)]
theorem lw_r1 : ∀ q ∈ lw_privs_1, lw_okq q := List.forall_mem_cons.mpr ⟨lw_p0, List.forall_mem_cons.mpr ⟨lw_p1, List.forall_mem_cons.mpr ⟨lw_p2, List.forall_mem_cons.mpr ⟨lw_p3, List.forall_mem_cons.mpr ⟨lw_p4, List.forall_mem_cons.mpr ⟨lw_p5, List.forall_mem_cons.mpr ⟨lw_p6, List.forall_mem_cons.mpr ⟨lw_p7, List.forall_mem_cons.mpr ⟨lw_p8, List.forall_mem_cons.mpr ⟨lw_p9, List.forall_mem_cons.mpr ⟨lw_p10, List.forall_mem_cons.mpr ⟨lw_p11, List.forall_mem_cons.mpr ⟨lw_p12, List.forall_mem_cons.mpr ⟨lw_p13, List.forall_mem_cons.mpr ⟨lw_p14, List.forall_mem_cons.mpr ⟨lw_p15, fun _ h => absurd h List.not_mem_nil⟩⟩⟩⟩⟩⟩⟩⟩⟩⟩⟩⟩⟩⟩⟩⟩
theorem lw_p16 : lw_okq (⟨"StandingQueries", "isQuery", "(I)Z"⟩, 9) := ⟨⟨by decide +kernel, by decide +kernel⟩, List.mem_of_getElem? (i := 15) (by decide +kernel), List.mem_of_getElem? (i := 394) (by decide +kernel), List.mem_of_getElem? (i := 395) (by decide +kernel)⟩
theorem lw_p17 : lw_okq (⟨"StandingQueries$Held", "movePart", "(II)V"⟩, 8) := ⟨⟨by decide +kernel, by decide +kernel⟩, List.mem_of_getElem? (i := 29) (by decide +kernel), List.mem_of_getElem? (i := 402) (by decide +kernel), List.mem_of_getElem? (i := 403) (by decide +kernel)⟩
theorem lw_p18 : lw_okq (⟨"StandingQueries", "matches", "(II)Z"⟩, 9) := ⟨⟨by decide +kernel, by decide +kernel⟩, List.mem_of_getElem? (i := 15) (by decide +kernel), List.mem_of_getElem? (i := 427) (by decide +kernel), List.mem_of_getElem? (i := 428) (by decide +kernel)⟩
theorem lw_p19 : lw_okq (⟨"StandingQueries", "holds", "(II)Z"⟩, 9) := ⟨⟨by decide +kernel, by decide +kernel⟩, List.mem_of_getElem? (i := 15) (by decide +kernel), List.mem_of_getElem? (i := 432) (by decide +kernel), List.mem_of_getElem? (i := 433) (by decide +kernel)⟩
theorem lw_p20 : lw_okq (⟨"StandingQueries", "hitsOf", "(I)J"⟩, 9) := ⟨⟨by decide +kernel, by decide +kernel⟩, List.mem_of_getElem? (i := 15) (by decide +kernel), List.mem_of_getElem? (i := 436) (by decide +kernel), List.mem_of_getElem? (i := 437) (by decide +kernel)⟩
theorem lw_p21 : lw_okq (⟨"StandingQueries", "since", "(I)I"⟩, 9) := ⟨⟨by decide +kernel, by decide +kernel⟩, List.mem_of_getElem? (i := 15) (by decide +kernel), List.mem_of_getElem? (i := 444) (by decide +kernel), List.mem_of_getElem? (i := 445) (by decide +kernel)⟩
theorem lw_p22 : lw_okq (⟨"StandingQueries", "keyOf", "(I)I"⟩, 9) := ⟨⟨by decide +kernel, by decide +kernel⟩, List.mem_of_getElem? (i := 15) (by decide +kernel), List.mem_of_getElem? (i := 448) (by decide +kernel), List.mem_of_getElem? (i := 449) (by decide +kernel)⟩
theorem lw_p23 : lw_okq (⟨"StandingQueries", "isAsked", "(I)Z"⟩, 9) := ⟨⟨by decide +kernel, by decide +kernel⟩, List.mem_of_getElem? (i := 15) (by decide +kernel), List.mem_of_getElem? (i := 456) (by decide +kernel), List.mem_of_getElem? (i := 457) (by decide +kernel)⟩
theorem lw_p24 : lw_okq (⟨"StandingQueries", "searchFor", "(I)LStandingQueries$Search;"⟩, 9) := ⟨⟨by decide +kernel, by decide +kernel⟩, List.mem_of_getElem? (i := 15) (by decide +kernel), List.mem_of_getElem? (i := 468) (by decide +kernel), List.mem_of_getElem? (i := 469) (by decide +kernel)⟩
theorem lw_p25 : lw_okq (⟨"StandingQueries$Search", "markNodes", "(II)V"⟩, 13) := ⟨⟨by decide +kernel, by decide +kernel⟩, List.mem_of_getElem? (i := 472) (by decide +kernel), List.mem_of_getElem? (i := 533) (by decide +kernel), List.mem_of_getElem? (i := 534) (by decide +kernel)⟩
theorem lw_p26 : lw_okq (⟨"StandingQueries$Search", "isMatch", "(I)Z"⟩, 13) := ⟨⟨by decide +kernel, by decide +kernel⟩, List.mem_of_getElem? (i := 472) (by decide +kernel), List.mem_of_getElem? (i := 543) (by decide +kernel), List.mem_of_getElem? (i := 544) (by decide +kernel)⟩
theorem lw_p27 : lw_okq (⟨"StandingQueries$Search", "spread", "(II)I"⟩, 13) := ⟨⟨by decide +kernel, by decide +kernel⟩, List.mem_of_getElem? (i := 472) (by decide +kernel), List.mem_of_getElem? (i := 547) (by decide +kernel), List.mem_of_getElem? (i := 548) (by decide +kernel)⟩
theorem lw_p28 : lw_okq (⟨"StandingQueries$Search", "step", "(II)I"⟩, 13) := ⟨⟨by decide +kernel, by decide +kernel⟩, List.mem_of_getElem? (i := 472) (by decide +kernel), List.mem_of_getElem? (i := 551) (by decide +kernel), List.mem_of_getElem? (i := 552) (by decide +kernel)⟩
theorem lw_p29 : lw_okq (⟨"StandingQueries$Search", "stepNear", "(II)I"⟩, 13) := ⟨⟨by decide +kernel, by decide +kernel⟩, List.mem_of_getElem? (i := 472) (by decide +kernel), List.mem_of_getElem? (i := 555) (by decide +kernel), List.mem_of_getElem? (i := 556) (by decide +kernel)⟩
theorem lw_p30 : lw_okq (⟨"StandingQueries$Search", "lengthenRows", "()V"⟩, 13) := ⟨⟨by decide +kernel, by decide +kernel⟩, List.mem_of_getElem? (i := 472) (by decide +kernel), List.mem_of_getElem? (i := 581) (by decide +kernel), List.mem_of_getElem? (i := 582) (by decide +kernel)⟩
theorem lw_p31 : lw_okq (⟨"StandingQueries", "isWord", "(I)Z"⟩, 9) := ⟨⟨by decide +kernel, by decide +kernel⟩, List.mem_of_getElem? (i := 15) (by decide +kernel), List.mem_of_getElem? (i := 589) (by decide +kernel), List.mem_of_getElem? (i := 590) (by decide +kernel)⟩
def lw_privs_2 : List (MethodName × Nat) := [(⟨"StandingQueries", "isQuery", "(I)Z"⟩, 9), (⟨"StandingQueries$Held", "movePart", "(II)V"⟩, 8), (⟨"StandingQueries", "matches", "(II)Z"⟩, 9), (⟨"StandingQueries", "holds", "(II)Z"⟩, 9), (⟨"StandingQueries", "hitsOf", "(I)J"⟩, 9), (⟨"StandingQueries", "since", "(I)I"⟩, 9), (⟨"StandingQueries", "keyOf", "(I)I"⟩, 9), (⟨"StandingQueries", "isAsked", "(I)Z"⟩, 9), (⟨"StandingQueries", "searchFor", "(I)LStandingQueries$Search;"⟩, 9), (⟨"StandingQueries$Search", "markNodes", "(II)V"⟩, 13), (⟨"StandingQueries$Search", "isMatch", "(I)Z"⟩, 13), (⟨"StandingQueries$Search", "spread", "(II)I"⟩, 13), (⟨"StandingQueries$Search", "step", "(II)I"⟩, 13), (⟨"StandingQueries$Search", "stepNear", "(II)I"⟩, 13), (⟨"StandingQueries$Search", "lengthenRows", "()V"⟩, 13), (⟨"StandingQueries", "isWord", "(I)Z"⟩, 9)]
theorem lw_r2 : ∀ q ∈ lw_privs_2, lw_okq q := List.forall_mem_cons.mpr ⟨lw_p16, List.forall_mem_cons.mpr ⟨lw_p17, List.forall_mem_cons.mpr ⟨lw_p18, List.forall_mem_cons.mpr ⟨lw_p19, List.forall_mem_cons.mpr ⟨lw_p20, List.forall_mem_cons.mpr ⟨lw_p21, List.forall_mem_cons.mpr ⟨lw_p22, List.forall_mem_cons.mpr ⟨lw_p23, List.forall_mem_cons.mpr ⟨lw_p24, List.forall_mem_cons.mpr ⟨lw_p25, List.forall_mem_cons.mpr ⟨lw_p26, List.forall_mem_cons.mpr ⟨lw_p27, List.forall_mem_cons.mpr ⟨lw_p28, List.forall_mem_cons.mpr ⟨lw_p29, List.forall_mem_cons.mpr ⟨lw_p30, List.forall_mem_cons.mpr ⟨lw_p31, fun _ h => absurd h List.not_mem_nil⟩⟩⟩⟩⟩⟩⟩⟩⟩⟩⟩⟩⟩⟩⟩⟩
theorem lw_p32 : lw_okq (⟨"StandingQueries", "isNode", "(I)Z"⟩, 9) := ⟨⟨by decide +kernel, by decide +kernel⟩, List.mem_of_getElem? (i := 15) (by decide +kernel), List.mem_of_getElem? (i := 611) (by decide +kernel), List.mem_of_getElem? (i := 612) (by decide +kernel)⟩
theorem lw_p33 : lw_okq (⟨"StandingQueries", "matching", "(I)I"⟩, 9) := ⟨⟨by decide +kernel, by decide +kernel⟩, List.mem_of_getElem? (i := 15) (by decide +kernel), List.mem_of_getElem? (i := 627) (by decide +kernel), List.mem_of_getElem? (i := 628) (by decide +kernel)⟩
theorem lw_p34 : lw_okq (⟨"StandingQueries", "withoutLast", "()I"⟩, 9) := ⟨⟨by decide +kernel, by decide +kernel⟩, List.mem_of_getElem? (i := 15) (by decide +kernel), List.mem_of_getElem? (i := 631) (by decide +kernel), List.mem_of_getElem? (i := 632) (by decide +kernel)⟩
theorem lw_p35 : lw_okq (⟨"StandingQueries", "asked", "()I"⟩, 9) := ⟨⟨by decide +kernel, by decide +kernel⟩, List.mem_of_getElem? (i := 15) (by decide +kernel), List.mem_of_getElem? (i := 636) (by decide +kernel), List.mem_of_getElem? (i := 637) (by decide +kernel)⟩
theorem lw_p36 : lw_okq (⟨"StandingQueries", "allHits", "()I"⟩, 9) := ⟨⟨by decide +kernel, by decide +kernel⟩, List.mem_of_getElem? (i := 15) (by decide +kernel), List.mem_of_getElem? (i := 640) (by decide +kernel), List.mem_of_getElem? (i := 641) (by decide +kernel)⟩
theorem lw_p37 : lw_okq (⟨"StandingQueriesModel", "make", "()V"⟩, 31) := ⟨⟨by decide +kernel, by decide +kernel⟩, List.mem_of_getElem? (i := 672) (by decide +kernel), List.mem_of_getElem? (i := 678) (by decide +kernel), List.mem_of_getElem? (i := 679) (by decide +kernel)⟩
theorem lw_p38 : lw_okq (⟨"StandingQueriesModel", "layWords", "([I)V"⟩, 31) := ⟨⟨by decide +kernel, by decide +kernel⟩, List.mem_of_getElem? (i := 672) (by decide +kernel), List.mem_of_getElem? (i := 682) (by decide +kernel), List.mem_of_getElem? (i := 683) (by decide +kernel)⟩
theorem lw_p39 : lw_okq (⟨"StandingQueriesModel", "addWord", "(I)V"⟩, 31) := ⟨⟨by decide +kernel, by decide +kernel⟩, List.mem_of_getElem? (i := 672) (by decide +kernel), List.mem_of_getElem? (i := 692) (by decide +kernel), List.mem_of_getElem? (i := 693) (by decide +kernel)⟩
theorem lw_p40 : lw_okq (⟨"StandingQueriesModel", "addNode", "(I)V"⟩, 31) := ⟨⟨by decide +kernel, by decide +kernel⟩, List.mem_of_getElem? (i := 672) (by decide +kernel), List.mem_of_getElem? (i := 703) (by decide +kernel), List.mem_of_getElem? (i := 704) (by decide +kernel)⟩
theorem lw_p41 : lw_okq (⟨"StandingQueriesModel", "longest", "(II)I"⟩, 31) := ⟨⟨by decide +kernel, by decide +kernel⟩, List.mem_of_getElem? (i := 672) (by decide +kernel), List.mem_of_getElem? (i := 711) (by decide +kernel), List.mem_of_getElem? (i := 712) (by decide +kernel)⟩
theorem lw_p42 : lw_okq (⟨"StandingQueriesModel", "nodeOf", "(I)I"⟩, 31) := ⟨⟨by decide +kernel, by decide +kernel⟩, List.mem_of_getElem? (i := 672) (by decide +kernel), List.mem_of_getElem? (i := 718) (by decide +kernel), List.mem_of_getElem? (i := 719) (by decide +kernel)⟩
theorem lw_p43 : lw_okq (⟨"StandingQueriesModel", "step", "()V"⟩, 31) := ⟨⟨by decide +kernel, by decide +kernel⟩, List.mem_of_getElem? (i := 672) (by decide +kernel), List.mem_of_getElem? (i := 828) (by decide +kernel), List.mem_of_getElem? (i := 829) (by decide +kernel)⟩
theorem lw_p44 : lw_okq (⟨"StandingQueriesModel", "byteAt", "(I)I"⟩, 31) := ⟨⟨by decide +kernel, by decide +kernel⟩, List.mem_of_getElem? (i := 672) (by decide +kernel), List.mem_of_getElem? (i := 832) (by decide +kernel), List.mem_of_getElem? (i := 833) (by decide +kernel)⟩
theorem lw_p45 : lw_okq (⟨"StandingQueriesModel", "readItem", "()Z"⟩, 31) := ⟨⟨by decide +kernel, by decide +kernel⟩, List.mem_of_getElem? (i := 672) (by decide +kernel), List.mem_of_getElem? (i := 840) (by decide +kernel), List.mem_of_getElem? (i := 841) (by decide +kernel)⟩
theorem lw_p46 : lw_okq (⟨"StandingQueriesModel", "isName", "(I)Z"⟩, 31) := ⟨⟨by decide +kernel, by decide +kernel⟩, List.mem_of_getElem? (i := 672) (by decide +kernel), List.mem_of_getElem? (i := 844) (by decide +kernel), List.mem_of_getElem? (i := 845) (by decide +kernel)⟩
theorem lw_p47 : lw_okq (⟨"StandingQueriesModel", "isWhole", "()Z"⟩, 31) := ⟨⟨by decide +kernel, by decide +kernel⟩, List.mem_of_getElem? (i := 672) (by decide +kernel), List.mem_of_getElem? (i := 848) (by decide +kernel), List.mem_of_getElem? (i := 849) (by decide +kernel)⟩
def lw_privs_3 : List (MethodName × Nat) := [(⟨"StandingQueries", "isNode", "(I)Z"⟩, 9), (⟨"StandingQueries", "matching", "(I)I"⟩, 9), (⟨"StandingQueries", "withoutLast", "()I"⟩, 9), (⟨"StandingQueries", "asked", "()I"⟩, 9), (⟨"StandingQueries", "allHits", "()I"⟩, 9), (⟨"StandingQueriesModel", "make", "()V"⟩, 31), (⟨"StandingQueriesModel", "layWords", "([I)V"⟩, 31), (⟨"StandingQueriesModel", "addWord", "(I)V"⟩, 31), (⟨"StandingQueriesModel", "addNode", "(I)V"⟩, 31), (⟨"StandingQueriesModel", "longest", "(II)I"⟩, 31), (⟨"StandingQueriesModel", "nodeOf", "(I)I"⟩, 31), (⟨"StandingQueriesModel", "step", "()V"⟩, 31), (⟨"StandingQueriesModel", "byteAt", "(I)I"⟩, 31), (⟨"StandingQueriesModel", "readItem", "()Z"⟩, 31), (⟨"StandingQueriesModel", "isName", "(I)Z"⟩, 31), (⟨"StandingQueriesModel", "isWhole", "()Z"⟩, 31)]
theorem lw_r3 : ∀ q ∈ lw_privs_3, lw_okq q := List.forall_mem_cons.mpr ⟨lw_p32, List.forall_mem_cons.mpr ⟨lw_p33, List.forall_mem_cons.mpr ⟨lw_p34, List.forall_mem_cons.mpr ⟨lw_p35, List.forall_mem_cons.mpr ⟨lw_p36, List.forall_mem_cons.mpr ⟨lw_p37, List.forall_mem_cons.mpr ⟨lw_p38, List.forall_mem_cons.mpr ⟨lw_p39, List.forall_mem_cons.mpr ⟨lw_p40, List.forall_mem_cons.mpr ⟨lw_p41, List.forall_mem_cons.mpr ⟨lw_p42, List.forall_mem_cons.mpr ⟨lw_p43, List.forall_mem_cons.mpr ⟨lw_p44, List.forall_mem_cons.mpr ⟨lw_p45, List.forall_mem_cons.mpr ⟨lw_p46, List.forall_mem_cons.mpr ⟨lw_p47, fun _ h => absurd h List.not_mem_nil⟩⟩⟩⟩⟩⟩⟩⟩⟩⟩⟩⟩⟩⟩⟩⟩
theorem lw_p48 : lw_okq (⟨"StandingQueriesModel", "hasNear", "(I)Z"⟩, 31) := ⟨⟨by decide +kernel, by decide +kernel⟩, List.mem_of_getElem? (i := 672) (by decide +kernel), List.mem_of_getElem? (i := 852) (by decide +kernel), List.mem_of_getElem? (i := 853) (by decide +kernel)⟩
theorem lw_p49 : lw_okq (⟨"StandingQueriesModel", "readPart", "(I)Z"⟩, 31) := ⟨⟨by decide +kernel, by decide +kernel⟩, List.mem_of_getElem? (i := 672) (by decide +kernel), List.mem_of_getElem? (i := 856) (by decide +kernel), List.mem_of_getElem? (i := 857) (by decide +kernel)⟩
theorem lw_p50 : lw_okq (⟨"StandingQueriesModel", "readWord", "()I"⟩, 31) := ⟨⟨by decide +kernel, by decide +kernel⟩, List.mem_of_getElem? (i := 672) (by decide +kernel), List.mem_of_getElem? (i := 860) (by decide +kernel), List.mem_of_getElem? (i := 861) (by decide +kernel)⟩
theorem lw_p51 : lw_okq (⟨"StandingQueriesModel", "keepAct", "()V"⟩, 31) := ⟨⟨by decide +kernel, by decide +kernel⟩, List.mem_of_getElem? (i := 672) (by decide +kernel), List.mem_of_getElem? (i := 865) (by decide +kernel), List.mem_of_getElem? (i := 866) (by decide +kernel)⟩
theorem lw_p52 : lw_okq (⟨"StandingQueriesModel", "isQuery", "(I)Z"⟩, 31) := ⟨⟨by decide +kernel, by decide +kernel⟩, List.mem_of_getElem? (i := 672) (by decide +kernel), List.mem_of_getElem? (i := 873) (by decide +kernel), List.mem_of_getElem? (i := 874) (by decide +kernel)⟩
theorem lw_p53 : lw_okq (⟨"StandingQueriesModel", "nodeAt", "(I)I"⟩, 31) := ⟨⟨by decide +kernel, by decide +kernel⟩, List.mem_of_getElem? (i := 672) (by decide +kernel), List.mem_of_getElem? (i := 882) (by decide +kernel), List.mem_of_getElem? (i := 883) (by decide +kernel)⟩
theorem lw_p54 : lw_okq (⟨"StandingQueriesModel", "layEnds", "()V"⟩, 31) := ⟨⟨by decide +kernel, by decide +kernel⟩, List.mem_of_getElem? (i := 672) (by decide +kernel), List.mem_of_getElem? (i := 898) (by decide +kernel), List.mem_of_getElem? (i := 899) (by decide +kernel)⟩
theorem lw_p55 : lw_okq (⟨"StandingQueriesModel", "matches", "(II)Z"⟩, 31) := ⟨⟨by decide +kernel, by decide +kernel⟩, List.mem_of_getElem? (i := 672) (by decide +kernel), List.mem_of_getElem? (i := 902) (by decide +kernel), List.mem_of_getElem? (i := 903) (by decide +kernel)⟩
theorem lw_p56 : lw_okq (⟨"StandingQueriesModel", "holds", "(III)Z"⟩, 31) := ⟨⟨by decide +kernel, by decide +kernel⟩, List.mem_of_getElem? (i := 672) (by decide +kernel), List.mem_of_getElem? (i := 906) (by decide +kernel), List.mem_of_getElem? (i := 907) (by decide +kernel)⟩
theorem lw_p57 : lw_okq (⟨"StandingQueriesModel", "numberOf", "(I)I"⟩, 31) := ⟨⟨by decide +kernel, by decide +kernel⟩, List.mem_of_getElem? (i := 672) (by decide +kernel), List.mem_of_getElem? (i := 910) (by decide +kernel), List.mem_of_getElem? (i := 911) (by decide +kernel)⟩
theorem lw_p58 : lw_okq (⟨"StandingQueriesModel", "hits", "(II)I"⟩, 31) := ⟨⟨by decide +kernel, by decide +kernel⟩, List.mem_of_getElem? (i := 672) (by decide +kernel), List.mem_of_getElem? (i := 914) (by decide +kernel), List.mem_of_getElem? (i := 915) (by decide +kernel)⟩
theorem lw_p59 : lw_okq (⟨"StandingQueriesModel", "since", "(I)I"⟩, 31) := ⟨⟨by decide +kernel, by decide +kernel⟩, List.mem_of_getElem? (i := 672) (by decide +kernel), List.mem_of_getElem? (i := 921) (by decide +kernel), List.mem_of_getElem? (i := 922) (by decide +kernel)⟩
theorem lw_p60 : lw_okq (⟨"StandingQueriesModel", "key", "(I)I"⟩, 31) := ⟨⟨by decide +kernel, by decide +kernel⟩, List.mem_of_getElem? (i := 672) (by decide +kernel), List.mem_of_getElem? (i := 925) (by decide +kernel), List.mem_of_getElem? (i := 926) (by decide +kernel)⟩
theorem lw_p61 : lw_okq (⟨"StandingQueriesModel", "isAsked", "(I)Z"⟩, 31) := ⟨⟨by decide +kernel, by decide +kernel⟩, List.mem_of_getElem? (i := 672) (by decide +kernel), List.mem_of_getElem? (i := 929) (by decide +kernel), List.mem_of_getElem? (i := 930) (by decide +kernel)⟩
theorem lw_p62 : lw_okq (⟨"StandingQueriesModel", "takes", "(I)V"⟩, 31) := ⟨⟨by decide +kernel, by decide +kernel⟩, List.mem_of_getElem? (i := 672) (by decide +kernel), List.mem_of_getElem? (i := 941) (by decide +kernel), List.mem_of_getElem? (i := 942) (by decide +kernel)⟩
theorem lw_p63 : lw_okq (⟨"StandingQueriesModel", "begins", "()I"⟩, 31) := ⟨⟨by decide +kernel, by decide +kernel⟩, List.mem_of_getElem? (i := 672) (by decide +kernel), List.mem_of_getElem? (i := 945) (by decide +kernel), List.mem_of_getElem? (i := 946) (by decide +kernel)⟩
def lw_privs_4 : List (MethodName × Nat) := [(⟨"StandingQueriesModel", "hasNear", "(I)Z"⟩, 31), (⟨"StandingQueriesModel", "readPart", "(I)Z"⟩, 31), (⟨"StandingQueriesModel", "readWord", "()I"⟩, 31), (⟨"StandingQueriesModel", "keepAct", "()V"⟩, 31), (⟨"StandingQueriesModel", "isQuery", "(I)Z"⟩, 31), (⟨"StandingQueriesModel", "nodeAt", "(I)I"⟩, 31), (⟨"StandingQueriesModel", "layEnds", "()V"⟩, 31), (⟨"StandingQueriesModel", "matches", "(II)Z"⟩, 31), (⟨"StandingQueriesModel", "holds", "(III)Z"⟩, 31), (⟨"StandingQueriesModel", "numberOf", "(I)I"⟩, 31), (⟨"StandingQueriesModel", "hits", "(II)I"⟩, 31), (⟨"StandingQueriesModel", "since", "(I)I"⟩, 31), (⟨"StandingQueriesModel", "key", "(I)I"⟩, 31), (⟨"StandingQueriesModel", "isAsked", "(I)Z"⟩, 31), (⟨"StandingQueriesModel", "takes", "(I)V"⟩, 31), (⟨"StandingQueriesModel", "begins", "()I"⟩, 31)]
theorem lw_r4 : ∀ q ∈ lw_privs_4, lw_okq q := List.forall_mem_cons.mpr ⟨lw_p48, List.forall_mem_cons.mpr ⟨lw_p49, List.forall_mem_cons.mpr ⟨lw_p50, List.forall_mem_cons.mpr ⟨lw_p51, List.forall_mem_cons.mpr ⟨lw_p52, List.forall_mem_cons.mpr ⟨lw_p53, List.forall_mem_cons.mpr ⟨lw_p54, List.forall_mem_cons.mpr ⟨lw_p55, List.forall_mem_cons.mpr ⟨lw_p56, List.forall_mem_cons.mpr ⟨lw_p57, List.forall_mem_cons.mpr ⟨lw_p58, List.forall_mem_cons.mpr ⟨lw_p59, List.forall_mem_cons.mpr ⟨lw_p60, List.forall_mem_cons.mpr ⟨lw_p61, List.forall_mem_cons.mpr ⟨lw_p62, List.forall_mem_cons.mpr ⟨lw_p63, fun _ h => absurd h List.not_mem_nil⟩⟩⟩⟩⟩⟩⟩⟩⟩⟩⟩⟩⟩⟩⟩⟩
theorem lw_p64 : lw_okq (⟨"StandingQueriesModel", "nearest", "(II)I"⟩, 31) := ⟨⟨by decide +kernel, by decide +kernel⟩, List.mem_of_getElem? (i := 672) (by decide +kernel), List.mem_of_getElem? (i := 952) (by decide +kernel), List.mem_of_getElem? (i := 953) (by decide +kernel)⟩
theorem lw_p65 : lw_okq (⟨"StandingQueriesModel", "isDone", "(I)Z"⟩, 31) := ⟨⟨by decide +kernel, by decide +kernel⟩, List.mem_of_getElem? (i := 672) (by decide +kernel), List.mem_of_getElem? (i := 956) (by decide +kernel), List.mem_of_getElem? (i := 957) (by decide +kernel)⟩
theorem lw_p66 : lw_okq (⟨"StandingQueriesModel", "behind", "(III)I"⟩, 31) := ⟨⟨by decide +kernel, by decide +kernel⟩, List.mem_of_getElem? (i := 672) (by decide +kernel), List.mem_of_getElem? (i := 961) (by decide +kernel), List.mem_of_getElem? (i := 962) (by decide +kernel)⟩
theorem lw_p67 : lw_okq (⟨"StandingQueriesModel", "allHits", "()I"⟩, 31) := ⟨⟨by decide +kernel, by decide +kernel⟩, List.mem_of_getElem? (i := 672) (by decide +kernel), List.mem_of_getElem? (i := 1001) (by decide +kernel), List.mem_of_getElem? (i := 1002) (by decide +kernel)⟩
def lw_privs_5 : List (MethodName × Nat) := [(⟨"StandingQueriesModel", "nearest", "(II)I"⟩, 31), (⟨"StandingQueriesModel", "isDone", "(I)Z"⟩, 31), (⟨"StandingQueriesModel", "behind", "(III)I"⟩, 31), (⟨"StandingQueriesModel", "allHits", "()I"⟩, 31)]
theorem lw_r5 : ∀ q ∈ lw_privs_5, lw_okq q := List.forall_mem_cons.mpr ⟨lw_p64, List.forall_mem_cons.mpr ⟨lw_p65, List.forall_mem_cons.mpr ⟨lw_p66, List.forall_mem_cons.mpr ⟨lw_p67, fun _ h => absurd h List.not_mem_nil⟩⟩⟩⟩
def lw_privs : List (MethodName × Nat) := lw_privs_1 ++ (lw_privs_2 ++ (lw_privs_3 ++ (lw_privs_4 ++ (lw_privs_5))))
def lw_tbl : List Cond := k2_sels lw_privs ++ tables_1
theorem lw_privs_ok : ∀ q ∈ lw_privs, lw_okq q := by
  show ∀ q ∈ lw_privs_1 ++ (lw_privs_2 ++ (lw_privs_3 ++ (lw_privs_4 ++ (lw_privs_5)))), lw_okq q
  exact List.forall_mem_append.mpr ⟨lw_r1, List.forall_mem_append.mpr ⟨lw_r2, List.forall_mem_append.mpr ⟨lw_r3, List.forall_mem_append.mpr ⟨lw_r4, lw_r5⟩⟩⟩⟩
end
section
def RX0 : String := "StandingQueries$Automaton"
def TX0 : u_T := fun k => match k with
  | 0 => ("StandingQueries$Automaton", "nodes", "I", false)
  | 1 => ("StandingQueries$Automaton", "size", "[I", true)
  | 2 => ("StandingQueries$Automaton", "last", "[I", true)
  | 3 => ("StandingQueries$Automaton", "parent", "[I", true)
  | 4 => ("StandingQueries$Automaton", "fail", "[I", true)
  | 5 => ("StandingQueries$Automaton", "ends", "[I", true)
  | 6 => ("StandingQueries$Automaton", "follow", "[I", true)
  | _ => ("StandingQueries$Automaton", "reached", "[I", true)
def tyX0 : Nat → FieldType := fun k => match k with
  | 0 => .int
  | 1 => .array .int
  | 2 => .array .int
  | 3 => .array .int
  | 4 => .array .int
  | 5 => .array .int
  | 6 => .array .int
  | _ => .array .int
theorem nmX0 : ∀ a, a < 8 → ∀ b, b < 8 → a ≠ b → (TX0 a).2.1 ≠ (TX0 b).2.1 := by decide +kernel
theorem tyX0_ok : ∀ k, k < 8 → parseFieldDescriptor (TX0 k).2.2.1 = some (tyX0 k) := by decide +kernel
abbrev cX0_init : ByteArray := prog_2_method_1_code
def yX0_init : MethodName := ⟨RX0, "<init>", "(I)V"⟩
abbrev cX0_build : ByteArray := prog_2_method_2_code
def yX0_build : MethodName := ⟨RX0, "build", "(LStandingQueries$Words;)V"⟩
abbrev cX0_growTo : ByteArray := prog_2_method_3_code
def yX0_growTo : MethodName := ⟨RX0, "growTo", "(ILStandingQueries$Words;)V"⟩
abbrev cX0_addNode : ByteArray := prog_2_method_4_code
def yX0_addNode : MethodName := ⟨RX0, "addNode", "(III)V"⟩
abbrev cX0_link : ByteArray := prog_2_method_5_code
def yX0_link : MethodName := ⟨RX0, "link", "()V"⟩
def RX1 : String := "StandingQueries$Held"
def TX1 : u_T := fun k => match k with
  | 0 => ("StandingQueries$Held", "queries", "I", false)
  | 1 => ("StandingQueries$Held", "letters", "I", false)
  | 2 => ("StandingQueries$Held", "parts", "[I", true)
  | 3 => ("StandingQueries$Held", "sort", "[I", true)
  | 4 => ("StandingQueries$Held", "word", "[I", true)
  | 5 => ("StandingQueries$Held", "earlier", "[I", true)
  | 6 => ("StandingQueries$Held", "reach", "[I", true)
  | _ => ("StandingQueries$Held", "row", "[I", true)
def tyX1 : Nat → FieldType := fun k => match k with
  | 0 => .int
  | 1 => .int
  | 2 => .array .int
  | 3 => .array .int
  | 4 => .array .int
  | 5 => .array .int
  | 6 => .array .int
  | _ => .array .int
theorem nmX1 : ∀ a, a < 8 → ∀ b, b < 8 → a ≠ b → (TX1 a).2.1 ≠ (TX1 b).2.1 := by decide +kernel
theorem tyX1_ok : ∀ k, k < 8 → parseFieldDescriptor (TX1 k).2.2.1 = some (tyX1 k) := by decide +kernel
abbrev cX1_init : ByteArray := prog_3_method_1_code
def yX1_init : MethodName := ⟨RX1, "<init>", "()V"⟩
abbrev cX1_place : ByteArray := prog_3_method_2_code
def yX1_place : MethodName := ⟨RX1, "place", "(II)I"⟩
abbrev cX1_take : ByteArray := prog_3_method_3_code
def yX1_take : MethodName := ⟨RX1, "take", "(LStandingQueries$Held;)V"⟩
abbrev cX1_startQuery : ByteArray := prog_3_method_4_code
def yX1_startQuery : MethodName := ⟨RX1, "startQuery", "()Z"⟩
abbrev cX1_partsOfLast : ByteArray := prog_3_method_5_code
def yX1_partsOfLast : MethodName := ⟨RX1, "partsOfLast", "()I"⟩
abbrev cX1_lastHasNear : ByteArray := prog_3_method_6_code
def yX1_lastHasNear : MethodName := ⟨RX1, "lastHasNear", "()Z"⟩
abbrev cX1_addPart : ByteArray := prog_3_method_7_code
def yX1_addPart : MethodName := ⟨RX1, "addPart", "(IIII)V"⟩
abbrev cX1_dropQuery : ByteArray := prog_3_method_8_code
def yX1_dropQuery : MethodName := ⟨RX1, "dropQuery", "(I)V"⟩
abbrev cX1_movePart : ByteArray := prog_3_method_9_code
def yX1_movePart : MethodName := ⟨RX1, "movePart", "(II)V"⟩
def RX2 : String := "StandingQueries$History"
def TX2 : u_T := fun k => match k with
  | 0 => ("StandingQueries$History", "ring", "[LStandingQueries$Held;", true)
  | 1 => ("StandingQueries$History", "latest", "I", false)
  | _ => ("StandingQueries$History", "known", "I", false)
def tyX2 : Nat → FieldType := fun k => match k with
  | 0 => .array (.object "StandingQueries$Held")
  | 1 => .int
  | _ => .int
theorem nmX2 : ∀ a, a < 3 → ∀ b, b < 3 → a ≠ b → (TX2 a).2.1 ≠ (TX2 b).2.1 := by decide +kernel
theorem tyX2_ok : ∀ k, k < 3 → parseFieldDescriptor (TX2 k).2.2.1 = some (tyX2 k) := by decide +kernel
abbrev cX2_init : ByteArray := prog_4_method_1_code
def yX2_init : MethodName := ⟨RX2, "<init>", "()V"⟩
abbrev cX2_push : ByteArray := prog_4_method_2_code
def yX2_push : MethodName := ⟨RX2, "push", "(LStandingQueries$Held;)V"⟩
abbrev cX2_popInto : ByteArray := prog_4_method_3_code
def yX2_popInto : MethodName := ⟨RX2, "popInto", "(LStandingQueries$Held;)Z"⟩
abbrev cX2_forget : ByteArray := prog_4_method_4_code
def yX2_forget : MethodName := ⟨RX2, "forget", "()V"⟩
def RX3 : String := "StandingQueries$Packed"
def TX3 : u_T := fun k => match k with
  | _ => ("", "", "", false)
def tyX3 : Nat → FieldType := fun k => match k with
  | _ => .int
theorem nmX3 : ∀ a, a < 0 → ∀ b, b < 0 → a ≠ b → (TX3 a).2.1 ≠ (TX3 b).2.1 := by decide +kernel
theorem tyX3_ok : ∀ k, k < 0 → parseFieldDescriptor (TX3 k).2.2.1 = some (tyX3 k) := by decide +kernel
abbrev cX3_shiftOf : ByteArray := prog_5_method_2_code
def yX3_shiftOf : MethodName := ⟨RX3, "shiftOf", "(I)I"⟩
abbrev cX3_sizeOf : ByteArray := prog_5_method_3_code
def yX3_sizeOf : MethodName := ⟨RX3, "sizeOf", "(I)I"⟩
abbrev cX3_letterAt : ByteArray := prog_5_method_4_code
def yX3_letterAt : MethodName := ⟨RX3, "letterAt", "(II)I"⟩
abbrev cX3_withLetter : ByteArray := prog_5_method_5_code
def yX3_withLetter : MethodName := ⟨RX3, "withLetter", "(III)I"⟩
abbrev cX3_headOf : ByteArray := prog_5_method_6_code
def yX3_headOf : MethodName := ⟨RX3, "headOf", "(II)I"⟩
def RX4 : String := "StandingQueries$Search"
def TX4 : u_T := fun k => match k with
  | 0 => ("StandingQueries$Search", "words", "LStandingQueries$Words;", true)
  | 1 => ("StandingQueries$Search", "automaton", "LStandingQueries$Automaton;", true)
  | 2 => ("StandingQueries$Search", "marks", "[I", true)
  | 3 => ("StandingQueries$Search", "from", "[I", true)
  | 4 => ("StandingQueries$Search", "queue", "[I", true)
  | 5 => ("StandingQueries$Search", "ways", "[J", false)
  | 6 => ("StandingQueries$Search", "waysThen", "[J", false)
  | 7 => ("StandingQueries$Search", "nearBits", "I", false)
  | 8 => ("StandingQueries$Search", "reach", "I", false)
  | 9 => ("StandingQueries$Search", "width", "I", false)
  | 10 => ("StandingQueries$Search", "matched", "I", false)
  | 11 => ("StandingQueries$Search", "states", "I", false)
  | _ => ("StandingQueries$Search", "found", "I", false)
def tyX4 : Nat → FieldType := fun k => match k with
  | 0 => .object "StandingQueries$Words"
  | 1 => .object "StandingQueries$Automaton"
  | 2 => .array .int
  | 3 => .array .int
  | 4 => .array .int
  | 5 => .array .long
  | 6 => .array .long
  | 7 => .int
  | 8 => .int
  | 9 => .int
  | 10 => .int
  | 11 => .int
  | _ => .int
theorem nmX4 : ∀ a, a < 13 → ∀ b, b < 13 → a ≠ b → (TX4 a).2.1 ≠ (TX4 b).2.1 := by decide +kernel
theorem tyX4_ok : ∀ k, k < 13 → parseFieldDescriptor (TX4 k).2.2.1 = some (tyX4 k) := by decide +kernel
abbrev cX4_init : ByteArray := prog_6_method_1_code
def yX4_init : MethodName := ⟨RX4, "<init>", "()V"⟩
abbrev cX4_prepare : ByteArray := prog_6_method_2_code
def yX4_prepare : MethodName := ⟨RX4, "prepare", "(LStandingQueries$Held;I)V"⟩
abbrev cX4_markNodes : ByteArray := prog_6_method_3_code
def yX4_markNodes : MethodName := ⟨RX4, "markNodes", "(II)V"⟩
abbrev cX4_isMatch : ByteArray := prog_6_method_4_code
def yX4_isMatch : MethodName := ⟨RX4, "isMatch", "(I)Z"⟩
abbrev cX4_step : ByteArray := prog_6_method_5_code
def yX4_step : MethodName := ⟨RX4, "step", "(II)I"⟩
abbrev cX4_stepNear : ByteArray := prog_6_method_6_code
def yX4_stepNear : MethodName := ⟨RX4, "stepNear", "(II)I"⟩
abbrev cX4_stateBehind : ByteArray := prog_6_method_7_code
def yX4_stateBehind : MethodName := ⟨RX4, "stateBehind", "(LStandingQueries$Held;)I"⟩
abbrev cX4_fewestFrom : ByteArray := prog_6_method_8_code
def yX4_fewestFrom : MethodName := ⟨RX4, "fewestFrom", "(I)I"⟩
abbrev cX4_spread : ByteArray := prog_6_method_9_code
def yX4_spread : MethodName := ⟨RX4, "spread", "(II)I"⟩
abbrev cX4_letterOfRow : ByteArray := prog_6_method_10_code
def yX4_letterOfRow : MethodName := ⟨RX4, "letterOfRow", "(II)I"⟩
abbrev cX4_rowsOf : ByteArray := prog_6_method_11_code
def yX4_rowsOf : MethodName := ⟨RX4, "rowsOf", "(I)J"⟩
abbrev cX4_lengthenRows : ByteArray := prog_6_method_12_code
def yX4_lengthenRows : MethodName := ⟨RX4, "lengthenRows", "()V"⟩
def RX5 : String := "StandingQueries$Text"
def TX5 : u_T := fun k => match k with
  | 0 => ("StandingQueries$Text", "bytes", "[I", true)
  | 1 => ("StandingQueries$Text", "size", "I", false)
  | 2 => ("StandingQueries$Text", "draft", "LStandingQueries$Held;", true)
  | 3 => ("StandingQueries$Text", "words", "LStandingQueries$Words;", true)
  | 4 => ("StandingQueries$Text", "begin", "I", false)
  | 5 => ("StandingQueries$Text", "end", "I", false)
  | 6 => ("StandingQueries$Text", "kind", "I", false)
  | _ => ("StandingQueries$Text", "queriesBefore", "I", false)
def tyX5 : Nat → FieldType := fun k => match k with
  | 0 => .array .int
  | 1 => .int
  | 2 => .object "StandingQueries$Held"
  | 3 => .object "StandingQueries$Words"
  | 4 => .int
  | 5 => .int
  | 6 => .int
  | _ => .int
theorem nmX5 : ∀ a, a < 8 → ∀ b, b < 8 → a ≠ b → (TX5 a).2.1 ≠ (TX5 b).2.1 := by decide +kernel
theorem tyX5_ok : ∀ k, k < 8 → parseFieldDescriptor (TX5 k).2.2.1 = some (tyX5 k) := by decide +kernel
abbrev cX5_init : ByteArray := prog_7_method_1_code
def yX5_init : MethodName := ⟨RX5, "<init>", "()V"⟩
abbrev cX5_append : ByteArray := prog_7_method_2_code
def yX5_append : MethodName := ⟨RX5, "append", "(I)Z"⟩
abbrev cX5_readBehind : ByteArray := prog_7_method_3_code
def yX5_readBehind : MethodName := ⟨RX5, "readBehind", "(LStandingQueries$Held;)I"⟩
abbrev cX5_hasOpenQuery : ByteArray := prog_7_method_4_code
def yX5_hasOpenQuery : MethodName := ⟨RX5, "hasOpenQuery", "()Z"⟩
abbrev cX5_lacksParts : ByteArray := prog_7_method_5_code
def yX5_lacksParts : MethodName := ⟨RX5, "lacksParts", "()Z"⟩
abbrev cX5_mayHavePart : ByteArray := prog_7_method_6_code
def yX5_mayHavePart : MethodName := ⟨RX5, "mayHavePart", "()Z"⟩
abbrev cX5_readItem : ByteArray := prog_7_method_7_code
def yX5_readItem : MethodName := ⟨RX5, "readItem", "()Z"⟩
abbrev cX5_readQuery : ByteArray := prog_7_method_8_code
def yX5_readQuery : MethodName := ⟨RX5, "readQuery", "()Z"⟩
abbrev cX5_readPart : ByteArray := prog_7_method_9_code
def yX5_readPart : MethodName := ⟨RX5, "readPart", "(I)Z"⟩
abbrev cX5_readNear : ByteArray := prog_7_method_10_code
def yX5_readNear : MethodName := ⟨RX5, "readNear", "()Z"⟩
abbrev cX5_readStop : ByteArray := prog_7_method_11_code
def yX5_readStop : MethodName := ⟨RX5, "readStop", "()Z"⟩
abbrev cX5_readWord : ByteArray := prog_7_method_12_code
def yX5_readWord : MethodName := ⟨RX5, "readWord", "()I"⟩
abbrev cX5_advance : ByteArray := prog_7_method_13_code
def yX5_advance : MethodName := ⟨RX5, "advance", "()V"⟩
abbrev cX5_kindOf : ByteArray := prog_7_method_14_code
def yX5_kindOf : MethodName := ⟨RX5, "kindOf", "(I)I"⟩
def RX6 : String := "StandingQueries$Words"
def TX6 : u_T := fun k => match k with
  | 0 => ("StandingQueries$Words", "codes", "[I", true)
  | _ => ("StandingQueries$Words", "count", "I", false)
def tyX6 : Nat → FieldType := fun k => match k with
  | 0 => .array .int
  | _ => .int
theorem nmX6 : ∀ a, a < 2 → ∀ b, b < 2 → a ≠ b → (TX6 a).2.1 ≠ (TX6 b).2.1 := by decide +kernel
theorem tyX6_ok : ∀ k, k < 2 → parseFieldDescriptor (TX6 k).2.2.1 = some (tyX6 k) := by decide +kernel
abbrev cX6_init : ByteArray := prog_8_method_1_code
def yX6_init : MethodName := ⟨RX6, "<init>", "(I)V"⟩
abbrev cX6_find : ByteArray := prog_8_method_2_code
def yX6_find : MethodName := ⟨RX6, "find", "(I)I"⟩
abbrev cX6_put : ByteArray := prog_8_method_3_code
def yX6_put : MethodName := ⟨RX6, "put", "(I)Z"⟩
abbrev cX6_gatherAll : ByteArray := prog_8_method_4_code
def yX6_gatherAll : MethodName := ⟨RX6, "gatherAll", "(LStandingQueries$Held;)V"⟩
abbrev cX6_gatherOne : ByteArray := prog_8_method_5_code
def yX6_gatherOne : MethodName := ⟨RX6, "gatherOne", "(LStandingQueries$Held;I)V"⟩
abbrev cX6_putWordsOf : ByteArray := prog_8_method_6_code
def yX6_putWordsOf : MethodName := ⟨RX6, "putWordsOf", "(LStandingQueries$Held;I)V"⟩
def RX7 : String := "StandingQueries"
def TX7 : u_T := fun k => match k with
  | 0 => ("StandingQueries", "text", "LStandingQueries$Text;", true)
  | 1 => ("StandingQueries", "held", "LStandingQueries$Held;", true)
  | 2 => ("StandingQueries", "history", "LStandingQueries$History;", true)
  | 3 => ("StandingQueries", "images", "[LStandingQueries$Held;", true)
  | 4 => ("StandingQueries", "words", "LStandingQueries$Words;", true)
  | 5 => ("StandingQueries", "automaton", "LStandingQueries$Automaton;", true)
  | 6 => ("StandingQueries", "hits", "[J", true)
  | 7 => ("StandingQueries", "at", "I", false)
  | _ => ("StandingQueries", "search", "LStandingQueries$Search;", false)
def tyX7 : Nat → FieldType := fun k => match k with
  | 0 => .object "StandingQueries$Text"
  | 1 => .object "StandingQueries$Held"
  | 2 => .object "StandingQueries$History"
  | 3 => .array (.object "StandingQueries$Held")
  | 4 => .object "StandingQueries$Words"
  | 5 => .object "StandingQueries$Automaton"
  | 6 => .array .long
  | 7 => .int
  | _ => .object "StandingQueries$Search"
theorem nmX7 : ∀ a, a < 9 → ∀ b, b < 9 → a ≠ b → (TX7 a).2.1 ≠ (TX7 b).2.1 := by decide +kernel
theorem tyX7_ok : ∀ k, k < 9 → parseFieldDescriptor (TX7 k).2.2.1 = some (tyX7 k) := by decide +kernel
abbrev cX7_init : ByteArray := prog_1_method_1_code
def yX7_init : MethodName := ⟨RX7, "<init>", "()V"⟩
abbrev cX7_type : ByteArray := prog_1_method_2_code
def yX7_type : MethodName := ⟨RX7, "type", "(I)I"⟩
abbrev cX7_clear : ByteArray := prog_1_method_3_code
def yX7_clear : MethodName := ⟨RX7, "clear", "()I"⟩
abbrev cX7_adds : ByteArray := prog_1_method_4_code
def yX7_adds : MethodName := ⟨RX7, "adds", "()I"⟩
abbrev cX7_drops : ByteArray := prog_1_method_5_code
def yX7_drops : MethodName := ⟨RX7, "drops", "(I)I"⟩
abbrev cX7_feeds : ByteArray := prog_1_method_6_code
def yX7_feeds : MethodName := ⟨RX7, "feeds", "(I)I"⟩
abbrev cX7_cuts : ByteArray := prog_1_method_7_code
def yX7_cuts : MethodName := ⟨RX7, "cuts", "()I"⟩
abbrev cX7_undo : ByteArray := prog_1_method_8_code
def yX7_undo : MethodName := ⟨RX7, "undo", "()I"⟩
abbrev cX7_query : ByteArray := prog_1_method_9_code
def yX7_query : MethodName := ⟨RX7, "query", "(II)I"⟩
abbrev cX7_part : ByteArray := prog_1_method_10_code
def yX7_part : MethodName := ⟨RX7, "part", "(III)I"⟩
abbrev cX7_shortest : ByteArray := prog_1_method_11_code
def yX7_shortest : MethodName := ⟨RX7, "shortest", "(II)I"⟩
abbrev cX7_more : ByteArray := prog_1_method_12_code
def yX7_more : MethodName := ⟨RX7, "more", "(I)I"⟩
abbrev cX7_many : ByteArray := prog_1_method_13_code
def yX7_many : MethodName := ⟨RX7, "many", "(II)J"⟩
abbrev cX7_word : ByteArray := prog_1_method_14_code
def yX7_word : MethodName := ⟨RX7, "word", "(II)I"⟩
abbrev cX7_hit : ByteArray := prog_1_method_15_code
def yX7_hit : MethodName := ⟨RX7, "hit", "(II)I"⟩
abbrev cX7_node : ByteArray := prog_1_method_16_code
def yX7_node : MethodName := ⟨RX7, "node", "(II)I"⟩
abbrev cX7_next : ByteArray := prog_1_method_17_code
def yX7_next : MethodName := ⟨RX7, "next", "(II)I"⟩
abbrev cX7_letter : ByteArray := prog_1_method_18_code
def yX7_letter : MethodName := ⟨RX7, "letter", "(I)I"⟩
abbrev cX7_now : ByteArray := prog_1_method_19_code
def yX7_now : MethodName := ⟨RX7, "now", "(I)I"⟩
abbrev cX7_keep : ByteArray := prog_1_method_20_code
def yX7_keep : MethodName := ⟨RX7, "keep", "(I)I"⟩
abbrev cX7_back : ByteArray := prog_1_method_21_code
def yX7_back : MethodName := ⟨RX7, "back", "(I)I"⟩
abbrev cX7_count : ByteArray := prog_1_method_22_code
def yX7_count : MethodName := ⟨RX7, "count", "(I)I"⟩
abbrev cX7_isQuery : ByteArray := prog_1_method_23_code
def yX7_isQuery : MethodName := ⟨RX7, "isQuery", "(I)Z"⟩
abbrev cX7_isWord : ByteArray := prog_1_method_24_code
def yX7_isWord : MethodName := ⟨RX7, "isWord", "(I)Z"⟩
abbrev cX7_isNode : ByteArray := prog_1_method_25_code
def yX7_isNode : MethodName := ⟨RX7, "isNode", "(I)Z"⟩
abbrev cX7_isLetter : ByteArray := prog_1_method_26_code
def yX7_isLetter : MethodName := ⟨RX7, "isLetter", "(I)Z"⟩
abbrev cX7_rebuild : ByteArray := prog_1_method_27_code
def yX7_rebuild : MethodName := ⟨RX7, "rebuild", "()V"⟩
abbrev cX7_walk : ByteArray := prog_1_method_28_code
def yX7_walk : MethodName := ⟨RX7, "walk", "()V"⟩
abbrev cX7_hitsOf : ByteArray := prog_1_method_29_code
def yX7_hitsOf : MethodName := ⟨RX7, "hitsOf", "(I)J"⟩
abbrev cX7_placeOfBit : ByteArray := prog_1_method_30_code
def yX7_placeOfBit : MethodName := ⟨RX7, "placeOfBit", "(JI)I"⟩
abbrev cX7_allHits : ByteArray := prog_1_method_31_code
def yX7_allHits : MethodName := ⟨RX7, "allHits", "()I"⟩
abbrev cX7_holds : ByteArray := prog_1_method_32_code
def yX7_holds : MethodName := ⟨RX7, "holds", "(II)Z"⟩
abbrev cX7_isNear : ByteArray := prog_1_method_33_code
def yX7_isNear : MethodName := ⟨RX7, "isNear", "(JJI)Z"⟩
abbrev cX7_matches : ByteArray := prog_1_method_34_code
def yX7_matches : MethodName := ⟨RX7, "matches", "(II)Z"⟩
abbrev cX7_matching : ByteArray := prog_1_method_35_code
def yX7_matching : MethodName := ⟨RX7, "matching", "(I)I"⟩
abbrev cX7_withoutLast : ByteArray := prog_1_method_36_code
def yX7_withoutLast : MethodName := ⟨RX7, "withoutLast", "()I"⟩
abbrev cX7_since : ByteArray := prog_1_method_37_code
def yX7_since : MethodName := ⟨RX7, "since", "(I)I"⟩
abbrev cX7_keyOf : ByteArray := prog_1_method_38_code
def yX7_keyOf : MethodName := ⟨RX7, "keyOf", "(I)I"⟩
abbrev cX7_isBetterKey : ByteArray := prog_1_method_39_code
def yX7_isBetterKey : MethodName := ⟨RX7, "isBetterKey", "(II)Z"⟩
abbrev cX7_isAsked : ByteArray := prog_1_method_40_code
def yX7_isAsked : MethodName := ⟨RX7, "isAsked", "(I)Z"⟩
abbrev cX7_asked : ByteArray := prog_1_method_41_code
def yX7_asked : MethodName := ⟨RX7, "asked", "()I"⟩
abbrev cX7_searchFor : ByteArray := prog_1_method_42_code
def yX7_searchFor : MethodName := ⟨RX7, "searchFor", "(I)LStandingQueries$Search;"⟩
def RX8 : String := "StandingQueriesModel"
def TX8 : u_T := fun k => match k with
  | 0 => ("StandingQueriesModel", "thrown", "I", false)
  | 1 => ("StandingQueriesModel", "text", "[I", true)
  | 2 => ("StandingQueriesModel", "typed", "I", false)
  | 3 => ("StandingQueriesModel", "cursor", "I", false)
  | 4 => ("StandingQueriesModel", "start", "I", false)
  | 5 => ("StandingQueriesModel", "token", "I", false)
  | 6 => ("StandingQueriesModel", "value", "I", false)
  | 7 => ("StandingQueriesModel", "size", "I", false)
  | 8 => ("StandingQueriesModel", "now", "[I", true)
  | 9 => ("StandingQueriesModel", "fresh", "[I", true)
  | 10 => ("StandingQueriesModel", "was", "[I", true)
  | 11 => ("StandingQueriesModel", "acts", "I", false)
  | 12 => ("StandingQueriesModel", "isKept", "[Z", true)
  | 13 => ("StandingQueriesModel", "kept", "[I", true)
  | 14 => ("StandingQueriesModel", "words", "[I", true)
  | 15 => ("StandingQueriesModel", "wordMany", "I", false)
  | 16 => ("StandingQueriesModel", "nodes", "[I", true)
  | 17 => ("StandingQueriesModel", "nodeMany", "I", false)
  | 18 => ("StandingQueriesModel", "fails", "[I", true)
  | 19 => ("StandingQueriesModel", "ends", "[I", true)
  | 20 => ("StandingQueriesModel", "nexts", "[I", true)
  | 21 => ("StandingQueriesModel", "ended", "[I", true)
  | 22 => ("StandingQueriesModel", "lacks", "I", false)
  | 23 => ("StandingQueriesModel", "due", "I", false)
  | 24 => ("StandingQueriesModel", "nearPart", "I", false)
  | 25 => ("StandingQueriesModel", "nearWord", "I", false)
  | 26 => ("StandingQueriesModel", "nearOther", "I", false)
  | 27 => ("StandingQueriesModel", "nearBy", "I", false)
  | 28 => ("StandingQueriesModel", "queue", "[J", true)
  | 29 => ("StandingQueriesModel", "came", "[J", true)
  | _ => ("StandingQueriesModel", "depth", "I", false)
def tyX8 : Nat → FieldType := fun k => match k with
  | 0 => .int
  | 1 => .array .int
  | 2 => .int
  | 3 => .int
  | 4 => .int
  | 5 => .int
  | 6 => .int
  | 7 => .int
  | 8 => .array .int
  | 9 => .array .int
  | 10 => .array .int
  | 11 => .int
  | 12 => .array .boolean
  | 13 => .array .int
  | 14 => .array .int
  | 15 => .int
  | 16 => .array .int
  | 17 => .int
  | 18 => .array .int
  | 19 => .array .int
  | 20 => .array .int
  | 21 => .array .int
  | 22 => .int
  | 23 => .int
  | 24 => .int
  | 25 => .int
  | 26 => .int
  | 27 => .int
  | 28 => .array .long
  | 29 => .array .long
  | _ => .int
theorem nmX8 : ∀ a, a < 31 → ∀ b, b < 31 → a ≠ b → (TX8 a).2.1 ≠ (TX8 b).2.1 := by decide +kernel
theorem tyX8_ok : ∀ k, k < 31 → parseFieldDescriptor (TX8 k).2.2.1 = some (tyX8 k) := by decide +kernel
abbrev cX8_in : ByteArray := prog_10_method_1_code
def yX8_in : MethodName := ⟨RX8, "in", "(JJJ)Z"⟩
abbrev cX8_type : ByteArray := prog_10_method_2_code
def yX8_type : MethodName := ⟨RX8, "type", "(I)I"⟩
abbrev cX8_clear : ByteArray := prog_10_method_3_code
def yX8_clear : MethodName := ⟨RX8, "clear", "()I"⟩
abbrev cX8_byteAt : ByteArray := prog_10_method_4_code
def yX8_byteAt : MethodName := ⟨RX8, "byteAt", "(I)I"⟩
abbrev cX8_step : ByteArray := prog_10_method_5_code
def yX8_step : MethodName := ⟨RX8, "step", "()V"⟩
abbrev cX8_isName : ByteArray := prog_10_method_6_code
def yX8_isName : MethodName := ⟨RX8, "isName", "(I)Z"⟩
abbrev cX8_parts : ByteArray := prog_10_method_7_code
def yX8_parts : MethodName := ⟨RX8, "parts", "([II)I"⟩
abbrev cX8_of : ByteArray := prog_10_method_8_code
def yX8_of : MethodName := ⟨RX8, "of", "([IIII)I"⟩
abbrev cX8_copyAll : ByteArray := prog_10_method_9_code
def yX8_copyAll : MethodName := ⟨RX8, "copyAll", "([I[I)V"⟩
abbrev cX8_order : ByteArray := prog_10_method_10_code
def yX8_order : MethodName := ⟨RX8, "order", "(II)I"⟩
abbrev cX8_letterOf : ByteArray := prog_10_method_11_code
def yX8_letterOf : MethodName := ⟨RX8, "letterOf", "(II)I"⟩
abbrev cX8_addWord : ByteArray := prog_10_method_12_code
def yX8_addWord : MethodName := ⟨RX8, "addWord", "(I)V"⟩
abbrev cX8_layWords : ByteArray := prog_10_method_13_code
def yX8_layWords : MethodName := ⟨RX8, "layWords", "([I)V"⟩
abbrev cX8_numberOf : ByteArray := prog_10_method_14_code
def yX8_numberOf : MethodName := ⟨RX8, "numberOf", "(I)I"⟩
abbrev cX8_nodeOf : ByteArray := prog_10_method_15_code
def yX8_nodeOf : MethodName := ⟨RX8, "nodeOf", "(I)I"⟩
abbrev cX8_firsts : ByteArray := prog_10_method_16_code
def yX8_firsts : MethodName := ⟨RX8, "firsts", "(II)I"⟩
abbrev cX8_lasts : ByteArray := prog_10_method_17_code
def yX8_lasts : MethodName := ⟨RX8, "lasts", "(II)I"⟩
abbrev cX8_withLetter : ByteArray := prog_10_method_18_code
def yX8_withLetter : MethodName := ⟨RX8, "withLetter", "(II)I"⟩
abbrev cX8_addNode : ByteArray := prog_10_method_19_code
def yX8_addNode : MethodName := ⟨RX8, "addNode", "(I)V"⟩
abbrev cX8_longest : ByteArray := prog_10_method_20_code
def yX8_longest : MethodName := ⟨RX8, "longest", "(II)I"⟩
abbrev cX8_make : ByteArray := prog_10_method_21_code
def yX8_make : MethodName := ⟨RX8, "make", "()V"⟩
abbrev cX8_init : ByteArray := prog_10_method_22_code
def yX8_init : MethodName := ⟨RX8, "<init>", "()V"⟩
abbrev cX8_readWord : ByteArray := prog_10_method_23_code
def yX8_readWord : MethodName := ⟨RX8, "readWord", "()I"⟩
abbrev cX8_readPart : ByteArray := prog_10_method_24_code
def yX8_readPart : MethodName := ⟨RX8, "readPart", "(I)Z"⟩
abbrev cX8_hasNear : ByteArray := prog_10_method_25_code
def yX8_hasNear : MethodName := ⟨RX8, "hasNear", "(I)Z"⟩
abbrev cX8_isWhole : ByteArray := prog_10_method_26_code
def yX8_isWhole : MethodName := ⟨RX8, "isWhole", "()Z"⟩
abbrev cX8_readItem : ByteArray := prog_10_method_27_code
def yX8_readItem : MethodName := ⟨RX8, "readItem", "()Z"⟩
abbrev cX8_adds : ByteArray := prog_10_method_28_code
def yX8_adds : MethodName := ⟨RX8, "adds", "()I"⟩
abbrev cX8_keepAct : ByteArray := prog_10_method_29_code
def yX8_keepAct : MethodName := ⟨RX8, "keepAct", "()V"⟩
abbrev cX8_isQuery : ByteArray := prog_10_method_30_code
def yX8_isQuery : MethodName := ⟨RX8, "isQuery", "(I)Z"⟩
abbrev cX8_drops : ByteArray := prog_10_method_31_code
def yX8_drops : MethodName := ⟨RX8, "drops", "(I)I"⟩
abbrev cX8_feeds : ByteArray := prog_10_method_32_code
def yX8_feeds : MethodName := ⟨RX8, "feeds", "(I)I"⟩
abbrev cX8_cuts : ByteArray := prog_10_method_33_code
def yX8_cuts : MethodName := ⟨RX8, "cuts", "()I"⟩
abbrev cX8_undo : ByteArray := prog_10_method_34_code
def yX8_undo : MethodName := ⟨RX8, "undo", "()I"⟩
abbrev cX8_nodeAt : ByteArray := prog_10_method_35_code
def yX8_nodeAt : MethodName := ⟨RX8, "nodeAt", "(I)I"⟩
abbrev cX8_has : ByteArray := prog_10_method_36_code
def yX8_has : MethodName := ⟨RX8, "has", "(II)Z"⟩
abbrev cX8_layEnds : ByteArray := prog_10_method_37_code
def yX8_layEnds : MethodName := ⟨RX8, "layEnds", "()V"⟩
abbrev cX8_hits : ByteArray := prog_10_method_38_code
def yX8_hits : MethodName := ⟨RX8, "hits", "(II)I"⟩
abbrev cX8_holds : ByteArray := prog_10_method_39_code
def yX8_holds : MethodName := ⟨RX8, "holds", "(III)Z"⟩
abbrev cX8_matches : ByteArray := prog_10_method_40_code
def yX8_matches : MethodName := ⟨RX8, "matches", "(II)Z"⟩
abbrev cX8_since : ByteArray := prog_10_method_41_code
def yX8_since : MethodName := ⟨RX8, "since", "(I)I"⟩
abbrev cX8_key : ByteArray := prog_10_method_42_code
def yX8_key : MethodName := ⟨RX8, "key", "(I)I"⟩
abbrev cX8_isAsked : ByteArray := prog_10_method_43_code
def yX8_isAsked : MethodName := ⟨RX8, "isAsked", "(I)Z"⟩
abbrev cX8_query : ByteArray := prog_10_method_44_code
def yX8_query : MethodName := ⟨RX8, "query", "(II)I"⟩
abbrev cX8_part : ByteArray := prog_10_method_45_code
def yX8_part : MethodName := ⟨RX8, "part", "(III)I"⟩
abbrev cX8_takes : ByteArray := prog_10_method_46_code
def yX8_takes : MethodName := ⟨RX8, "takes", "(I)V"⟩
abbrev cX8_stateOf : ByteArray := prog_10_method_47_code
def yX8_stateOf : MethodName := ⟨RX8, "stateOf", "(III)I"⟩
abbrev cX8_begins : ByteArray := prog_10_method_48_code
def yX8_begins : MethodName := ⟨RX8, "begins", "()I"⟩
abbrev cX8_isDone : ByteArray := prog_10_method_49_code
def yX8_isDone : MethodName := ⟨RX8, "isDone", "(I)Z"⟩
abbrev cX8_behind : ByteArray := prog_10_method_50_code
def yX8_behind : MethodName := ⟨RX8, "behind", "(III)I"⟩
abbrev cX8_nearest : ByteArray := prog_10_method_51_code
def yX8_nearest : MethodName := ⟨RX8, "nearest", "(II)I"⟩
abbrev cX8_shortest : ByteArray := prog_10_method_52_code
def yX8_shortest : MethodName := ⟨RX8, "shortest", "(II)I"⟩
abbrev cX8_more : ByteArray := prog_10_method_53_code
def yX8_more : MethodName := ⟨RX8, "more", "(I)I"⟩
abbrev cX8_many : ByteArray := prog_10_method_54_code
def yX8_many : MethodName := ⟨RX8, "many", "(II)J"⟩
abbrev cX8_word : ByteArray := prog_10_method_55_code
def yX8_word : MethodName := ⟨RX8, "word", "(II)I"⟩
abbrev cX8_hit : ByteArray := prog_10_method_56_code
def yX8_hit : MethodName := ⟨RX8, "hit", "(II)I"⟩
abbrev cX8_node : ByteArray := prog_10_method_57_code
def yX8_node : MethodName := ⟨RX8, "node", "(II)I"⟩
abbrev cX8_next : ByteArray := prog_10_method_58_code
def yX8_next : MethodName := ⟨RX8, "next", "(II)I"⟩
abbrev cX8_letter : ByteArray := prog_10_method_59_code
def yX8_letter : MethodName := ⟨RX8, "letter", "(I)I"⟩
abbrev cX8_allHits : ByteArray := prog_10_method_60_code
def yX8_allHits : MethodName := ⟨RX8, "allHits", "()I"⟩
abbrev cX8_now : ByteArray := prog_10_method_61_code
def yX8_now : MethodName := ⟨RX8, "now", "(I)I"⟩
abbrev cX8_keep : ByteArray := prog_10_method_62_code
def yX8_keep : MethodName := ⟨RX8, "keep", "(I)I"⟩
abbrev cX8_back : ByteArray := prog_10_method_63_code
def yX8_back : MethodName := ⟨RX8, "back", "(I)I"⟩
abbrev cX8_count : ByteArray := prog_10_method_64_code
def yX8_count : MethodName := ⟨RX8, "count", "(I)I"⟩
def RJ13 : String := "java/lang/Long"
def TJ13 : u_T := fun k => match k with
  | _ => ("", "", "", false)
def tyJ13 : Nat → FieldType := fun k => match k with
  | _ => .int
abbrev cJ13_bitCount_95d88 : ByteArray := prog_11_method_50_code
def yJ13_bitCount_95d88 : MethodName := ⟨RJ13, "bitCount", "(J)I"⟩
def RJ9 : String := "java/lang/Math"
def TJ9 : u_T := fun k => match k with
  | _ => ("", "", "", false)
def tyJ9 : Nat → FieldType := fun k => match k with
  | _ => .int
abbrev cJ9_max_7cf53 : ByteArray := prog_12_method_65_code
def yJ9_max_7cf53 : MethodName := ⟨RJ9, "max", "(II)I"⟩
abbrev cJ9_min_7cf53 : ByteArray := prog_12_method_69_code
def yJ9_min_7cf53 : MethodName := ⟨RJ9, "min", "(II)I"⟩
def RJ10 : String := "java/lang/System"
def TJ10 : u_T := fun k => match k with
  | _ => ("", "", "", false)
def tyJ10 : Nat → FieldType := fun k => match k with
  | _ => .int
def RJ7 : String := "java/util/Arrays"
def TJ7 : u_T := fun k => match k with
  | _ => ("", "", "", false)
def tyJ7 : Nat → FieldType := fun k => match k with
  | _ => .int
abbrev cJ7_fill_d0a16 : ByteArray := prog_14_method_101_code
def yJ7_fill_d0a16 : MethodName := ⟨RJ7, "fill", "([JJ)V"⟩
abbrev cJ7_fill_53178 : ByteArray := prog_14_method_103_code
def yJ7_fill_53178 : MethodName := ⟨RJ7, "fill", "([II)V"⟩
def RL : String := "StandingQueriesLaw"
abbrev cL_law : ByteArray := code
def yL_law : MethodName := ⟨RL, "law", "([I)Z"⟩
abbrev vwCl : List vw_C := [(RX0, TX0, 8), (RX1, TX1, 8), (RX2, TX2, 3), (RX4, TX4, 13), (RX5, TX5, 8), (RX6, TX6, 2), (RX7, TX7, 9), (RX8, TX8, 31)]
end
section
/-! the abstract memory: ints, longs, references by place and slot; the shapes of the cells in the order in which they came -/
abbrev Wd : Type := (Nat → Nat → Int32) × (Nat → Nat → Int64) × (Nat → Nat → Option Nat) × List (Nat × Nat)
abbrev Mo (α : Type) : Type := Wd → Option (α × Wd)
def mp {α : Type} (a : α) : Mo α := fun w => some (a, w)
def mz {α : Type} : Mo α := fun _ => none
def mb {α β : Type} (x : Mo α) (f : α → Mo β) : Mo β := fun w => match x w with
  | none => none
  | some (a, w') => f a w'
def u2 {α : Type} (f : Nat → Nat → α) (p k : Nat) (v : α) : Nat → Nat → α := fun q j => if q = p ∧ j = k then v else f q j
def uA {α : Type} (f : Nat → Nat → α) (p : Nat) (g : Nat → α) : Nat → Nat → α := fun q j => if q = p then g j else f q j
/-- how many fields a class has, by its number -/
def nf (ci : Nat) : Nat := match ci with
  | 0 => 8
  | 1 => 8
  | 2 => 3
  | 3 => 13
  | 4 => 8
  | 5 => 2
  | 6 => 9
  | _ => 31
abbrev wS (w : Wd) : List (Nat × Nat) := w.2.2.2
def cnt (w : Wd) : Nat := (wS w).length
def slt (w : Wd) : Nat := ((wS w).map (fun q => q.2)).sum
def isO (w : Wd) (ci p : Nat) : Prop := (wS w)[p]? = some (ci, nf ci)
/-- an array's length, by its kind: 100 ints, 101 longs, 102 booleans, 103 references -/
def alen (w : Wd) (kd p : Nat) : Nat := match (wS w)[p]? with
  | none => 0
  | some q => if q.1 = kd then q.2 else 0
def inr (i : Int32) (n : Nat) : Prop := ¬ i < 0 ∧ i.toNatClampNeg < n
def gI (ci k p : Nat) : Mo Int32 := fun w => if (wS w)[p]? = some (ci, nf ci) then some (w.1 p k, w) else none
def gR (ci k p : Nat) : Mo Nat := fun w => if (wS w)[p]? = some (ci, nf ci) then (match w.2.2.1 p k with
  | none => none
  | some q => some (q, w)) else none
def gQ (ci k p : Nat) : Mo (Option Nat) := fun w => if (wS w)[p]? = some (ci, nf ci) then some (w.2.2.1 p k, w) else none
def sI (ci k p : Nat) (v : Int32) : Mo Unit := fun w => if (wS w)[p]? = some (ci, nf ci) then some ((), (u2 w.1 p k v, w.2)) else none
def sR (ci k p q : Nat) : Mo Unit := fun w => if (wS w)[p]? = some (ci, nf ci) then some ((), (w.1, w.2.1, u2 w.2.2.1 p k (some q), w.2.2.2)) else none
def aI (p : Nat) (i : Int32) : Mo Int32 := fun w => if ¬ i < 0 ∧ i.toNatClampNeg < alen w 100 p then some (w.1 p i.toNatClampNeg, w) else none
def aZ (p : Nat) (i : Int32) : Mo Int32 := fun w => if ¬ i < 0 ∧ i.toNatClampNeg < alen w 102 p then some (w.1 p i.toNatClampNeg, w) else none
def aJ (p : Nat) (i : Int32) : Mo Int64 := fun w => if ¬ i < 0 ∧ i.toNatClampNeg < alen w 101 p then some (w.2.1 p i.toNatClampNeg, w) else none
def aQ (p : Nat) (i : Int32) : Mo (Option Nat) := fun w => if ¬ i < 0 ∧ i.toNatClampNeg < alen w 103 p then some (w.2.2.1 p i.toNatClampNeg, w) else none
def tI (p : Nat) (i v : Int32) : Mo Unit := fun w => if ¬ i < 0 ∧ i.toNatClampNeg < alen w 100 p then some ((), (u2 w.1 p i.toNatClampNeg v, w.2)) else none
def tZ (p : Nat) (i v : Int32) : Mo Unit := fun w => if (¬ i < 0 ∧ i.toNatClampNeg < alen w 102 p) ∧ (v = 0 ∨ v = 1) then some ((), (u2 w.1 p i.toNatClampNeg v, w.2)) else none
def tJ (p : Nat) (i : Int32) (v : Int64) : Mo Unit := fun w => if ¬ i < 0 ∧ i.toNatClampNeg < alen w 101 p then some ((), (w.1, u2 w.2.1 p i.toNatClampNeg v, w.2.2)) else none
def tQ (p : Nat) (i : Int32) (q : Nat) : Mo Unit := fun w => if (¬ i < 0 ∧ i.toNatClampNeg < alen w 103 p) ∧ (wS w)[q]? = some (1, nf 1) then some ((), (w.1, w.2.1, u2 w.2.2.1 p i.toNatClampNeg (some q), w.2.2.2)) else none
/-- an array's length, of a kind that the caller knows -/
def aL (kd p : Nat) : Mo Int32 := fun w => match (wS w)[p]? with
  | none => none
  | some q => if q.1 = kd then some (Int32.ofNat q.2, w) else none
def wNew (w : Wd) (q : Nat × Nat) : Wd := (uA w.1 (cnt w) (fun _ => 0), uA w.2.1 (cnt w) (fun _ => 0), uA w.2.2.1 (cnt w) (fun _ => none), w.2.2.2 ++ [q])
def nO (ci : Nat) : Mo Nat := fun w => some (cnt w, wNew w (ci, nf ci))
def nA (kd : Nat) (n : Int32) : Mo Nat := fun w => if ¬ n < 0 ∧ n.toNatClampNeg ≤ 60000 then some (cnt w, wNew w (kd, n.toNatClampNeg)) else none
/-- System.arraycopy over ints -/
def cpI (src : Nat) (sp : Int32) (dst : Nat) (dp n : Int32) : Mo Unit := fun w =>
  if (¬ sp < 0 ∧ ¬ dp < 0 ∧ ¬ n < 0) ∧ (0 < alen w 100 src ∧ 0 < alen w 100 dst) ∧ sp.toNatClampNeg + n.toNatClampNeg ≤ alen w 100 src ∧ dp.toNatClampNeg + n.toNatClampNeg ≤ alen w 100 dst then
    some ((), (uA w.1 dst (va_cpy (w.1 src) (w.1 dst) sp.toNatClampNeg dp.toNatClampNeg n.toNatClampNeg), w.2)) else none
/-- a call of an object's method: the object is there -/
def vc {α : Type} (ci p : Nat) (f : Mo α) : Mo α := fun w => if (wS w)[p]? = some (ci, nf ci) then f w else none
/-- an answer true or false -/
def rZ (v : Int32) : Mo Int32 := fun w => if v = 0 ∨ v = 1 then some (v, w) else none
def FU : Nat := 100000
/-- which field is a reference -/
def rk (ci k : Nat) : Bool := match ci, k with
  | 0, 0 => false
  | 0, _ => true
  | 1, 0 => false
  | 1, 1 => false
  | 1, _ => true
  | 2, 0 => true
  | 2, _ => false
  | 3, 0 => true
  | 3, 1 => true
  | 3, 2 => true
  | 3, 3 => true
  | 3, 4 => true
  | 3, 5 => true
  | 3, 6 => true
  | 3, _ => false
  | 4, 0 => true
  | 4, 2 => true
  | 4, 3 => true
  | 4, _ => false
  | 5, 0 => true
  | 5, _ => false
  | 6, 7 => false
  | 6, _ => true
  | 7, 1 => true
  | 7, 8 => true
  | 7, 9 => true
  | 7, 10 => true
  | 7, 12 => true
  | 7, 13 => true
  | 7, 14 => true
  | 7, 16 => true
  | 7, 18 => true
  | 7, 19 => true
  | 7, 20 => true
  | 7, 21 => true
  | 7, 28 => true
  | 7, 29 => true
  | _, _ => false
/-- loops: a body, over its own rest -/
def lp {σ α : Type} (F : (σ → Mo α) → σ → Mo α) : Nat → σ → Mo α
  | 0, _ => mz
  | n + 1, s => F (lp F n) s
end
section
/-! ===== the words that every method has; the context; the judgement 'Cmp': the bytecode from here on does what a computation over the abstract memory says ===== -/
def TB : List Cond := lw_tbl.filter goodWord
theorem tb_mem {w : Cond} (i : Nat) (h : lw_tbl[i]? = some w) (hg : goodWord w = true) : w ∈ TB := List.mem_filter.mpr ⟨List.mem_of_getElem? h, hg⟩
theorem tb_good : ∀ w ∈ TB, (w.onTables && w.keeps) = true ∨ ∃ ty, w = .arrayClass ty := fun _ h => good_of_word (List.mem_filter.mp h).2
def isNest : Cond → Bool
  | .methodLinkNest .. => true
  | _ => false
def NW : List Cond := lw_tbl.filter isNest
theorem nw_mem {w : Cond} (i : Nat) (h : lw_tbl[i]? = some w) (hg : isNest w = true) : w ∈ NW := List.mem_filter.mpr ⟨List.mem_of_getElem? h, hg⟩
/-- the launch, the classes' numbers and slots, the classes of int[], long[], boolean[], Held[], the first address -/
abbrev KX : Type := Launch × va_G × ClassId × ClassId × ClassId × ClassId × Nat
abbrev kL (C : KX) : Launch := C.1
abbrev kD (C : KX) : va_G := C.2.1
abbrev kI (C : KX) : ClassId := C.2.2.1
abbrev kJ (C : KX) : ClassId := C.2.2.2.1
abbrev kZ (C : KX) : ClassId := C.2.2.2.2.1
abbrev kH (C : KX) : ClassId := C.2.2.2.2.2.1
abbrev kB (C : KX) : Nat := C.2.2.2.2.2.2
def kT (C : KX) : List (ClassId × FieldType) := [(kI C, .int), (kJ C, .long), (kZ C, .boolean), (kH C, .object RX1)]
def KK (C : KX) (U : State) : Prop := va_K (kD C) vwCl (kT C) U ∧ va_AO RX1 U ∧ ∀ w ∈ NW, va_Nw w U
theorem KK.warm {C : KX} {s U : State} (hW : s.WarmedH U.vm) (h : KK C s) : KK C U := by
  refine ⟨va_K.moved hW.alike h.1, va_AO.moved hW.alike h.2.1, fun w hw => ?_⟩
  have h1 := h.2.2 w hw
  have h2 := (List.mem_filter.mp hw).2
  revert h1 h2
  cases w <;> intro h1 h2 <;> first | exact va_Nw.warmM hW h1 | (simp [isNest] at h2)
theorem KK.calling {C : KX} {U : State} (g : JFrame) (mk : MethodId) (a : Array Value) (h : KK C U) : KK C (U.calling g mk a) := by
  refine ⟨va_K.moved (u := U) (U := U.calling g mk a) (Vm.Alike.refl U.vm) h.1, va_AO.moved (u := U) (U := U.calling g mk a) (Vm.Alike.refl U.vm) h.2.1, fun w hw => ?_⟩
  have h1 := h.2.2 w hw
  have h2 := (List.mem_filter.mp hw).2
  revert h1 h2
  cases w <;> intro h1 h2 <;> first | exact va_Nw.same (u := U) (U := U.calling g mk a) rfl rfl h1 | (simp [isNest] at h2)
def rfv (b : Nat) (r : Option Nat) : Value := va_rf (r.map (fun q => b + q))
def fv (C : KX) (w : Wd) (p ci k : Nat) : Value := if rk ci k = true then rfv (kB C) (w.2.2.1 p k) else .int (w.1 p k)
def Hat (C : KX) (w : Wd) (p : Nat) (q : Nat × Nat) (H : Heap) : Prop :=
  if q.1 = 100 then H[kB C + p]? = some (vp_cell (kI C) (q.2, .inl (w.1 p)))
  else if q.1 = 101 then H[kB C + p]? = some (vp_cell (kJ C) (q.2, .inr (.inl (w.2.1 p))))
  else if q.1 = 102 then H[kB C + p]? = some (vp_cell (kZ C) (q.2, .inl (w.1 p)))
  else if q.1 = 103 then H[kB C + p]? = some (vp_cell (kH C) (q.2, .inr (.inr (.inr (.inr (fun k => (w.2.2.1 p k).map (fun q => kB C + q)))))))
  else t_OB (kB C + p) ((kD C).1 q.1) q.2 ((kD C).2 q.1) H (fun k => fv C w p q.1 k)
def Hld (C : KX) (w : Wd) (H : Heap) : Prop := H.size = kB C + cnt w ∧ ∀ (p : Nat) (q : Nat × Nat), (wS w)[p]? = some q → Hat C w p q H
theorem Hat.kept {C : KX} {w w' : Wd} {p : Nat} {q : Nat × Nat} {H H1 : Heap} (h : Hat C w p q H) (hq : H1[kB C + p]? = H[kB C + p]?) (e1 : w'.1 p = w.1 p) (e2 : w'.2.1 p = w.2.1 p) (e3 : w'.2.2.1 p = w.2.2.1 p) : Hat C w' p q H1 := by
  unfold Hat at h ⊢
  by_cases c1 : q.1 = 100
  · rw [if_pos c1] at h ⊢; rw [hq, e1]; exact h
  · rw [if_neg c1] at h ⊢
    by_cases c2 : q.1 = 101
    · rw [if_pos c2] at h ⊢; rw [hq, e2]; exact h
    · rw [if_neg c2] at h ⊢
      by_cases c3 : q.1 = 102
      · rw [if_pos c3] at h ⊢; rw [hq, e1]; exact h
      · rw [if_neg c3] at h ⊢
        by_cases c4 : q.1 = 103
        · rw [if_pos c4] at h ⊢; rw [hq, e3]; exact h
        · rw [if_neg c4] at h ⊢
          refine (h.kept hq).to (fun k _ => ?_)
          unfold fv
          rw [e1, e3]
theorem Hld.lt {C : KX} {w : Wd} {H : Heap} (h : Hld C w H) {p : Nat} {q : Nat × Nat} (hp : (wS w)[p]? = some q) : kB C + p < H.size := by
  rw [h.1]
  have := (List.getElem?_eq_some_iff.mp hp).1
  unfold cnt
  omega
/-- one cell is written -/
theorem Hld.set {C : KX} {w w' : Wd} {H H1 : Heap} (h : Hld C w H) {p : Nat} {q : Nat × Nat} (hp : (wS w)[p]? = some q) (hS : wS w' = wS w) (hz : H1.size = H.size) (ho : ∀ a, a ≠ kB C + p → H1[a]? = H[a]?)
    (e1 : ∀ x, x ≠ p → w'.1 x = w.1 x) (e2 : ∀ x, x ≠ p → w'.2.1 x = w.2.1 x) (e3 : ∀ x, x ≠ p → w'.2.2.1 x = w.2.2.1 x) (hn : Hat C w' p q H1) : Hld C w' H1 := by
  refine ⟨by rw [hz, h.1]; unfold cnt; rw [hS], fun x y hx => ?_⟩
  rw [hS] at hx
  by_cases hxp : x = p
  · subst hxp
    cases hx.symm.trans hp
    exact hn
  · exact (h.2 x y hx).kept (ho _ (by omega)) (e1 x hxp) (e2 x hxp) (e3 x hxp)
/-- one cell comes -/
theorem Hld.push {C : KX} {w : Wd} {H H1 : Heap} {q : Nat × Nat} (h : Hld C w H) (hz : H1.size = H.size + 1) (ho : ∀ a, a < H.size → H1[a]? = H[a]?) (hn : Hat C (wNew w q) (cnt w) q H1) : Hld C (wNew w q) H1 := by
  refine ⟨?_, fun x y hx => ?_⟩
  · rw [hz, h.1]; unfold cnt wNew wS; simp; omega
  · have hx' : (wS w ++ [q])[x]? = some y := hx
    by_cases hl : x < (wS w).length
    · rw [List.getElem?_append_left hl] at hx'
      have hne : x ≠ cnt w := by unfold cnt; omega
      refine (h.2 x y hx').kept (ho _ (h.lt hx')) ?_ ?_ ?_
      · funext j; simp [wNew, uA, hne]
      · funext j; simp [wNew, uA, hne]
      · funext j; simp [wNew, uA, hne]
    · rw [List.getElem?_append_right (by omega)] at hx'
      have hz1 : x - (wS w).length < 1 := (List.getElem?_eq_some_iff.mp hx').1
      have hxe : x = cnt w := by unfold cnt; omega
      subst hxe
      rw [show cnt w - (wS w).length = 0 by unfold cnt; omega] at hx'
      cases hx'
      exact hn
/-- context, machine, environment, room, entry state, method, arguments, what lies below, the method's data and code, cells and slots at the entry -/
abbrev CX : Type := KX × Program × Env × Room × State × MethodId × Array Value × List Frame × Method × Code × Nat × Nat
abbrev xC (X : CX) : KX := X.1
abbrev xP (X : CX) : Program := X.2.1
abbrev xE (X : CX) : Env := X.2.2.1
abbrev xR (X : CX) : Room := X.2.2.2.1
abbrev xS (X : CX) : State := X.2.2.2.2.1
abbrev xM (X : CX) : MethodId := X.2.2.2.2.2.1
abbrev xA (X : CX) : Array Value := X.2.2.2.2.2.2.1
abbrev xB (X : CX) : List Frame := X.2.2.2.2.2.2.2.1
abbrev xT (X : CX) : Method := X.2.2.2.2.2.2.2.2.1
abbrev xO (X : CX) : Code := X.2.2.2.2.2.2.2.2.2.1
abbrev x0 (X : CX) : Nat := X.2.2.2.2.2.2.2.2.2.2.1
abbrev x1 (X : CX) : Nat := X.2.2.2.2.2.2.2.2.2.2.2
abbrev WX (X : CX) (H : Heap) (locs : List Loc) (cells slots : Nat) (Q : State → Prop) (g : JFrame) : Prop := W (xP X) (kL (xC X)) (xE X) (xR X) (xS X) (xM X) (xA X) (xB X) (xT X) (xO X) H locs cells slots Q g
def Stb (X : CX) (w : Wd) (H : Heap) (locs : List Loc) (cells slots : Nat) : Prop := Hld (xC X) w H ∧ (∀ q : Nat, q < kB (xC X) → H[q]? = (xS X).heap[q]?) ∧ (∀ q ∈ locs, kB (xC X) ≤ q.base) ∧ x0 X + cells = cnt w ∧ x1 X + slots = slt w
def Fit (X : CX) (w : Wd) : Prop := cnt w ≤ x0 X + (xR X).cells ∧ slt w ≤ x1 X + (xR X).slots
/-- a method: its code, class, locals, what it returns, its name, the frames and words below it -/
abbrev MD : Type := ByteArray × String × Nat × Option FieldType × String × Nat × Nat × (CX → Prop)
abbrev dC (D : MD) : ByteArray := D.1
abbrev dO (D : MD) : String := D.2.1
abbrev dN (D : MD) : Nat := D.2.2.1
abbrev dR (D : MD) : Option FieldType := D.2.2.2.1
abbrev dM (D : MD) : String := D.2.2.2.2.1
abbrev dF (D : MD) : Nat := D.2.2.2.2.2.1
abbrev dL (D : MD) : Nat := D.2.2.2.2.2.2.1
abbrev dE (D : MD) : CX → Prop := D.2.2.2.2.2.2.2
def eT (_ : CX) : Prop := True
def CGood (X : CX) (D : MD) : Prop :=
  (xP X).tables.exec = Jvm.exec ∧ (xO X).code = dC D ∧ (xT X).sig.returnType = dR D ∧ (xT X).locks = false ∧ (xO X).maxLocals = dN D ∧ (xS X).vm.findClass (dO D) = some (xM X).cls ∧ (∀ w ∈ TB, w.before (xA X) (xS X) = true) ∧ KK (xC X) (xS X) ∧ (xT X).name = dM D ∧ (xR X).frames = dF D ∧ (xR X).locals = dL D ∧ dE D X
abbrev ZT (α : Type) : Type := CX → α → Wd → State → Prop
def Cmp {α : Type} (C : KX) (D : MD) (Z : ZT α) (pc : Nat) (ls : List (Nat × Value)) (st : List Value) (m : Mo α) : Prop :=
  ∀ (w : Wd) (r : α) (w' : Wd), m w = some (r, w') → (cnt w ≤ cnt w' ∧ slt w ≤ slt w') ∧
    ∀ X : CX, CGood X D → xC X = C → Fit X w' → ∀ (H : Heap) (locs : List Loc) (lsA : Array Slot) (cells slots : Nat), Stb X w H locs cells slots → lv_has lsA (dN D) ls → WX X H locs cells slots (Z X r w') (F0 (xM X) pc lsA st)
def Qo (C : KX) (ro : Option Value) (w' : Wd) : Array Value → State → Outcome → State → Prop := fun _ st o t => o = .returned ro ∧ Hld C w' t.heap ∧ ∀ q : Nat, q < kB C → t.heap[q]? = st.heap[q]?
def QM {α : Type} (rv : α → Option Value) : ZT α := fun X r w' => MQ (xB X) (Qo (xC X) (rv r) w') (xA X) (xS X) (xR X).cells (xR X).slots (fun q => kB (xC X) ≤ q)
/-- the contract of a method: it does what a computation says, where that comes to an end -/
def Imp {α : Type} (C : KX) (y : MethodName) (cc : ByteArray) (maxL : Nat) (rt : Option FieldType) (F L : Nat) (rv : α → Option Value) (args : List Value) (f : Mo α) : Prop :=
  ∀ (w : Wd) (r : α) (w' : Wd), f w = some (r, w') → (cnt w ≤ cnt w' ∧ slt w ≤ slt w') ∧
    Met (kL C) y (Cond.code y cc maxL rt :: TB) ({ frames := F, cells := cnt w' - cnt w, slots := slt w' - slt w, locals := L }) (va_Pc args (fun U => KK C U ∧ Hld C w U.heap)) (Qo C (rv r) w') (cnt w' - cnt w) (slt w' - slt w) (fun q => kB C ≤ q)
theorem Imp.of {α : Type} {C : KX} {y : MethodName} {cc : ByteArray} {maxL : Nat} {rt : Option FieldType} {F L : Nat} {rv : α → Option Value} {args : List Value} {f : Mo α} (hy : plainName y.cls = true) (hla : (lg_sl args).length ≤ maxL) (ls : List (Nat × Value)) (hls : lv_args 0 args = ls)
    (body : Cmp C (cc, y.cls, maxL, rt, y.name, F, L, eT) (QM rv) 0 ls [] f) : Imp C y cc maxL rt F L rv args f := by
  intro w r w' hf
  obtain ⟨hmono, hbody⟩ := body w r w' hf
  refine ⟨hmono, ?_⟩
  refine Met.ofW (cc := cc) (maxL := maxL) (ret := rt) hy rfl ?_
  intro p e s m a below meth c s₁ B hml hv
  obtain ⟨rfl, hKK, hH⟩ := hv
  have hts := atoms_spec (ws := Cond.code y cc maxL rt :: TB) B.pre
  have hl := lv_entry args (n := maxL) hla
  rw [hls] at hl
  rw [lg_entry_eq]
  refine hbody (C, p, e, _, s, m, args.toArray, below, meth, c, cnt w, slt w) ⟨B.exec, B.bytes, B.returns, B.notSynchronized, hml, findClass_of_methodNamed B.named, fun w hw => hts w (List.mem_cons_of_mem _ hw), hKK, (name_of_methodNamed B.named B.method).1, rfl, rfl, trivial⟩ rfl ?_ s.heap [] _ 0 0 ⟨hH, fun _ _ => rfl, (fun _ h => absurd h List.not_mem_nil), rfl, rfl⟩ hl
  unfold Fit
  show cnt w' ≤ cnt w + (cnt w' - cnt w) ∧ slt w' ≤ slt w + (slt w' - slt w)
  omega
end
section
/-! ===== rules: instructions that touch locals and the operand stack alone ===== -/
section RulesA
variable {α : Type} {C : KX} {D : MD} {Z : ZT α} {pc pc' : Nat} {ls ls' : List (Nat × Value)} {st st' : List Value} {m A B : Mo α}
theorem C_pure (h : ∀ X : CX, CGood X D → ∀ (H : Heap) (locs : List Loc) (lsA : Array Slot) (cells slots : Nat) (Q : State → Prop), lv_has lsA (dN D) ls → (∀ lsB : Array Slot, lv_has lsB (dN D) ls' → WX X H locs cells slots Q (F0 (xM X) pc' lsB st')) → WX X H locs cells slots Q (F0 (xM X) pc lsA st)) (k : Cmp C D Z pc' ls' st' m) : Cmp C D Z pc ls st m := by
  intro w r w' hm
  obtain ⟨h1, h2⟩ := k w r w' hm
  refine ⟨h1, fun X G hC hF H locs lsA cells slots hS hl => ?_⟩
  exact h X G H locs lsA cells slots _ hl (fun lsB hB => h2 X G hC hF H locs lsB cells slots hS hB)
theorem C_sub (ks : List Nat) (hs : lv_pick ls ks = ls') (k : Cmp C D Z pc ls' st m) : Cmp C D Z pc ls st m :=
  C_pure (fun X G H locs lsA cells slots Q hl kk => kk lsA (lv_sub hl ks hs)) k
theorem C_mz : Cmp C D Z pc ls st mz := by
  intro w r w' hm
  cases hm
theorem C_ite {c : Prop} [Decidable c] (kt : Cmp C D Z pc ls st A) (kf : Cmp C D Z pc ls st B) : Cmp C D Z pc ls st (if c then A else B) := by
  by_cases hc : c
  · rw [if_pos hc]; exact kt
  · rw [if_neg hc]; exact kf

theorem C_iconst {n : Int} {v : Int32} (hd : decode (dC D) pc = .ok (.iconst n, 1)) (hp : pc + 1 = pc') (hv : Int32.ofInt n = v) (k : Cmp C D Z pc' ls (.int v :: st) m) : Cmp C D Z pc ls (st) m := by
  subst hp
  exact C_pure (fun X G H locs lsA cells slots Q hl kk => lv_iconst G.1 G.2.1 hd hv (kk lsA hl)) k

theorem C_bipush {n : Int} {v : Int32} (hd : decode (dC D) pc = .ok (.bipush n, 2)) (hp : pc + 2 = pc') (hv : (Int8.ofInt n).toInt32 = v) (k : Cmp C D Z pc' ls (.int v :: st) m) : Cmp C D Z pc ls (st) m := by
  subst hp
  exact C_pure (fun X G H locs lsA cells slots Q hl kk => lv_bipush G.1 G.2.1 hd hv (kk lsA hl)) k

theorem C_sipush {n : Int} {v : Int32} (hd : decode (dC D) pc = .ok (.sipush n, 3)) (hp : pc + 3 = pc') (hv : (Int16.ofInt n).toInt32 = v) (k : Cmp C D Z pc' ls (.int v :: st) m) : Cmp C D Z pc ls (st) m := by
  subst hp
  exact C_pure (fun X G H locs lsA cells slots Q hl kk => lv_sipush G.1 G.2.1 hd hv (kk lsA hl)) k

theorem C_lconst {n : Fin 2} {v : Int64} (hd : decode (dC D) pc = .ok (.lconst n, 1)) (hp : pc + 1 = pc') (hv : Int64.ofNat (n : Nat) = v) (k : Cmp C D Z pc' ls (.long v :: st) m) : Cmp C D Z pc ls (st) m := by
  subst hp
  exact C_pure (fun X G H locs lsA cells slots Q hl kk => lv_lconst G.1 G.2.1 hd hv (kk lsA hl)) k

theorem C_ldc {idx : Nat} {v : Int32} (hw : Cond.constant (dO D) idx v ∈ TB) (hd : decode (dC D) pc = .ok (.ldc idx, 2)) (hp : pc + 2 = pc') (k : Cmp C D Z pc' ls (.int v :: st) m) : Cmp C D Z pc ls st m := by
  subst hp
  exact C_pure (fun X G H locs lsA cells slots Q hl kk => lv_ldc G.1 G.2.1 G.2.2.2.2.2.1 (G.2.2.2.2.2.2.1 _ hw) hd (kk lsA hl)) k
theorem C_ldc2 {idx : Nat} {v : Int64} (hw : Cond.constantLong (dO D) idx v ∈ TB) (hd : decode (dC D) pc = .ok (.ldc2_w idx, 3)) (hp : pc + 3 = pc') (k : Cmp C D Z pc' ls (.long v :: st) m) : Cmp C D Z pc ls st m := by
  subst hp
  exact C_pure (fun X G H locs lsA cells slots Q hl kk => lv_ldc2 G.1 G.2.1 G.2.2.2.2.2.1 (G.2.2.2.2.2.2.1 _ hw) hd (kk lsA hl)) k

theorem C_iload_n {k : Fin 4} {x : Int32} (hd : decode (dC D) pc = .ok (.iload_n k, 1)) (hp : pc + 1 = pc') (j : Nat) (hj : ls[j]? = some ((k : Nat), .int x)) (kk : Cmp C D Z pc' ls (.int x :: st) m) : Cmp C D Z pc ls st m := by
  subst hp
  exact C_pure (fun X G H locs lsA cells slots Q hl kk => lv_iload_n G.1 G.2.1 hd rfl (lv_at hl j hj) (kk lsA hl)) kk
theorem C_iload {i : Nat} {x : Int32} (hd : decode (dC D) pc = .ok (.iload i, 2)) (hp : pc + 2 = pc') (j : Nat) (hj : ls[j]? = some (i, .int x)) (kk : Cmp C D Z pc' ls (.int x :: st) m) : Cmp C D Z pc ls st m := by
  subst hp
  exact C_pure (fun X G H locs lsA cells slots Q hl kk => lv_iload G.1 G.2.1 hd (lv_at hl j hj) (kk lsA hl)) kk

theorem C_istore_n {k : Fin 4} {i : Nat} {x : Int32} (hd : decode (dC D) pc = .ok (.istore_n k, 1)) (hp : pc + 1 = pc') (hi : (k : Nat) = i) (hb : i < dN D) (hs : (i, Value.int x) :: ls.filter (fun q => !(q.1 == i) && !(q.1 + 1 == i && q.2.category == 2)) = ls') (kk : Cmp C D Z pc' ls' st m) : Cmp C D Z pc ls (.int x :: st) m := by
  subst hp
  exact C_pure (fun X G H locs lsA cells slots Q hl kk => lv_istore_n G.1 G.2.1 hd hi hl hb hs (fun lsB hB => kk lsB hB)) kk
theorem C_istore {i : Nat} {x : Int32} (hd : decode (dC D) pc = .ok (.istore i, 2)) (hp : pc + 2 = pc') (hb : i < dN D) (hs : (i, Value.int x) :: ls.filter (fun q => !(q.1 == i) && !(q.1 + 1 == i && q.2.category == 2)) = ls') (kk : Cmp C D Z pc' ls' st m) : Cmp C D Z pc ls (.int x :: st) m := by
  subst hp
  exact C_pure (fun X G H locs lsA cells slots Q hl kk => lv_istore G.1 G.2.1 hd hl hb hs (fun lsB hB => kk lsB hB)) kk

theorem C_lload_n {k : Fin 4} {x : Int64} (hd : decode (dC D) pc = .ok (.lload_n k, 1)) (hp : pc + 1 = pc') (j : Nat) (hj : ls[j]? = some ((k : Nat), .long x)) (kk : Cmp C D Z pc' ls (.long x :: st) m) : Cmp C D Z pc ls st m := by
  subst hp
  exact C_pure (fun X G H locs lsA cells slots Q hl kk => lv_lload_n G.1 G.2.1 hd rfl (lv_at hl j hj) (kk lsA hl)) kk
theorem C_lload {i : Nat} {x : Int64} (hd : decode (dC D) pc = .ok (.lload i, 2)) (hp : pc + 2 = pc') (j : Nat) (hj : ls[j]? = some (i, .long x)) (kk : Cmp C D Z pc' ls (.long x :: st) m) : Cmp C D Z pc ls st m := by
  subst hp
  exact C_pure (fun X G H locs lsA cells slots Q hl kk => lv_lload G.1 G.2.1 hd (lv_at hl j hj) (kk lsA hl)) kk

theorem C_lstore_n {k : Fin 4} {i : Nat} {x : Int64} (hd : decode (dC D) pc = .ok (.lstore_n k, 1)) (hp : pc + 1 = pc') (hi : (k : Nat) = i) (hb : i + 1 < dN D) (hs : (i, Value.long x) :: ls.filter (fun q => !(q.1 == i) && (!(q.1 == i + 1) && !(q.1 + 1 == i && q.2.category == 2))) = ls') (kk : Cmp C D Z pc' ls' st m) : Cmp C D Z pc ls (.long x :: st) m := by
  subst hp
  exact C_pure (fun X G H locs lsA cells slots Q hl kk => lv_lstore_n G.1 G.2.1 hd hi hl hb hs (fun lsB hB => kk lsB hB)) kk
theorem C_lstore {i : Nat} {x : Int64} (hd : decode (dC D) pc = .ok (.lstore i, 2)) (hp : pc + 2 = pc') (hb : i + 1 < dN D) (hs : (i, Value.long x) :: ls.filter (fun q => !(q.1 == i) && (!(q.1 == i + 1) && !(q.1 + 1 == i && q.2.category == 2))) = ls') (kk : Cmp C D Z pc' ls' st m) : Cmp C D Z pc ls (.long x :: st) m := by
  subst hp
  exact C_pure (fun X G H locs lsA cells slots Q hl kk => lv_lstore G.1 G.2.1 hd hl hb hs (fun lsB hB => kk lsB hB)) kk

theorem C_aload_n {k : Fin 4} {x : Nat} (hd : decode (dC D) pc = .ok (.aload_n k, 1)) (hp : pc + 1 = pc') (j : Nat) (hj : ls[j]? = some ((k : Nat), .ref x)) (kk : Cmp C D Z pc' ls (.ref x :: st) m) : Cmp C D Z pc ls st m := by
  subst hp
  exact C_pure (fun X G H locs lsA cells slots Q hl kk => lv_aload_n G.1 G.2.1 hd rfl (lv_at hl j hj) (kk lsA hl)) kk
theorem C_aload {i : Nat} {x : Nat} (hd : decode (dC D) pc = .ok (.aload i, 2)) (hp : pc + 2 = pc') (j : Nat) (hj : ls[j]? = some (i, .ref x)) (kk : Cmp C D Z pc' ls (.ref x :: st) m) : Cmp C D Z pc ls st m := by
  subst hp
  exact C_pure (fun X G H locs lsA cells slots Q hl kk => lv_aload G.1 G.2.1 hd (lv_at hl j hj) (kk lsA hl)) kk

theorem C_astore_n {k : Fin 4} {i : Nat} {x : Nat} (hd : decode (dC D) pc = .ok (.astore_n k, 1)) (hp : pc + 1 = pc') (hi : (k : Nat) = i) (hb : i < dN D) (hs : (i, Value.ref x) :: ls.filter (fun q => !(q.1 == i) && !(q.1 + 1 == i && q.2.category == 2)) = ls') (kk : Cmp C D Z pc' ls' st m) : Cmp C D Z pc ls (.ref x :: st) m := by
  subst hp
  exact C_pure (fun X G H locs lsA cells slots Q hl kk => lv_astore_n G.1 G.2.1 hd hi hl hb hs (fun lsB hB => kk lsB hB)) kk
theorem C_astore {i : Nat} {x : Nat} (hd : decode (dC D) pc = .ok (.astore i, 2)) (hp : pc + 2 = pc') (hb : i < dN D) (hs : (i, Value.ref x) :: ls.filter (fun q => !(q.1 == i) && !(q.1 + 1 == i && q.2.category == 2)) = ls') (kk : Cmp C D Z pc' ls' st m) : Cmp C D Z pc ls (.ref x :: st) m := by
  subst hp
  exact C_pure (fun X G H locs lsA cells slots Q hl kk => lv_astore G.1 G.2.1 hd hl hb hs (fun lsB hB => kk lsB hB)) kk

theorem C_aload_nN {k : Fin 4} (hd : decode (dC D) pc = .ok (.aload_n k, 1)) (hp : pc + 1 = pc') (j : Nat) (hj : ls[j]? = some ((k : Nat), .null)) (kk : Cmp C D Z pc' ls (.null :: st) m) : Cmp C D Z pc ls st m := by
  subst hp
  exact C_pure (fun X G H locs lsA cells slots Q hl kk => lv_aload_nN G.1 G.2.1 hd rfl (lv_at hl j hj) (kk lsA hl)) kk
theorem C_astore_nN {k : Fin 4} {i : Nat} (hd : decode (dC D) pc = .ok (.astore_n k, 1)) (hp : pc + 1 = pc') (hi : (k : Nat) = i) (hb : i < dN D) (hs : (i, Value.null) :: ls.filter (fun q => !(q.1 == i) && !(q.1 + 1 == i && q.2.category == 2)) = ls') (kk : Cmp C D Z pc' ls' st m) : Cmp C D Z pc ls (.null :: st) m := by
  subst hp
  exact C_pure (fun X G H locs lsA cells slots Q hl kk => lv_astore_nN G.1 G.2.1 hd hi hl hb hs (fun lsB hB => kk lsB hB)) kk
theorem C_iinc {i j : Nat} {n : Int} {x v : Int32} (hd : decode (dC D) pc = .ok (.iinc i n, 3)) (hp : pc + 3 = pc') (hj : ls[j]? = some (i, .int x)) (hv : x + Int32.ofInt n = v) (hb : i < dN D) (hs : (i, Value.int v) :: ls.filter (fun q => !(q.1 == i) && !(q.1 + 1 == i && q.2.category == 2)) = ls') (kk : Cmp C D Z pc' ls' st m) : Cmp C D Z pc ls st m := by
  subst hp
  exact C_pure (fun X G H locs lsA cells slots Q hl kk => lv_iinc G.1 G.2.1 hd hl hj hv hb hs (fun lsB hB => kk lsB hB)) kk

theorem C_iadd {x y : Int32} (hd : decode (dC D) pc = .ok (.iadd, 1)) (hp : pc + 1 = pc') (k : Cmp C D Z pc' ls (.int (x + y) :: st) m) : Cmp C D Z pc ls (.int y :: .int x :: st) m := by
  subst hp
  exact C_pure (fun X G H locs lsA cells slots Q hl kk => lv_iadd G.1 G.2.1 hd (kk lsA hl)) k

theorem C_isub {x y : Int32} (hd : decode (dC D) pc = .ok (.isub, 1)) (hp : pc + 1 = pc') (k : Cmp C D Z pc' ls (.int (x - y) :: st) m) : Cmp C D Z pc ls (.int y :: .int x :: st) m := by
  subst hp
  exact C_pure (fun X G H locs lsA cells slots Q hl kk => lv_isub G.1 G.2.1 hd (kk lsA hl)) k

theorem C_imul {x y : Int32} (hd : decode (dC D) pc = .ok (.imul, 1)) (hp : pc + 1 = pc') (k : Cmp C D Z pc' ls (.int (x * y) :: st) m) : Cmp C D Z pc ls (.int y :: .int x :: st) m := by
  subst hp
  exact C_pure (fun X G H locs lsA cells slots Q hl kk => lv_imul G.1 G.2.1 hd (kk lsA hl)) k

theorem C_iand {x y : Int32} (hd : decode (dC D) pc = .ok (.iand, 1)) (hp : pc + 1 = pc') (k : Cmp C D Z pc' ls (.int (x &&& y) :: st) m) : Cmp C D Z pc ls (.int y :: .int x :: st) m := by
  subst hp
  exact C_pure (fun X G H locs lsA cells slots Q hl kk => lv_iand G.1 G.2.1 hd (kk lsA hl)) k

theorem C_ior {x y : Int32} (hd : decode (dC D) pc = .ok (.ior, 1)) (hp : pc + 1 = pc') (k : Cmp C D Z pc' ls (.int (x ||| y) :: st) m) : Cmp C D Z pc ls (.int y :: .int x :: st) m := by
  subst hp
  exact C_pure (fun X G H locs lsA cells slots Q hl kk => lv_ior G.1 G.2.1 hd (kk lsA hl)) k

theorem C_ixor {x y : Int32} (hd : decode (dC D) pc = .ok (.ixor, 1)) (hp : pc + 1 = pc') (k : Cmp C D Z pc' ls (.int (x ^^^ y) :: st) m) : Cmp C D Z pc ls (.int y :: .int x :: st) m := by
  subst hp
  exact C_pure (fun X G H locs lsA cells slots Q hl kk => lv_ixor G.1 G.2.1 hd (kk lsA hl)) k

theorem C_ishl {x y : Int32} (hd : decode (dC D) pc = .ok (.ishl, 1)) (hp : pc + 1 = pc') (k : Cmp C D Z pc' ls (.int (x <<< (y &&& 31)) :: st) m) : Cmp C D Z pc ls (.int y :: .int x :: st) m := by
  subst hp
  exact C_pure (fun X G H locs lsA cells slots Q hl kk => lv_ishl G.1 G.2.1 hd (kk lsA hl)) k

theorem C_ishr {x y : Int32} (hd : decode (dC D) pc = .ok (.ishr, 1)) (hp : pc + 1 = pc') (k : Cmp C D Z pc' ls (.int (x >>> (y &&& 31)) :: st) m) : Cmp C D Z pc ls (.int y :: .int x :: st) m := by
  subst hp
  exact C_pure (fun X G H locs lsA cells slots Q hl kk => lv_ishr G.1 G.2.1 hd (kk lsA hl)) k

theorem C_idiv {x y : Int32} (hd : decode (dC D) pc = .ok (.idiv, 1)) (hp : pc + 1 = pc') (hne : ¬ y = 0) (k : Cmp C D Z pc' ls (.int (x / y) :: st) m) : Cmp C D Z pc ls (.int y :: .int x :: st) m := by
  subst hp
  exact C_pure (fun X G H locs lsA cells slots Q hl kk => lv_idiv G.1 G.2.1 hd hne (kk lsA hl)) k

theorem C_irem {x y : Int32} (hd : decode (dC D) pc = .ok (.irem, 1)) (hp : pc + 1 = pc') (hne : ¬ y = 0) (k : Cmp C D Z pc' ls (.int (x - x / y * y) :: st) m) : Cmp C D Z pc ls (.int y :: .int x :: st) m := by
  subst hp
  exact C_pure (fun X G H locs lsA cells slots Q hl kk => lv_irem G.1 G.2.1 hd hne (kk lsA hl)) k

theorem C_ladd {x y : Int64} (hd : decode (dC D) pc = .ok (.ladd, 1)) (hp : pc + 1 = pc') (k : Cmp C D Z pc' ls (.long (x + y) :: st) m) : Cmp C D Z pc ls (.long y :: .long x :: st) m := by
  subst hp
  exact C_pure (fun X G H locs lsA cells slots Q hl kk => lv_ladd G.1 G.2.1 hd (kk lsA hl)) k

theorem C_lsub {x y : Int64} (hd : decode (dC D) pc = .ok (.lsub, 1)) (hp : pc + 1 = pc') (k : Cmp C D Z pc' ls (.long (x - y) :: st) m) : Cmp C D Z pc ls (.long y :: .long x :: st) m := by
  subst hp
  exact C_pure (fun X G H locs lsA cells slots Q hl kk => lv_lsub G.1 G.2.1 hd (kk lsA hl)) k

theorem C_lmul {x y : Int64} (hd : decode (dC D) pc = .ok (.lmul, 1)) (hp : pc + 1 = pc') (k : Cmp C D Z pc' ls (.long (x * y) :: st) m) : Cmp C D Z pc ls (.long y :: .long x :: st) m := by
  subst hp
  exact C_pure (fun X G H locs lsA cells slots Q hl kk => lv_lmul G.1 G.2.1 hd (kk lsA hl)) k

theorem C_land {x y : Int64} (hd : decode (dC D) pc = .ok (.land, 1)) (hp : pc + 1 = pc') (k : Cmp C D Z pc' ls (.long (x &&& y) :: st) m) : Cmp C D Z pc ls (.long y :: .long x :: st) m := by
  subst hp
  exact C_pure (fun X G H locs lsA cells slots Q hl kk => lv_land G.1 G.2.1 hd (kk lsA hl)) k

theorem C_lor {x y : Int64} (hd : decode (dC D) pc = .ok (.lor, 1)) (hp : pc + 1 = pc') (k : Cmp C D Z pc' ls (.long (x ||| y) :: st) m) : Cmp C D Z pc ls (.long y :: .long x :: st) m := by
  subst hp
  exact C_pure (fun X G H locs lsA cells slots Q hl kk => lv_lor G.1 G.2.1 hd (kk lsA hl)) k

theorem C_ldiv {x y : Int64} (hd : decode (dC D) pc = .ok (.ldiv, 1)) (hp : pc + 1 = pc') (hne : ¬ y = 0) (k : Cmp C D Z pc' ls (.long (x / y) :: st) m) : Cmp C D Z pc ls (.long y :: .long x :: st) m := by
  subst hp
  exact C_pure (fun X G H locs lsA cells slots Q hl kk => lv_ldiv G.1 G.2.1 hd hne (kk lsA hl)) k

theorem C_lrem {x y : Int64} (hd : decode (dC D) pc = .ok (.lrem, 1)) (hp : pc + 1 = pc') (hne : ¬ y = 0) (k : Cmp C D Z pc' ls (.long (x - x / y * y) :: st) m) : Cmp C D Z pc ls (.long y :: .long x :: st) m := by
  subst hp
  exact C_pure (fun X G H locs lsA cells slots Q hl kk => lv_lrem G.1 G.2.1 hd hne (kk lsA hl)) k

theorem C_lshl {x : Int64} {y : Int32} (hd : decode (dC D) pc = .ok (.lshl, 1)) (hp : pc + 1 = pc') (k : Cmp C D Z pc' ls (.long (x <<< (y.toInt64 &&& 63)) :: st) m) : Cmp C D Z pc ls (.int y :: .long x :: st) m := by
  subst hp
  exact C_pure (fun X G H locs lsA cells slots Q hl kk => lv_lshl G.1 G.2.1 hd rfl (kk lsA hl)) k

theorem C_lshr {x : Int64} {y : Int32} (hd : decode (dC D) pc = .ok (.lshr, 1)) (hp : pc + 1 = pc') (k : Cmp C D Z pc' ls (.long (x >>> (y.toInt64 &&& 63)) :: st) m) : Cmp C D Z pc ls (.int y :: .long x :: st) m := by
  subst hp
  exact C_pure (fun X G H locs lsA cells slots Q hl kk => lv_lshr G.1 G.2.1 hd rfl (kk lsA hl)) k

theorem C_lushr {x : Int64} {y : Int32} (hd : decode (dC D) pc = .ok (.lushr, 1)) (hp : pc + 1 = pc') (k : Cmp C D Z pc' ls (.long ((x.toUInt64 >>> (y.toInt64.toUInt64 &&& Int64.toUInt64 63)).toInt64) :: st) m) : Cmp C D Z pc ls (.int y :: .long x :: st) m := by
  subst hp
  exact C_pure (fun X G H locs lsA cells slots Q hl kk => lv_lushr G.1 G.2.1 hd rfl (kk lsA hl)) k

theorem C_i2l {x : Int32} (hd : decode (dC D) pc = .ok (.i2l, 1)) (hp : pc + 1 = pc') (k : Cmp C D Z pc' ls (.long x.toInt64 :: st) m) : Cmp C D Z pc ls (.int x :: st) m := by
  subst hp
  exact C_pure (fun X G H locs lsA cells slots Q hl kk => lv_i2l G.1 G.2.1 hd rfl (kk lsA hl)) k

theorem C_l2i {x : Int64} (hd : decode (dC D) pc = .ok (.l2i, 1)) (hp : pc + 1 = pc') (k : Cmp C D Z pc' ls (.int x.toInt32 :: st) m) : Cmp C D Z pc ls (.long x :: st) m := by
  subst hp
  exact C_pure (fun X G H locs lsA cells slots Q hl kk => lv_l2i G.1 G.2.1 hd rfl (kk lsA hl)) k

theorem C_lcmp {x y : Int64} (hd : decode (dC D) pc = .ok (.lcmp, 1)) (hp : pc + 1 = pc') (k : Cmp C D Z pc' ls (.int (lg_cmp x y) :: st) m) : Cmp C D Z pc ls (.long y :: .long x :: st) m := by
  subst hp
  exact C_pure (fun X G H locs lsA cells slots Q hl kk => W.lcmp G.1 G.2.1 hd (kk lsA hl)) k

theorem C_dup {v : Value} (hd : decode (dC D) pc = .ok (.dup, 1)) (hp : pc + 1 = pc') (hv : v.category = 1) (k : Cmp C D Z pc' ls (v :: v :: st) m) : Cmp C D Z pc ls (v :: st) m := by
  subst hp
  exact C_pure (fun X G H locs lsA cells slots Q hl kk => lv_dup G.1 G.2.1 hd hv (kk lsA hl)) k

theorem C_pop {v : Value} (hd : decode (dC D) pc = .ok (.pop, 1)) (hp : pc + 1 = pc') (hv : v.category = 1) (k : Cmp C D Z pc' ls (st) m) : Cmp C D Z pc ls (v :: st) m := by
  subst hp
  exact C_pure (fun X G H locs lsA cells slots Q hl kk => lv_pop G.1 G.2.1 hd hv (kk lsA hl)) k

theorem C_dup2 {va vb : Value} (hd : decode (dC D) pc = .ok (.dup2, 1)) (hp : pc + 1 = pc') (hv : va.category = 1) (hw : vb.category = 1) (k : Cmp C D Z pc' ls (va :: vb :: va :: vb :: st) m) : Cmp C D Z pc ls (va :: vb :: st) m := by
  subst hp
  exact C_pure (fun X G H locs lsA cells slots Q hl kk => lv_dup2_11 G.1 G.2.1 hd hv hw (kk lsA hl)) k

theorem C_dup2L {va : Value} (hd : decode (dC D) pc = .ok (.dup2, 1)) (hp : pc + 1 = pc') (hv : va.category = 2) (k : Cmp C D Z pc' ls (va :: va :: st) m) : Cmp C D Z pc ls (va :: st) m := by
  subst hp
  exact C_pure (fun X G H locs lsA cells slots Q hl kk => lv_dup2_2 G.1 G.2.1 hd hv (kk lsA hl)) k

theorem C_goto {off : Int} (hd : decode (dC D) pc = .ok (.goto off, 3)) (ht : (pc : Int) + off = (pc' : Int)) (k : Cmp C D Z pc' ls st m) : Cmp C D Z pc ls st m :=
  C_pure (fun X G H locs lsA cells slots Q hl kk => lv_goto G.1 G.2.1 hd ht (kk lsA hl)) k
theorem C_ifnonnull {off : Int} {x : Nat} (hd : decode (dC D) pc = .ok (.ifnonnull off, 3)) (ht : (pc : Int) + off = (pc' : Int)) (k : Cmp C D Z pc' ls st m) : Cmp C D Z pc ls (.ref x :: st) m :=
  C_pure (fun X G H locs lsA cells slots Q hl kk => lv_ifnonnull G.1 G.2.1 hd ht (kk lsA hl)) k
theorem C_ifnonnullN {off : Int} (hd : decode (dC D) pc = .ok (.ifnonnull off, 3)) (hp : pc + 3 = pc') (k : Cmp C D Z pc' ls st m) : Cmp C D Z pc ls (.null :: st) m := by
  subst hp
  exact C_pure (fun X G H locs lsA cells slots Q hl kk => lv_ifnonnullN G.1 G.2.1 hd (kk lsA hl)) k

theorem C_icmp_eq {x y : Int32} {off : Int} {tgt : Nat} (hd : decode (dC D) pc = .ok (.if_icmp .eq off, 3)) (ht : (pc : Int) + off = (tgt : Int)) (hp : pc + 3 = pc') (kt : Cmp C D Z tgt ls st A) (kf : Cmp C D Z pc' ls st B) : Cmp C D Z pc ls (.int y :: .int x :: st) (if x = y then A else B) := by
  subst hp
  intro w r w' hm
  by_cases hc : x = y
  · rw [if_pos hc] at hm
    obtain ⟨h1, h2⟩ := kt w r w' hm
    refine ⟨h1, fun X G hC hF H locs lsA cells slots hS hl => ?_⟩
    exact lv_icmp_eq G.1 G.2.1 hd ht (fun h => h2 X G hC hF H locs lsA cells slots hS hl) (fun h => absurd hc h)
  · rw [if_neg hc] at hm
    obtain ⟨h1, h2⟩ := kf w r w' hm
    refine ⟨h1, fun X G hC hF H locs lsA cells slots hS hl => ?_⟩
    exact lv_icmp_eq G.1 G.2.1 hd ht (fun h => absurd h hc) (fun h => h2 X G hC hF H locs lsA cells slots hS hl)

theorem C_if_eq {x : Int32} {off : Int} {tgt : Nat} (hd : decode (dC D) pc = .ok (.ifCond .eq off, 3)) (ht : (pc : Int) + off = (tgt : Int)) (hp : pc + 3 = pc') (kt : Cmp C D Z tgt ls st A) (kf : Cmp C D Z pc' ls st B) : Cmp C D Z pc ls (.int x :: st) (if x = 0 then A else B) := by
  subst hp
  intro w r w' hm
  by_cases hc : x = 0
  · rw [if_pos hc] at hm
    obtain ⟨h1, h2⟩ := kt w r w' hm
    refine ⟨h1, fun X G hC hF H locs lsA cells slots hS hl => ?_⟩
    exact lv_if_eq G.1 G.2.1 hd ht (fun h => h2 X G hC hF H locs lsA cells slots hS hl) (fun h => absurd hc h)
  · rw [if_neg hc] at hm
    obtain ⟨h1, h2⟩ := kf w r w' hm
    refine ⟨h1, fun X G hC hF H locs lsA cells slots hS hl => ?_⟩
    exact lv_if_eq G.1 G.2.1 hd ht (fun h => absurd h hc) (fun h => h2 X G hC hF H locs lsA cells slots hS hl)

theorem C_icmp_ne {x y : Int32} {off : Int} {tgt : Nat} (hd : decode (dC D) pc = .ok (.if_icmp .ne off, 3)) (ht : (pc : Int) + off = (tgt : Int)) (hp : pc + 3 = pc') (kt : Cmp C D Z tgt ls st B) (kf : Cmp C D Z pc' ls st A) : Cmp C D Z pc ls (.int y :: .int x :: st) (if x = y then A else B) := by
  subst hp
  intro w r w' hm
  by_cases hc : x = y
  · rw [if_pos hc] at hm
    obtain ⟨h1, h2⟩ := kf w r w' hm
    refine ⟨h1, fun X G hC hF H locs lsA cells slots hS hl => ?_⟩
    exact lv_icmp_ne G.1 G.2.1 hd ht (fun h => absurd hc h) (fun h => h2 X G hC hF H locs lsA cells slots hS hl)
  · rw [if_neg hc] at hm
    obtain ⟨h1, h2⟩ := kt w r w' hm
    refine ⟨h1, fun X G hC hF H locs lsA cells slots hS hl => ?_⟩
    exact lv_icmp_ne G.1 G.2.1 hd ht (fun h => h2 X G hC hF H locs lsA cells slots hS hl) (fun h => absurd h hc)

theorem C_if_ne {x : Int32} {off : Int} {tgt : Nat} (hd : decode (dC D) pc = .ok (.ifCond .ne off, 3)) (ht : (pc : Int) + off = (tgt : Int)) (hp : pc + 3 = pc') (kt : Cmp C D Z tgt ls st B) (kf : Cmp C D Z pc' ls st A) : Cmp C D Z pc ls (.int x :: st) (if x = 0 then A else B) := by
  subst hp
  intro w r w' hm
  by_cases hc : x = 0
  · rw [if_pos hc] at hm
    obtain ⟨h1, h2⟩ := kf w r w' hm
    refine ⟨h1, fun X G hC hF H locs lsA cells slots hS hl => ?_⟩
    exact lv_if_ne G.1 G.2.1 hd ht (fun h => absurd hc h) (fun h => h2 X G hC hF H locs lsA cells slots hS hl)
  · rw [if_neg hc] at hm
    obtain ⟨h1, h2⟩ := kt w r w' hm
    refine ⟨h1, fun X G hC hF H locs lsA cells slots hS hl => ?_⟩
    exact lv_if_ne G.1 G.2.1 hd ht (fun h => h2 X G hC hF H locs lsA cells slots hS hl) (fun h => absurd h hc)

theorem C_icmp_lt {x y : Int32} {off : Int} {tgt : Nat} (hd : decode (dC D) pc = .ok (.if_icmp .lt off, 3)) (ht : (pc : Int) + off = (tgt : Int)) (hp : pc + 3 = pc') (kt : Cmp C D Z tgt ls st A) (kf : Cmp C D Z pc' ls st B) : Cmp C D Z pc ls (.int y :: .int x :: st) (if x < y then A else B) := by
  subst hp
  intro w r w' hm
  by_cases hc : x < y
  · rw [if_pos hc] at hm
    obtain ⟨h1, h2⟩ := kt w r w' hm
    refine ⟨h1, fun X G hC hF H locs lsA cells slots hS hl => ?_⟩
    exact lv_icmp_lt G.1 G.2.1 hd ht (fun h => h2 X G hC hF H locs lsA cells slots hS hl) (fun h => absurd hc h)
  · rw [if_neg hc] at hm
    obtain ⟨h1, h2⟩ := kf w r w' hm
    refine ⟨h1, fun X G hC hF H locs lsA cells slots hS hl => ?_⟩
    exact lv_icmp_lt G.1 G.2.1 hd ht (fun h => absurd h hc) (fun h => h2 X G hC hF H locs lsA cells slots hS hl)

theorem C_if_lt {x : Int32} {off : Int} {tgt : Nat} (hd : decode (dC D) pc = .ok (.ifCond .lt off, 3)) (ht : (pc : Int) + off = (tgt : Int)) (hp : pc + 3 = pc') (kt : Cmp C D Z tgt ls st A) (kf : Cmp C D Z pc' ls st B) : Cmp C D Z pc ls (.int x :: st) (if x < 0 then A else B) := by
  subst hp
  intro w r w' hm
  by_cases hc : x < 0
  · rw [if_pos hc] at hm
    obtain ⟨h1, h2⟩ := kt w r w' hm
    refine ⟨h1, fun X G hC hF H locs lsA cells slots hS hl => ?_⟩
    exact lv_if_lt G.1 G.2.1 hd ht (fun h => h2 X G hC hF H locs lsA cells slots hS hl) (fun h => absurd hc h)
  · rw [if_neg hc] at hm
    obtain ⟨h1, h2⟩ := kf w r w' hm
    refine ⟨h1, fun X G hC hF H locs lsA cells slots hS hl => ?_⟩
    exact lv_if_lt G.1 G.2.1 hd ht (fun h => absurd h hc) (fun h => h2 X G hC hF H locs lsA cells slots hS hl)

theorem C_icmp_ge {x y : Int32} {off : Int} {tgt : Nat} (hd : decode (dC D) pc = .ok (.if_icmp .ge off, 3)) (ht : (pc : Int) + off = (tgt : Int)) (hp : pc + 3 = pc') (kt : Cmp C D Z tgt ls st A) (kf : Cmp C D Z pc' ls st B) : Cmp C D Z pc ls (.int y :: .int x :: st) (if y ≤ x then A else B) := by
  subst hp
  intro w r w' hm
  by_cases hc : y ≤ x
  · rw [if_pos hc] at hm
    obtain ⟨h1, h2⟩ := kt w r w' hm
    refine ⟨h1, fun X G hC hF H locs lsA cells slots hS hl => ?_⟩
    exact lv_icmp_ge G.1 G.2.1 hd ht (fun h => h2 X G hC hF H locs lsA cells slots hS hl) (fun h => absurd hc h)
  · rw [if_neg hc] at hm
    obtain ⟨h1, h2⟩ := kf w r w' hm
    refine ⟨h1, fun X G hC hF H locs lsA cells slots hS hl => ?_⟩
    exact lv_icmp_ge G.1 G.2.1 hd ht (fun h => absurd h hc) (fun h => h2 X G hC hF H locs lsA cells slots hS hl)

theorem C_if_ge {x : Int32} {off : Int} {tgt : Nat} (hd : decode (dC D) pc = .ok (.ifCond .ge off, 3)) (ht : (pc : Int) + off = (tgt : Int)) (hp : pc + 3 = pc') (kt : Cmp C D Z tgt ls st A) (kf : Cmp C D Z pc' ls st B) : Cmp C D Z pc ls (.int x :: st) (if 0 ≤ x then A else B) := by
  subst hp
  intro w r w' hm
  by_cases hc : 0 ≤ x
  · rw [if_pos hc] at hm
    obtain ⟨h1, h2⟩ := kt w r w' hm
    refine ⟨h1, fun X G hC hF H locs lsA cells slots hS hl => ?_⟩
    exact lv_if_ge G.1 G.2.1 hd ht (fun h => h2 X G hC hF H locs lsA cells slots hS hl) (fun h => absurd hc h)
  · rw [if_neg hc] at hm
    obtain ⟨h1, h2⟩ := kf w r w' hm
    refine ⟨h1, fun X G hC hF H locs lsA cells slots hS hl => ?_⟩
    exact lv_if_ge G.1 G.2.1 hd ht (fun h => absurd h hc) (fun h => h2 X G hC hF H locs lsA cells slots hS hl)

theorem C_icmp_gt {x y : Int32} {off : Int} {tgt : Nat} (hd : decode (dC D) pc = .ok (.if_icmp .gt off, 3)) (ht : (pc : Int) + off = (tgt : Int)) (hp : pc + 3 = pc') (kt : Cmp C D Z tgt ls st A) (kf : Cmp C D Z pc' ls st B) : Cmp C D Z pc ls (.int y :: .int x :: st) (if y < x then A else B) := by
  subst hp
  intro w r w' hm
  by_cases hc : y < x
  · rw [if_pos hc] at hm
    obtain ⟨h1, h2⟩ := kt w r w' hm
    refine ⟨h1, fun X G hC hF H locs lsA cells slots hS hl => ?_⟩
    exact lv_icmp_gt G.1 G.2.1 hd ht (fun h => h2 X G hC hF H locs lsA cells slots hS hl) (fun h => absurd hc h)
  · rw [if_neg hc] at hm
    obtain ⟨h1, h2⟩ := kf w r w' hm
    refine ⟨h1, fun X G hC hF H locs lsA cells slots hS hl => ?_⟩
    exact lv_icmp_gt G.1 G.2.1 hd ht (fun h => absurd h hc) (fun h => h2 X G hC hF H locs lsA cells slots hS hl)

theorem C_if_gt {x : Int32} {off : Int} {tgt : Nat} (hd : decode (dC D) pc = .ok (.ifCond .gt off, 3)) (ht : (pc : Int) + off = (tgt : Int)) (hp : pc + 3 = pc') (kt : Cmp C D Z tgt ls st A) (kf : Cmp C D Z pc' ls st B) : Cmp C D Z pc ls (.int x :: st) (if 0 < x then A else B) := by
  subst hp
  intro w r w' hm
  by_cases hc : 0 < x
  · rw [if_pos hc] at hm
    obtain ⟨h1, h2⟩ := kt w r w' hm
    refine ⟨h1, fun X G hC hF H locs lsA cells slots hS hl => ?_⟩
    exact lv_if_gt G.1 G.2.1 hd ht (fun h => h2 X G hC hF H locs lsA cells slots hS hl) (fun h => absurd hc h)
  · rw [if_neg hc] at hm
    obtain ⟨h1, h2⟩ := kf w r w' hm
    refine ⟨h1, fun X G hC hF H locs lsA cells slots hS hl => ?_⟩
    exact lv_if_gt G.1 G.2.1 hd ht (fun h => absurd h hc) (fun h => h2 X G hC hF H locs lsA cells slots hS hl)

theorem C_icmp_le {x y : Int32} {off : Int} {tgt : Nat} (hd : decode (dC D) pc = .ok (.if_icmp .le off, 3)) (ht : (pc : Int) + off = (tgt : Int)) (hp : pc + 3 = pc') (kt : Cmp C D Z tgt ls st A) (kf : Cmp C D Z pc' ls st B) : Cmp C D Z pc ls (.int y :: .int x :: st) (if x ≤ y then A else B) := by
  subst hp
  intro w r w' hm
  by_cases hc : x ≤ y
  · rw [if_pos hc] at hm
    obtain ⟨h1, h2⟩ := kt w r w' hm
    refine ⟨h1, fun X G hC hF H locs lsA cells slots hS hl => ?_⟩
    exact lv_icmp_le G.1 G.2.1 hd ht (fun h => h2 X G hC hF H locs lsA cells slots hS hl) (fun h => absurd hc h)
  · rw [if_neg hc] at hm
    obtain ⟨h1, h2⟩ := kf w r w' hm
    refine ⟨h1, fun X G hC hF H locs lsA cells slots hS hl => ?_⟩
    exact lv_icmp_le G.1 G.2.1 hd ht (fun h => absurd h hc) (fun h => h2 X G hC hF H locs lsA cells slots hS hl)

theorem C_if_le {x : Int32} {off : Int} {tgt : Nat} (hd : decode (dC D) pc = .ok (.ifCond .le off, 3)) (ht : (pc : Int) + off = (tgt : Int)) (hp : pc + 3 = pc') (kt : Cmp C D Z tgt ls st A) (kf : Cmp C D Z pc' ls st B) : Cmp C D Z pc ls (.int x :: st) (if x ≤ 0 then A else B) := by
  subst hp
  intro w r w' hm
  by_cases hc : x ≤ 0
  · rw [if_pos hc] at hm
    obtain ⟨h1, h2⟩ := kt w r w' hm
    refine ⟨h1, fun X G hC hF H locs lsA cells slots hS hl => ?_⟩
    exact lv_if_le G.1 G.2.1 hd ht (fun h => h2 X G hC hF H locs lsA cells slots hS hl) (fun h => absurd hc h)
  · rw [if_neg hc] at hm
    obtain ⟨h1, h2⟩ := kf w r w' hm
    refine ⟨h1, fun X G hC hF H locs lsA cells slots hS hl => ?_⟩
    exact lv_if_le G.1 G.2.1 hd ht (fun h => absurd h hc) (fun h => h2 X G hC hF H locs lsA cells slots hS hl)

/-- one case of a table; the others know that it isn't that one -/
theorem C_tcase {x c : Int32} (ci : Int) (hci : c.toInt = ci) {dflt lo hi : Int} {offs : Array Int} {len : Nat} {off : Int} {tgt : Nat} (hd : decode (dC D) pc = .ok (.tableswitch dflt lo hi offs, len)) (h1 : ¬ ci < lo) (h2 : ¬ hi < ci) (ho : offs[(ci - lo).toNat]? = some off) (ht : (pc : Int) + off = (tgt : Int))
    (kt : Cmp C D Z tgt ls st A) (kf : ¬ x.toInt = ci → Cmp C D Z pc ls (.int x :: st) B) : Cmp C D Z pc ls (.int x :: st) (if x = c then A else B) := by
  by_cases hc : x = c
  · rw [if_pos hc]
    subst hc
    rw [← hci] at h1 h2 ho
    exact C_pure (fun X G H locs lsA cells slots Q hl kk => lv_tableIn G.1 G.2.1 hd h1 h2 ho ht (kk lsA hl)) kt
  · rw [if_neg hc]
    exact kf (fun h => hc (Int32.toInt_inj.mp (h.trans hci.symm)))
theorem C_tdef {x : Int32} {dflt lo hi : Int} {offs : Array Int} {len : Nat} {tgt : Nat} (hd : decode (dC D) pc = .ok (.tableswitch dflt lo hi offs, len)) (h : x.toInt < lo ∨ hi < x.toInt) (ht : (pc : Int) + dflt = (tgt : Int)) (kt : Cmp C D Z tgt ls st A) : Cmp C D Z pc ls (.int x :: st) A :=
  C_pure (fun X G H locs lsA cells slots Q hl kk => lv_tableOut G.1 G.2.1 hd h ht (kk lsA hl)) kt
theorem C_lcase {x c : Int32} (ci : Int) (hci : c.toInt = ci) {dflt : Int} {ps : Array (Int × Int)} {len : Nat} {off : Int} {tgt : Nat} (hd : decode (dC D) pc = .ok (.lookupswitch dflt ps, len)) (hs : (ps.toList.zip (ps.toList.drop 1)).all (fun (a, next) => a.1 < next.1) = true) (ho : Op.lookupswitch.offset ps.toList dflt ci = off) (ht : (pc : Int) + off = (tgt : Int))
    (kt : Cmp C D Z tgt ls st A) (kf : ¬ x.toInt = ci → Cmp C D Z pc ls (.int x :: st) B) : Cmp C D Z pc ls (.int x :: st) (if x = c then A else B) := by
  by_cases hc : x = c
  · rw [if_pos hc]
    subst hc
    rw [← hci] at ho
    exact C_pure (fun X G H locs lsA cells slots Q hl kk => lv_lookup G.1 G.2.1 hd hs ho ht (kk lsA hl)) kt
  · rw [if_neg hc]
    exact kf (fun h => hc (Int32.toInt_inj.mp (h.trans hci.symm)))
theorem C_ldef {x : Int32} {dflt : Int} {ps : Array (Int × Int)} {len : Nat} {tgt : Nat} (hd : decode (dC D) pc = .ok (.lookupswitch dflt ps, len)) (hs : (ps.toList.zip (ps.toList.drop 1)).all (fun (a, next) => a.1 < next.1) = true) (ho : Op.lookupswitch.offset ps.toList dflt x.toInt = dflt) (ht : (pc : Int) + dflt = (tgt : Int)) (kt : Cmp C D Z tgt ls st A) : Cmp C D Z pc ls (.int x :: st) A :=
  C_pure (fun X G H locs lsA cells slots Q hl kk => lv_lookup G.1 G.2.1 hd hs ho ht (kk lsA hl)) kt
end RulesA

section RulesR
variable {C : KX} {D : MD} {pc : Nat} {ls : List (Nat × Value)}
theorem fit_end {X : CX} {w : Wd} {H : Heap} {locs : List Loc} {cells slots : Nat} (hS : Stb X w H locs cells slots) (hF : Fit X w) : cells ≤ (xR X).cells ∧ slots ≤ (xR X).slots := by
  obtain ⟨-, -, -, h1, h2⟩ := hS
  obtain ⟨h3, h4⟩ := hF
  omega
def rvI (v : Int32) : Option Value := some (.int v)
def rvL (v : Int64) : Option Value := some (.long v)
def rvV (_ : Unit) : Option Value := none
def rvR (b : Nat) (p : Nat) : Option Value := some (.ref (b + p))
theorem C_iret {v : Int32} (hr : dR D = some .int) (hd : decode (dC D) pc = .ok (.ireturn, 1)) : Cmp C D (QM rvI) pc ls [.int v] (mp v) := by
  intro w r w' hm
  cases hm
  refine ⟨⟨Nat.le_refl _, Nat.le_refl _⟩, fun X G hC hF H locs lsA cells slots hS hl => ?_⟩
  obtain ⟨h1, h2⟩ := fit_end hS hF
  refine W.widen h1 h2 ?_
  exact W.iret G.1 G.2.1 (G.2.2.1.trans hr) (fun t ht _ => ⟨rfl, by rw [ht]; exact hS.1, fun q hq => by rw [ht]; exact hS.2.1 q hq⟩) hS.2.2.1 hd (hlocks := G.2.2.2.1)
theorem C_zret {v : Int32} (hr : dR D = some .boolean) (hd : decode (dC D) pc = .ok (.ireturn, 1)) : Cmp C D (QM rvI) pc ls [.int v] (rZ v) := by
  intro w r w' hm
  unfold rZ at hm
  by_cases hv : v = 0 ∨ v = 1
  · rw [if_pos hv] at hm
    cases hm
    refine ⟨⟨Nat.le_refl _, Nat.le_refl _⟩, fun X G hC hF H locs lsA cells slots hS hl => ?_⟩
    obtain ⟨h1, h2⟩ := fit_end hS hF
    refine W.widen h1 h2 ?_
    exact W.zret G.1 G.2.1 (G.2.2.1.trans hr) (by rcases hv with rfl | rfl <;> rfl) (fun t ht _ => ⟨rfl, by rw [ht]; exact hS.1, fun q hq => by rw [ht]; exact hS.2.1 q hq⟩) hS.2.2.1 hd (hlocks := G.2.2.2.1)
  · rw [if_neg hv] at hm
    cases hm
theorem C_lret {v : Int64} (hr : dR D = some .long) (hd : decode (dC D) pc = .ok (.lreturn, 1)) : Cmp C D (QM rvL) pc ls [.long v] (mp v) := by
  intro w r w' hm
  cases hm
  refine ⟨⟨Nat.le_refl _, Nat.le_refl _⟩, fun X G hC hF H locs lsA cells slots hS hl => ?_⟩
  obtain ⟨h1, h2⟩ := fit_end hS hF
  refine W.widen h1 h2 ?_
  exact W.lret G.1 G.2.1 (G.2.2.1.trans hr) (fun t ht _ => ⟨rfl, by rw [ht]; exact hS.1, fun q hq => by rw [ht]; exact hS.2.1 q hq⟩) hS.2.2.1 hd (hlocks := G.2.2.2.1)
theorem C_vret (hr : dR D = none) (hd : decode (dC D) pc = .ok (.return_, 1)) : Cmp C D (QM rvV) pc ls [] (mp ()) := by
  intro w r w' hm
  cases hm
  refine ⟨⟨Nat.le_refl _, Nat.le_refl _⟩, fun X G hC hF H locs lsA cells slots hS hl => ?_⟩
  obtain ⟨h1, h2⟩ := fit_end hS hF
  refine W.widen h1 h2 ?_
  exact W.vret G.1 G.2.1 (G.2.2.1.trans hr) (fun t ht _ => ⟨rfl, by rw [ht]; exact hS.1, fun q hq => by rw [ht]; exact hS.2.1 q hq⟩) hS.2.2.1 hd (hlocks := G.2.2.2.1)
theorem C_aret {v : Nat} {n : String} (hr : dR D = some (.object n)) (hd : decode (dC D) pc = .ok (.areturn, 1)) : Cmp C D (QM (rvR (kB C))) pc ls [.ref (kB C + v)] (mp v) := by
  intro w r w' hm
  cases hm
  refine ⟨⟨Nat.le_refl _, Nat.le_refl _⟩, fun X G hC hF H locs lsA cells slots hS hl => ?_⟩
  obtain ⟨h1, h2⟩ := fit_end hS hF
  refine W.widen h1 h2 ?_
  exact W.aret G.1 G.2.1 (G.2.2.1.trans hr) (Or.inl ⟨_, rfl⟩) (Or.inr ⟨_, rfl⟩) (fun t ht _ => ⟨rfl, by rw [ht]; exact hS.1, fun q hq => by rw [ht]; exact hS.2.1 q hq⟩) hS.2.2.1 hd (hlocks := G.2.2.2.1)
end RulesR
end
section
/-! ===== rules: fields, arrays, new cells ===== -/
theorem hat_i {C : KX} {w : Wd} {p n : Nat} {H : Heap} : Hat C w p (100, n) H ↔ H[kB C + p]? = some (vp_cell (kI C) (n, .inl (w.1 p))) := by simp [Hat]
theorem hat_j {C : KX} {w : Wd} {p n : Nat} {H : Heap} : Hat C w p (101, n) H ↔ H[kB C + p]? = some (vp_cell (kJ C) (n, .inr (.inl (w.2.1 p)))) := by simp [Hat]
theorem hat_z {C : KX} {w : Wd} {p n : Nat} {H : Heap} : Hat C w p (102, n) H ↔ H[kB C + p]? = some (vp_cell (kZ C) (n, .inl (w.1 p))) := by simp [Hat]
theorem hat_q {C : KX} {w : Wd} {p n : Nat} {H : Heap} : Hat C w p (103, n) H ↔ H[kB C + p]? = some (vp_cell (kH C) (n, .inr (.inr (.inr (.inr (fun k => (w.2.2.1 p k).map (fun q => kB C + q))))))) := by simp [Hat]
theorem hat_o {C : KX} {w : Wd} {p ci n : Nat} {H : Heap} (hc : ci < 100) : Hat C w p (ci, n) H ↔ t_OB (kB C + p) ((kD C).1 ci) n ((kD C).2 ci) H (fun k => fv C w p ci k) := by
  unfold Hat
  simp only [show ¬ ci = 100 by omega, show ¬ ci = 101 by omega, show ¬ ci = 102 by omega, show ¬ ci = 103 by omega, if_false]
theorem alen_at {w : Wd} {kd p i : Nat} (h : i < alen w kd p) : (wS w)[p]? = some (kd, alen w kd p) := by
  unfold alen at h ⊢
  cases hp : (wS w)[p]? with
  | none => rw [hp] at h; simp at h
  | some q =>
    rw [hp] at h
    simp only at h ⊢
    by_cases hk : q.1 = kd
    · rw [if_pos hk]; rw [← hk]
    · rw [if_neg hk] at h; omega
def FL (own : String) (idx ci k : Nat) (fin : Bool) : Prop := ∃ (Cn : String) (T : u_T) (ty : Nat → FieldType), vwCl[ci]? = some (Cn, T, nf ci) ∧ (∀ w ∈ u_ws Cn T (nf ci), w ∈ TB) ∧ k < nf ci ∧ Cond.fieldLink own idx Cn (T k).2.1 (T k).2.2.1 ∈ TB ∧ (T k).1 = Cn ∧
  (∀ k, k < nf ci → parseFieldDescriptor (T k).2.2.1 = some (ty k)) ∧ (∀ a, a < nf ci → ∀ b, b < nf ci → a ≠ b → (T a).2.1 ≠ (T b).2.1) ∧ (rk ci k = true → (∃ n, ty k = .object n) ∨ ∃ t, ty k = .array t) ∧ (rk ci k = false → ty k = .int) ∧ (T k).2.2.2 = fin
theorem cl_lt {ci : Nat} {q : vw_C} (h : vwCl[ci]? = some q) : ci < 8 := by
  have := (List.getElem?_eq_some_iff.mp h).1
  exact this
section RulesM
variable {α : Type} {C : KX} {D : MD} {Z : ZT α} {pc pc' : Nat} {ls : List (Nat × Value)} {st : List Value}
theorem get_any {X : CX} {w : Wd} {H : Heap} {locs : List Loc} {cells slots idx ci k p : Nat} {fin : Bool} {Q : State → Prop} {lsA : Array Slot} (G : CGood X D) (hS : Stb X w H locs cells slots) (hL : FL (dO D) idx ci k fin) (hd : decode (dC D) pc = .ok (.getfield idx, 3)) (hp : (wS w)[p]? = some (ci, nf ci))
    (kk : WX X H locs cells slots Q (F0 (xM X) (pc + 3) lsA (fv (xC X) w p ci k :: st))) : WX X H locs cells slots Q (F0 (xM X) pc lsA (.ref (kB (xC X) + p) :: st)) := by
  obtain ⟨Cn, T, ty, hc, hin, hk, hl, ho, hty, hnm, -⟩ := hL
  obtain ⟨hx, hb, hr, hlk, hml, hown, hts, hK, hn, -⟩ := G
  have hci := cl_lt hc
  obtain ⟨cell, q1, q2, q3, q4⟩ := (hat_o (by omega)).mp (hS.1.2 p _ hp)
  obtain ⟨hSl, hfc, kC, hkC, hkind⟩ := hK.1.1 ci _ hc
  obtain ⟨cf, kf, fi, f, hi, hsl⟩ := hSl k hk
  refine W.getf hx hb hown (hts _ hl) (by rw [← ho]; exact hi) (u_facts hfc hkC (u_lays hts hin hk) hi).1 q1 (by rw [q3]; exact fun h => by cases h) (v := fv (xC X) w p ci k) ?_ rfl rfl hd kk
  rw [hsl, q4 k hk]
theorem C_getI {idx ci k p : Nat} {fin : Bool} {f : Int32 → Mo α} (hL : FL (dO D) idx ci k fin) (hr : rk ci k = false) (hd : decode (dC D) pc = .ok (.getfield idx, 3)) (hp : pc + 3 = pc') (kk : ∀ v : Int32, Cmp C D Z pc' ls (.int v :: st) (f v)) : Cmp C D Z pc ls (.ref (kB C + p) :: st) (mb (gI ci k p) f) := by
  subst hp
  intro w r w' hm
  unfold mb gI at hm
  by_cases h0 : (wS w)[p]? = some (ci, nf ci)
  · rw [if_pos h0] at hm
    obtain ⟨h1, h2⟩ := kk _ w r w' hm
    refine ⟨h1, fun X G hC hF H locs lsA cells slots hS hl => ?_⟩
    subst hC
    refine get_any G hS hL hd h0 ?_
    rw [show fv (xC X) w p ci k = .int (w.1 p k) by unfold fv; rw [if_neg (by rw [hr]; decide)]]
    exact h2 X G rfl hF H locs lsA cells slots hS hl
  · rw [if_neg h0] at hm
    cases hm
theorem C_getR {idx ci k p : Nat} {fin : Bool} {f : Nat → Mo α} (hL : FL (dO D) idx ci k fin) (hr : rk ci k = true) (hd : decode (dC D) pc = .ok (.getfield idx, 3)) (hp : pc + 3 = pc') (kk : ∀ v : Nat, Cmp C D Z pc' ls (.ref (kB C + v) :: st) (f v)) : Cmp C D Z pc ls (.ref (kB C + p) :: st) (mb (gR ci k p) f) := by
  subst hp
  intro w r w' hm
  unfold mb gR at hm
  by_cases h0 : (wS w)[p]? = some (ci, nf ci)
  · rw [if_pos h0] at hm
    cases hq : w.2.2.1 p k with
    | none => rw [hq] at hm; cases hm
    | some q =>
      rw [hq] at hm
      obtain ⟨h1, h2⟩ := kk _ w r w' hm
      refine ⟨h1, fun X G hC hF H locs lsA cells slots hS hl => ?_⟩
      subst hC
      refine get_any G hS hL hd h0 ?_
      rw [show fv (xC X) w p ci k = .ref (kB (xC X) + q) by unfold fv; rw [if_pos hr, hq]; rfl]
      exact h2 X G rfl hF H locs lsA cells slots hS hl
  · rw [if_neg h0] at hm
    cases hm
theorem C_getQ {idx ci k p : Nat} {fin : Bool} {f : Option Nat → Mo α} (hL : FL (dO D) idx ci k fin) (hr : rk ci k = true) (hd : decode (dC D) pc = .ok (.getfield idx, 3)) (hp : pc + 3 = pc') (kn : Cmp C D Z pc' ls (.null :: st) (f none)) (kk : ∀ v : Nat, Cmp C D Z pc' ls (.ref (kB C + v) :: st) (f (some v))) : Cmp C D Z pc ls (.ref (kB C + p) :: st) (mb (gQ ci k p) f) := by
  subst hp
  intro w r w' hm
  unfold mb gQ at hm
  by_cases h0 : (wS w)[p]? = some (ci, nf ci)
  · rw [if_pos h0] at hm
    cases hq : w.2.2.1 p k with
    | none =>
      rw [hq] at hm
      obtain ⟨h1, h2⟩ := kn w r w' hm
      refine ⟨h1, fun X G hC hF H locs lsA cells slots hS hl => ?_⟩
      subst hC
      refine get_any G hS hL hd h0 ?_
      rw [show fv (xC X) w p ci k = .null by unfold fv; rw [if_pos hr, hq]; rfl]
      exact h2 X G rfl hF H locs lsA cells slots hS hl
    | some q =>
      rw [hq] at hm
      obtain ⟨h1, h2⟩ := kk _ w r w' hm
      refine ⟨h1, fun X G hC hF H locs lsA cells slots hS hl => ?_⟩
      subst hC
      refine get_any G hS hL hd h0 ?_
      rw [show fv (xC X) w p ci k = .ref (kB (xC X) + q) by unfold fv; rw [if_pos hr, hq]; rfl]
      exact h2 X G rfl hF H locs lsA cells slots hS hl
  · rw [if_neg h0] at hm
    cases hm
theorem stb_set {X : CX} {w w' : Wd} {H H1 : Heap} {locs : List Loc} {cells slots p s1 : Nat} (hS : Stb X w H locs cells slots) (hw : wS w' = wS w) (hH : Hld (xC X) w' H1) (ho : ∀ a : Nat, a ≠ kB (xC X) + p → H1[a]? = H[a]?) : Stb X w' H1 (locs ++ [⟨kB (xC X) + p, s1⟩]) cells slots := by
  obtain ⟨h1, h2, h3, h4, h5⟩ := hS
  refine ⟨hH, fun q hq => by rw [ho q (by omega)]; exact h2 q hq, fun q hq => ?_, ?_, ?_⟩
  · rcases List.mem_append.mp hq with h | h
    · exact h3 q h
    · rw [List.mem_singleton.mp h]; exact Nat.le_add_right _ _
  · rw [h4]; unfold cnt; rw [hw]
  · rw [h5]; unfold slt; rw [hw]
theorem put_any {X : CX} {w w1 : Wd} {H : Heap} {locs : List Loc} {cells slots idx ci k p : Nat} {fin : Bool} {Q : State → Prop} {lsA : Array Slot} {v : Value} (G : CGood X D) (hS : Stb X w H locs cells slots) (hL : FL (dO D) idx ci k fin) (hfin : fin = false ∨ (dM D = "<init>" ∧ (vwCl[ci]?).map (fun q => q.1) = some (dO D))) (hd : decode (dC D) pc = .ok (.putfield idx, 3)) (hp : (wS w)[p]? = some (ci, nf ci)) (hw : wS w1 = wS w)
    (hv : fv (xC X) w1 p ci k = v) (hvk : if rk ci k = true then ∃ a, v = .ref a else ∃ i, v = .int i) (hs : ∀ j, j ≠ k → fv (xC X) w1 p ci j = fv (xC X) w p ci j) (e1 : ∀ x, x ≠ p → w1.1 x = w.1 x) (e2 : ∀ x, x ≠ p → w1.2.1 x = w.2.1 x) (e3 : ∀ x, x ≠ p → w1.2.2.1 x = w.2.2.1 x)
    (kk : ∀ (H1 : Heap) (locs1 : List Loc), Stb X w1 H1 locs1 cells slots → WX X H1 locs1 cells slots Q (F0 (xM X) (pc + 3) lsA st)) : WX X H locs cells slots Q (F0 (xM X) pc lsA (v :: .ref (kB (xC X) + p) :: st)) := by
  obtain ⟨Cn, T, ty, hc, hin, hk, hl, ho, hty, hnm, ht1, ht2, hf⟩ := hL
  obtain ⟨hx, hb, hr, hlk, hml, hown, hts, hK, hn, -⟩ := G
  have hci := cl_lt hc
  have hap := va_apart (own := Cn) hts hin ty hty hnm hK.1 hc
  obtain ⟨cell, q1, q2, q3, q4⟩ := (hat_o (by omega)).mp (hS.1.2 p _ hp)
  obtain ⟨hSl, hfc, kC, hkC, hkind⟩ := hK.1.1 ci _ hc
  obtain ⟨cf, kf, fi, f, hi, hsl⟩ := hSl k hk
  have hlay := hts _ (hin _ (u_in_lay hk))
  unfold u_lay at hlay
  have hst := (u_facts hfc hkC (u_lays hts hin hk) hi).1
  have hnf : narrow (ty k) v = v ∧ fits (ty k) v = true := by
    cases hrk : rk ci k with
    | true =>
      rw [if_pos hrk] at hvk
      obtain ⟨a, rfl⟩ := hvk
      rcases ht1 hrk with ⟨n, e⟩ | ⟨t, e⟩ <;> rw [e] <;> exact ⟨rfl, rfl⟩
    | false =>
      rw [if_neg (by rw [hrk]; decide)] at hvk
      obtain ⟨i, rfl⟩ := hvk
      rw [ht2 hrk]
      exact ⟨rfl, rfl⟩
  have fin1 : ∀ (H1 : Heap), H1[kB (xC X) + p]? = some (cell.setSlot f.slot v) → H1.size = H.size → (∀ q, q ≠ kB (xC X) + p → H1[q]? = H[q]?) → WX X H1 (locs ++ [⟨kB (xC X) + p, f.slot⟩]) cells slots Q (F0 (xM X) (pc + 3) lsA st) := by
    intro H1 g1 g2 g3
    refine kk H1 _ (stb_set hS hw ?_ g3)
    refine hS.1.set hp hw g2 g3 e1 e2 e3 ((hat_o (by omega)).mpr ?_)
    rw [hsl] at g1
    refine t_OB.to (V := updV (fun j => fv (xC X) w p ci j) k v) ⟨_, g1, q2, q3, t_set q4 hap hk v⟩ (fun j _ => ?_)
    unfold updV
    by_cases hj : j = k
    · subst hj; simp [hv]
    · simp only [hj, if_false]; exact (hs j hj).symm
  cases hfb : fin with
  | false =>
    rw [if_neg (by rw [hf, hfb]; decide)] at hlay
    have h6 := u_store hfc hkC hkind hlay hi (hty k hk) hnf.1 hnf.2
    refine W.putK hx hb (f := f) ⟨hown, hts _ hl, ⟨_, _, _, by rw [← ho]; exact hi⟩, hst⟩ (by rw [q2]; exact h6) q1 q3 (by rw [hsl]; exact k2_hasslot (q4 k hk)) rfl rfl hd fun H' g1 g2 g3 => fin1 H' g1 g2 g3
  | true =>
    have hdecl : (T k).1 = dO D := by
      rcases hfin with h | h
      · rw [hfb] at h; cases h
      · have h2 := h.2
        rw [hc] at h2
        exact ho.trans (Option.some.inj h2)
    have hin2 : (xT X).name = "<init>" := by
      rcases hfin with h | h
      · rw [hfb] at h; cases h
      · rw [hn]; exact h.1
    rw [if_pos (by rw [hf, hfb])] at hlay
    have hcf : (xM X).cls = cf := by
      obtain ⟨_, _, c', _, _, _, -, -, hf', -, -, -, hown2, -⟩ := Cond.laysFinal_spec hlay
      have e1 : c' = cf := by have := hi.symm.trans hf'; simp at this; exact this.1.symm
      rw [hdecl] at hown2
      rw [← e1]; exact Option.some.inj (hown.symm.trans hown2)
    have h6 := u_fits hfc hkC hkind (Or.inr hlay) hi (hty k hk) hnf.1 hnf.2
    refine W.putFinK hx hb hown (hts _ hl) (by rw [← ho]; exact hi) hst hcf hin2 (by rw [q2]; exact h6) q1 q3 (by rw [hsl]; exact k2_hasslot (q4 k hk)) rfl rfl hd fun H' g1 g2 g3 => fin1 H' g1 g2 g3
theorem C_putI {idx ci k p : Nat} {v : Int32} {f : Unit → Mo α} (hL : FL (dO D) idx ci k false) (hr : rk ci k = false) (hd : decode (dC D) pc = .ok (.putfield idx, 3)) (hp : pc + 3 = pc') (kk : Cmp C D Z pc' ls st (f ())) : Cmp C D Z pc ls (.int v :: .ref (kB C + p) :: st) (mb (sI ci k p v) f) := by
  subst hp
  intro w r w' hm
  unfold mb sI at hm
  by_cases h0 : (wS w)[p]? = some (ci, nf ci)
  · rw [if_pos h0] at hm
    obtain ⟨h1, h2⟩ := kk _ r w' hm
    refine ⟨h1, fun X G hC hF H locs lsA cells slots hS hl => ?_⟩
    subst hC
    refine put_any (w1 := (u2 w.1 p k v, w.2)) (v := .int v) G hS hL (Or.inl rfl) hd h0 rfl ?_ ?_ ?_ ?_ (fun _ _ => rfl) (fun _ _ => rfl) ?_
    · unfold fv; rw [if_neg (by rw [hr]; decide)]; simp [u2]
    · rw [if_neg (by rw [hr]; decide)]; exact ⟨_, rfl⟩
    · intro j hj; unfold fv; simp [u2, hj]
    · intro x hx; funext j; simp [u2, hx]
    · intro H1 locs1 hS1
      exact h2 X G rfl hF H1 locs1 lsA cells slots hS1 hl
  · rw [if_neg h0] at hm
    cases hm
theorem C_putR {idx ci k p q : Nat} {fin : Bool} {f : Unit → Mo α} (hL : FL (dO D) idx ci k fin) (hfin : fin = false ∨ (dM D = "<init>" ∧ (vwCl[ci]?).map (fun q => q.1) = some (dO D))) (hr : rk ci k = true) (hd : decode (dC D) pc = .ok (.putfield idx, 3)) (hp : pc + 3 = pc') (kk : Cmp C D Z pc' ls st (f ())) : Cmp C D Z pc ls (.ref (kB C + q) :: .ref (kB C + p) :: st) (mb (sR ci k p q) f) := by
  subst hp
  intro w r w' hm
  unfold mb sR at hm
  by_cases h0 : (wS w)[p]? = some (ci, nf ci)
  · rw [if_pos h0] at hm
    obtain ⟨h1, h2⟩ := kk _ r w' hm
    refine ⟨h1, fun X G hC hF H locs lsA cells slots hS hl => ?_⟩
    subst hC
    refine put_any (w1 := (w.1, w.2.1, u2 w.2.2.1 p k (some q), w.2.2.2)) (v := .ref (kB (xC X) + q)) G hS hL hfin hd h0 rfl ?_ ?_ ?_ (fun _ _ => rfl) (fun _ _ => rfl) ?_ ?_
    · unfold fv; rw [if_pos hr]; simp [u2, rfv, va_rf]
    · rw [if_pos hr]; exact ⟨_, rfl⟩
    · intro j hj; unfold fv; simp [u2, hj]
    · intro x hx; funext j; simp [u2, hx]
    · intro H1 locs1 hS1
      exact h2 X G rfl hF H1 locs1 lsA cells slots hS1 hl
  · rw [if_neg h0] at hm
    cases hm
end RulesM
end
section
/-! ===== rules: arrays, new cells, calls ===== -/
theorem stb_new {X : CX} {w : Wd} {H H1 : Heap} {locs : List Loc} {cells slots : Nat} {q : Nat × Nat} (hS : Stb X w H locs cells slots) (hz : H1.size = H.size + 1) (ho : ∀ a, a < H.size → H1[a]? = H[a]?) (hn : Hat (xC X) (wNew w q) (cnt w) q H1) : Stb X (wNew w q) H1 locs (cells + 1) (slots + q.2) := by
  obtain ⟨h1, h2, h3, h4, h5⟩ := hS
  have h6 := h1.1
  refine ⟨h1.push hz ho hn, fun a ha => by rw [ho a (by omega)]; exact h2 a ha, h3, ?_, ?_⟩
  · show x0 X + (cells + 1) = (w.2.2.2 ++ [q]).length
    have : x0 X + cells = w.2.2.2.length := h4
    simp; omega
  · show x1 X + (slots + q.2) = ((w.2.2.2 ++ [q]).map (fun q => q.2)).sum
    have : x1 X + slots = (w.2.2.2.map (fun q => q.2)).sum := h5
    simp; omega
theorem cnt_new (w : Wd) (q : Nat × Nat) : cnt (wNew w q) = cnt w + 1 := by show (w.2.2.2 ++ [q]).length = _; simp [cnt]
theorem slt_new (w : Wd) (q : Nat × Nat) : slt (wNew w q) = slt w + q.2 := by show ((w.2.2.2 ++ [q]).map (fun q => q.2)).sum = _; simp [slt]
theorem fit_new {X : CX} {w w' : Wd} {H : Heap} {locs : List Loc} {cells slots : Nat} {q : Nat × Nat} (hS : Stb X w H locs cells slots) (hF : Fit X w') (hm : cnt (wNew w q) ≤ cnt w' ∧ slt (wNew w q) ≤ slt w') : cells + 1 ≤ (xR X).cells ∧ slots + q.2 ≤ (xR X).slots := by
  obtain ⟨-, -, -, h4, h5⟩ := hS
  obtain ⟨h6, h7⟩ := hF
  rw [cnt_new, slt_new] at hm
  omega
theorem nin {i : Int32} {n : Nat} (h : ¬ i < 0 ∧ i.toNatClampNeg < n) : ¬ (i < 0 ∨ n ≤ i.toNatClampNeg) := fun h1 => h1.elim h.1 (Nat.not_le.mpr h.2)
section RulesN
variable {α : Type} {C : KX} {D : MD} {Z : ZT α} {pc pc' : Nat} {ls : List (Nat × Value)} {st : List Value}
theorem C_aI {p : Nat} {i : Int32} {f : Int32 → Mo α} (hd : decode (dC D) pc = .ok (.iaload, 1)) (hp : pc + 1 = pc') (kk : ∀ v : Int32, Cmp C D Z pc' ls (.int v :: st) (f v)) : Cmp C D Z pc ls (.int i :: .ref (kB C + p) :: st) (mb (aI p i) f) := by
  subst hp
  intro w r w' hm
  unfold mb aI at hm
  by_cases h0 : ¬ i < 0 ∧ i.toNatClampNeg < alen w 100 p
  · rw [if_pos h0] at hm
    obtain ⟨h1, h2⟩ := kk _ w r w' hm
    refine ⟨h1, fun X G hC hF H locs lsA cells slots hS hl => ?_⟩
    subst hC
    have hat := hat_i.mp (hS.1.2 p _ (alen_at h0.2))
    refine W.iald (v := .int (w.1 p i.toNatClampNeg)) G.1 G.2.1 hat ((G.2.2.2.2.2.2.2.1.1.2 0 _ rfl).1 _ (fun j => .int (w.1 p j))) (fun q => by cases q) ?_ ?_ rfl rfl hd (h2 X G rfl hF H locs lsA cells slots hS hl)
    · show ¬ (i < 0 ∨ (arrV _ _ _).slots.size ≤ _)
      rw [arrV_size]; exact nin h0
    · show (arrV _ _ _).slots[_]? = _
      rw [arrV_read _ _ h0.2]
  · rw [if_neg h0] at hm
    cases hm
theorem C_aJ {p : Nat} {i : Int32} {f : Int64 → Mo α} (hd : decode (dC D) pc = .ok (.laload, 1)) (hp : pc + 1 = pc') (kk : ∀ v : Int64, Cmp C D Z pc' ls (.long v :: st) (f v)) : Cmp C D Z pc ls (.int i :: .ref (kB C + p) :: st) (mb (aJ p i) f) := by
  subst hp
  intro w r w' hm
  unfold mb aJ at hm
  by_cases h0 : ¬ i < 0 ∧ i.toNatClampNeg < alen w 101 p
  · rw [if_pos h0] at hm
    obtain ⟨h1, h2⟩ := kk _ w r w' hm
    refine ⟨h1, fun X G hC hF H locs lsA cells slots hS hl => ?_⟩
    subst hC
    have hat := hat_j.mp (hS.1.2 p _ (alen_at h0.2))
    refine W.lald (v := .long (w.2.1 p i.toNatClampNeg)) G.1 G.2.1 hat ((G.2.2.2.2.2.2.2.1.1.2 1 _ rfl).1 _ (fun j => .long (w.2.1 p j))) (fun q => by cases q) ?_ ?_ rfl rfl hd (h2 X G rfl hF H locs lsA cells slots hS hl)
    · show ¬ (i < 0 ∨ (arrV _ _ _).slots.size ≤ _)
      rw [arrV_size]; exact nin h0
    · show (arrV _ _ _).slots[_]? = _
      rw [arrV_read _ _ h0.2]
  · rw [if_neg h0] at hm
    cases hm
theorem C_aZ {p : Nat} {i : Int32} {f : Int32 → Mo α} (hd : decode (dC D) pc = .ok (.baload, 1)) (hp : pc + 1 = pc') (kk : ∀ v : Int32, Cmp C D Z pc' ls (.int v :: st) (f v)) : Cmp C D Z pc ls (.int i :: .ref (kB C + p) :: st) (mb (aZ p i) f) := by
  subst hp
  intro w r w' hm
  unfold mb aZ at hm
  by_cases h0 : ¬ i < 0 ∧ i.toNatClampNeg < alen w 102 p
  · rw [if_pos h0] at hm
    obtain ⟨h1, h2⟩ := kk _ w r w' hm
    refine ⟨h1, fun X G hC hF H locs lsA cells slots hS hl => ?_⟩
    subst hC
    have hat := hat_z.mp (hS.1.2 p _ (alen_at h0.2))
    refine W.zald (v := .int (w.1 p i.toNatClampNeg)) G.1 G.2.1 hat ((G.2.2.2.2.2.2.2.1.1.2 2 _ rfl).1 _ (fun j => .int (w.1 p j))) (fun q => by cases q) ?_ ?_ rfl rfl hd (h2 X G rfl hF H locs lsA cells slots hS hl)
    · show ¬ (i < 0 ∨ (arrV _ _ _).slots.size ≤ _)
      rw [arrV_size]; exact nin h0
    · show (arrV _ _ _).slots[_]? = _
      rw [arrV_read _ _ h0.2]
  · rw [if_neg h0] at hm
    cases hm
theorem C_aQ {p : Nat} {i : Int32} {f : Option Nat → Mo α} (hd : decode (dC D) pc = .ok (.aaload, 1)) (hp : pc + 1 = pc') (kn : Cmp C D Z pc' ls (.null :: st) (f none)) (kk : ∀ v : Nat, Cmp C D Z pc' ls (.ref (kB C + v) :: st) (f (some v))) : Cmp C D Z pc ls (.int i :: .ref (kB C + p) :: st) (mb (aQ p i) f) := by
  subst hp
  intro w r w' hm
  unfold mb aQ at hm
  by_cases h0 : ¬ i < 0 ∧ i.toNatClampNeg < alen w 103 p
  · rw [if_pos h0] at hm
    have key : ∀ (X : CX) (v : Value), xC X = C → CGood X D → ∀ (H : Heap) (locs : List Loc) (lsA : Array Slot) (cells slots : Nat) (Q : State → Prop), Stb X w H locs cells slots → va_rf ((w.2.2.1 p i.toNatClampNeg).map (fun q => kB (xC X) + q)) = v → WX X H locs cells slots Q (F0 (xM X) (pc + 1) lsA (v :: st)) → WX X H locs cells slots Q (F0 (xM X) pc lsA (.int i :: .ref (kB (xC X) + p) :: st)) := by
      intro X v hC G H locs lsA cells slots Q hS hv k
      have hat := hat_q.mp (hS.1.2 p _ (alen_at h0.2))
      refine W.aald (v := v) (ty := .object RX1) G.1 G.2.1 hat ((G.2.2.2.2.2.2.2.1.1.2 3 _ rfl).1 _ (fun j => va_rf ((w.2.2.1 p j).map (fun q => kB (xC X) + q)))) rfl (fun q => by cases q) ?_ ?_ rfl rfl hd k
      · show ¬ (i < 0 ∨ (arrV _ _ _).slots.size ≤ _)
        rw [arrV_size]; exact nin h0
      · show (arrV _ _ _).slots[_]? = _
        rw [arrV_read _ _ h0.2, hv]
    cases hq : w.2.2.1 p i.toNatClampNeg with
    | none =>
      rw [hq] at hm
      obtain ⟨h1, h2⟩ := kn w r w' hm
      refine ⟨h1, fun X G hC hF H locs lsA cells slots hS hl => ?_⟩
      subst hC
      exact key X .null rfl G H locs lsA cells slots _ hS (by rw [hq]; rfl) (h2 X G rfl hF H locs lsA cells slots hS hl)
    | some q =>
      rw [hq] at hm
      obtain ⟨h1, h2⟩ := kk q w r w' hm
      refine ⟨h1, fun X G hC hF H locs lsA cells slots hS hl => ?_⟩
      subst hC
      exact key X (.ref (kB (xC X) + q)) rfl G H locs lsA cells slots _ hS (by rw [hq]; rfl) (h2 X G rfl hF H locs lsA cells slots hS hl)
  · rw [if_neg h0] at hm
    cases hm
theorem C_tI {p : Nat} {i v : Int32} {f : Unit → Mo α} (hd : decode (dC D) pc = .ok (.iastore, 1)) (hp : pc + 1 = pc') (kk : Cmp C D Z pc' ls st (f ())) : Cmp C D Z pc ls (.int v :: .int i :: .ref (kB C + p) :: st) (mb (tI p i v) f) := by
  subst hp
  intro w r w' hm
  unfold mb tI at hm
  by_cases h0 : ¬ i < 0 ∧ i.toNatClampNeg < alen w 100 p
  · rw [if_pos h0] at hm
    obtain ⟨h1, h2⟩ := kk _ r w' hm
    refine ⟨h1, fun X G hC hF H locs lsA cells slots hS hl => ?_⟩
    subst hC
    have hp := alen_at h0.2
    have hat := hat_i.mp (hS.1.2 p _ hp)
    refine W.iast G.1 G.2.1 hat ((G.2.2.2.2.2.2.2.1.1.2 0 _ rfl).1 _ (fun j => .int (w.1 p j))) (fun q => by cases q) ?_ rfl rfl hd fun H1 e z oq => ?_
    · show ¬ (i < 0 ∨ (arrV _ _ _).slots.size ≤ _)
      rw [arrV_size]; exact nin h0
    · refine h2 X G rfl hF H1 _ lsA cells slots (stb_set (w' := (u2 w.1 p i.toNatClampNeg v, w.2)) hS rfl (hS.1.set hp rfl z oq (fun x hx => by funext j; simp [u2, hx]) (fun _ _ => rfl) (fun _ _ => rfl) (hat_i.mpr ?_)) oq) hl
      rw [e, vp_cell_i, vp_cell_i, arrV_store]
      congr 2
      funext q
      by_cases hq : q = i.toNatClampNeg
      · subst hq; simp [updV, u2]
      · simp [updV, u2, hq]
  · rw [if_neg h0] at hm
    cases hm
theorem C_tZ {p : Nat} {i v : Int32} {f : Unit → Mo α} (hd : decode (dC D) pc = .ok (.bastore, 1)) (hp : pc + 1 = pc') (kk : Cmp C D Z pc' ls st (f ())) : Cmp C D Z pc ls (.int v :: .int i :: .ref (kB C + p) :: st) (mb (tZ p i v) f) := by
  subst hp
  intro w r w' hm
  unfold mb tZ at hm
  by_cases h0 : (¬ i < 0 ∧ i.toNatClampNeg < alen w 102 p) ∧ (v = 0 ∨ v = 1)
  · rw [if_pos h0] at hm
    obtain ⟨h1, h2⟩ := kk _ r w' hm
    refine ⟨h1, fun X G hC hF H locs lsA cells slots hS hl => ?_⟩
    subst hC
    have hp := alen_at h0.1.2
    have hat := hat_z.mp (hS.1.2 p _ hp)
    refine W.zast G.1 G.2.1 hat ((G.2.2.2.2.2.2.2.1.1.2 2 _ rfl).1 _ (fun j => .int (w.1 p j))) (fun q => by cases q) ?_ rfl rfl hd fun H1 e z oq => ?_
    · show ¬ (i < 0 ∨ (arrV _ _ _).slots.size ≤ _)
      rw [arrV_size]; exact nin h0.1
    · refine h2 X G rfl hF H1 _ lsA cells slots (stb_set (w' := (u2 w.1 p i.toNatClampNeg v, w.2)) hS rfl (hS.1.set hp rfl z oq (fun x hx => by funext j; simp [u2, hx]) (fun _ _ => rfl) (fun _ _ => rfl) (hat_z.mpr ?_)) oq) hl
      have hnv : narrow .boolean (.int v) = .int v := by rcases h0.2 with rfl | rfl <;> rfl
      rw [e, hnv, vp_cell_i, vp_cell_i, arrV_store]
      congr 2
      funext q
      by_cases hq : q = i.toNatClampNeg
      · subst hq; simp [updV, u2]
      · simp [updV, u2, hq]
  · rw [if_neg h0] at hm
    cases hm
theorem C_tJ {p : Nat} {i : Int32} {v : Int64} {f : Unit → Mo α} (hd : decode (dC D) pc = .ok (.lastore, 1)) (hp : pc + 1 = pc') (kk : Cmp C D Z pc' ls st (f ())) : Cmp C D Z pc ls (.long v :: .int i :: .ref (kB C + p) :: st) (mb (tJ p i v) f) := by
  subst hp
  intro w r w' hm
  unfold mb tJ at hm
  by_cases h0 : ¬ i < 0 ∧ i.toNatClampNeg < alen w 101 p
  · rw [if_pos h0] at hm
    obtain ⟨h1, h2⟩ := kk _ r w' hm
    refine ⟨h1, fun X G hC hF H locs lsA cells slots hS hl => ?_⟩
    subst hC
    have hp := alen_at h0.2
    have hat := hat_j.mp (hS.1.2 p _ hp)
    refine W.last G.1 G.2.1 hat ((G.2.2.2.2.2.2.2.1.1.2 1 _ rfl).1 _ (fun j => .long (w.2.1 p j))) (fun q => by cases q) ?_ rfl rfl hd fun H1 e z oq => ?_
    · show ¬ (i < 0 ∨ (arrV _ _ _).slots.size ≤ _)
      rw [arrV_size]; exact nin h0
    · refine h2 X G rfl hF H1 _ lsA cells slots (stb_set (w' := (w.1, u2 w.2.1 p i.toNatClampNeg v, w.2.2)) hS rfl (hS.1.set hp rfl z oq (fun _ _ => rfl) (fun x hx => by funext j; simp [u2, hx]) (fun _ _ => rfl) (hat_j.mpr ?_)) oq) hl
      rw [e, vp_cell_l, vp_cell_l, arrV_store]
      congr 2
      funext q
      by_cases hq : q = i.toNatClampNeg
      · subst hq; simp [updV, u2]
      · simp [updV, u2, hq]
  · rw [if_neg h0] at hm
    cases hm
theorem C_tQ {p q : Nat} {i : Int32} {f : Unit → Mo α} (hd : decode (dC D) pc = .ok (.aastore, 1)) (hp : pc + 1 = pc') (kk : Cmp C D Z pc' ls st (f ())) : Cmp C D Z pc ls (.ref (kB C + q) :: .int i :: .ref (kB C + p) :: st) (mb (tQ p i q) f) := by
  subst hp
  intro w r w' hm
  unfold mb tQ at hm
  by_cases h0 : (¬ i < 0 ∧ i.toNatClampNeg < alen w 103 p) ∧ (wS w)[q]? = some (1, nf 1)
  · rw [if_pos h0] at hm
    obtain ⟨h1, h2⟩ := kk _ r w' hm
    refine ⟨h1, fun X G hC hF H locs lsA cells slots hS hl => ?_⟩
    subst hC
    have hp := alen_at h0.1.2
    have hat := hat_q.mp (hS.1.2 p _ hp)
    obtain ⟨cellV, g1, g2, g3, -⟩ := (hat_o (by decide)).mp (hS.1.2 q _ h0.2)
    have hK := G.2.2.2.2.2.2.2.1.1
    have hcls := (hK.1 1 _ rfl).2
    obtain ⟨kA, comp, k1, k2, k3, -⟩ := (hK.2 3 _ rfl).2
    have hcomp : comp = (kD (xC X)).1 1 := Option.some.inj (k3.symm.trans hcls.1)
    subst hcomp
    obtain ⟨kC, hkC, hkind⟩ := hcls.2
    refine W.aast G.1 G.2.1 hat (fun q h => by cases h) (fun h => by cases h) k1 k2 rfl hkC ⟨h0.1.1, by show _ < (arrV _ _ _).slots.size; rw [arrV_size]; exact h0.1.2⟩ g1 (fun q h => by rw [g3] at h; cases h) (by rw [g2]; exact hkC) (by rw [g2]; exact va_assign hcls) rfl rfl hd fun H1 e z oq => ?_
    refine h2 X G rfl hF H1 _ lsA cells slots (stb_set (w' := (w.1, w.2.1, u2 w.2.2.1 p i.toNatClampNeg (some q), w.2.2.2)) hS rfl (hS.1.set hp rfl z oq (fun _ _ => rfl) (fun _ _ => rfl) (fun x hx => by funext j; simp [u2, hx]) (hat_q.mpr ?_)) oq) hl
    rw [e, vp_cell_q, vp_cell_q, arrV_store]
    congr 2
    funext q2
    by_cases hq : q2 = i.toNatClampNeg
    · subst hq; simp [updV, u2, va_rf]
    · simp [updV, u2, hq]
  · rw [if_neg h0] at hm
    cases hm
theorem C_alen {kd p : Nat} {f : Int32 → Mo α} (hkd : kd = 100 ∨ kd = 101) (hd : decode (dC D) pc = .ok (.arraylength, 1)) (hp : pc + 1 = pc') (kk : ∀ v : Int32, Cmp C D Z pc' ls (.int v :: st) (f v)) : Cmp C D Z pc ls (.ref (kB C + p) :: st) (mb (aL kd p) f) := by
  subst hp
  intro w r w' hm
  unfold mb aL at hm
  cases hq : (wS w)[p]? with
  | none => rw [hq] at hm; cases hm
  | some q =>
    rw [hq] at hm
    simp only at hm
    by_cases hk : q.1 = kd
    · rw [if_pos hk] at hm
      obtain ⟨h1, h2⟩ := kk _ w r w' hm
      refine ⟨h1, fun X G hC hF H locs lsA cells slots hS hl => ?_⟩
      subst hC
      obtain ⟨q1, n⟩ := q
      simp only at hk
      subst hk
      rcases hkd with rfl | rfl
      · have hat := hat_i.mp (hS.1.2 p _ hq)
        refine W.alen (n := Int32.ofNat n) G.1 G.2.1 hat ((G.2.2.2.2.2.2.2.1.1.2 0 _ rfl).1 _ (fun j => .int (w.1 p j))) ?_ rfl rfl hd (h2 X G rfl hF H locs lsA cells slots hS hl)
        show (arrV _ _ _).slots.size.toInt32 = _
        rw [arrV_size]
      · have hat := hat_j.mp (hS.1.2 p _ hq)
        refine W.alen (n := Int32.ofNat n) G.1 G.2.1 hat ((G.2.2.2.2.2.2.2.1.1.2 1 _ rfl).1 _ (fun j => .long (w.2.1 p j))) ?_ rfl rfl hd (h2 X G rfl hF H locs lsA cells slots hS hl)
        show (arrV _ _ _).slots.size.toInt32 = _
        rw [arrV_size]
    · rw [if_neg hk] at hm
      cases hm
end RulesN
end
section
/-! ===== rules: new cells, calls ===== -/
def NL (own : String) (idx ci : Nat) : Prop := ∃ (Cn : String) (T : u_T) (ty : Nat → FieldType), vwCl[ci]? = some (Cn, T, nf ci) ∧ (∀ w ∈ u_ws Cn T (nf ci), w ∈ TB) ∧ (∀ k, k < nf ci → parseFieldDescriptor (T k).2.2.1 = some (ty k)) ∧ (∀ k, k < nf ci → defaultValue (ty k) = if rk ci k = true then .null else .int 0) ∧ Cond.classLink own idx Cn ∈ TB ∧ Cond.instantiable Cn (nf ci) ∈ TB ∧ Cond.initialized Cn ∈ TB
def wordsOk (y : MethodName) (cc : ByteArray) (maxL : Nat) (rt : Option FieldType) (n : Nat) : Prop := Cond.code y cc maxL rt ∈ TB ∧ Cond.initialized y.cls ∈ TB ∧ (y.cls ≠ "java/lang/invoke/MethodHandle" ∧ y.cls ≠ "java/lang/invoke/VarHandle" ∧ (parseMethodDescriptor y.desc).map (fun d => d.parameters.length) = some n)
def VL (own : String) (idx ci : Nat) (y : MethodName) (cc : ByteArray) (maxL : Nat) (rt : Option FieldType) (n : Nat) : Prop := wordsOk y cc maxL rt n ∧ Cond.methodLink own idx y ∈ TB ∧ Cond.instanceMethod y ∈ TB ∧ Cond.selects y.cls y y ∈ TB ∧ ∃ q : vw_C, vwCl[ci]? = some q ∧ q.1 = y.cls
def SL (own : String) (idx : Nat) (y : MethodName) (cc : ByteArray) (maxL : Nat) (rt : Option FieldType) (n : Nat) : Prop := wordsOk y cc maxL rt n ∧ Cond.methodLink own idx y ∈ TB ∧ Cond.static y ∈ TB
def IL (own : String) (idx : Nat) (y : MethodName) (cc : ByteArray) (maxL : Nat) (n : Nat) : Prop := wordsOk y cc maxL none n ∧ Cond.methodLink own idx y ∈ TB ∧ Cond.instanceMethod y ∈ TB ∧ y.name = "<init>"
def SLN (own : String) (idx : Nat) (y : MethodName) (cc : ByteArray) (maxL : Nat) (rt : Option FieldType) (n : Nat) : Prop := wordsOk y cc maxL rt n ∧ (∃ host, Cond.methodLinkNest own idx y host ∈ NW) ∧ Cond.static y ∈ TB
def ILN (own : String) (idx : Nat) (y : MethodName) (cc : ByteArray) (maxL : Nat) (n : Nat) : Prop := wordsOk y cc maxL none n ∧ (∃ host, Cond.methodLinkNest own idx y host ∈ NW) ∧ Cond.instanceMethod y ∈ TB ∧ y.name = "<init>"
theorem tb_goodIn {y : MethodName} {cc : ByteArray} {maxL : Nat} {rt : Option FieldType} (h : Cond.code y cc maxL rt ∈ TB) : GoodIn TB (Cond.code y cc maxL rt :: TB) := by
  intro w hw
  rcases List.mem_cons.mp hw with rfl | hw
  · exact ⟨h, tb_good _ h⟩
  · exact ⟨hw, tb_good _ hw⟩
theorem run_on {X : CX} {w1 : Wd} {H : Heap} {locs : List Loc} {cells slots mc ms pc : Nat} {lsA : Array Slot} {st0 rest : List Value} {ro : Option Value} {a : Array Value} {Q : State → Prop} (hr : va_Run (xP X) (kL (xC X)) (xE X) (xR X) (xS X) (xM X) (xA X) (xB X) (xT X) (xO X) H locs cells slots mc ms (F0 (xM X) pc lsA st0) rest (Qo (xC X) ro w1 a) (fun q => kB (xC X) ≤ q))
    (hL : ∀ q ∈ locs, kB (xC X) ≤ q.base) (kk : ∀ (H1 : Heap) (locs1 : List Loc), Hld (xC X) w1 H1 → (∀ q : Nat, q < kB (xC X) → H1[q]? = H[q]?) → (∀ q ∈ locs1, kB (xC X) ≤ q.base) → WX X H1 locs1 (cells + mc) (slots + ms) Q (F0 (xM X) (pc + 3) lsA (ro.toList ++ rest))) : WX X H locs cells slots Q (F0 (xM X) pc lsA st0) := by
  intro T hT S
  obtain ⟨v, st₀, t, T', L, h0, S', hL2, e1, e2, ⟨hv, hH, hk⟩, stp⟩ := hr T hT S
  cases hv
  obtain ⟨t2, a1, b1⟩ := kk T'.heap (locs ++ L) (by rw [e1]; exact hH) (fun q hq => by rw [e1, hk q hq, h0]) (fun q hq => by
      rcases List.mem_append.mp hq with h | h
      · exact hL q h
      · exact hL2 q h) T' rfl S'
  exact ⟨t2, stp t2 a1, b1⟩
/-- behind a call, where the callee's computation has said what it does -/
theorem call_end {α β : Type} {C : KX} {D : MD} {Z : ZT α} {pc : Nat} {ls : List (Nat × Value)} {st st0 : List Value} {f : Mo β} {k : β → Mo α} {rv : β → Option Value} {Fc Lc maxL : Nat} {y : MethodName} {cc : ByteArray} {rt : Option FieldType} {As : List Value} (ga : Wd → Prop)
    (hI : Imp C y cc maxL rt Fc Lc rv As f) (hF : Fc + 1 ≤ dF D) (hL : 8 + (maxL + 11) + Lc ≤ dL D)
    (hrun : ∀ (w w1 : Wd) (r : β) (X : CX) (H : Heap) (locs : List Loc) (lsA : Array Slot) (cells slots : Nat), CGood X D → xC X = C → ga w → Stb X w H locs cells slots → lsA.size = dN D → Met (kL C) y (Cond.code y cc maxL rt :: TB) ({ frames := Fc, cells := cnt w1 - cnt w, slots := slt w1 - slt w, locals := Lc }) (va_Pc As (fun U => KK C U ∧ Hld C w U.heap)) (Qo C (rv r) w1) (cnt w1 - cnt w) (slt w1 - slt w) (fun q => kB C ≤ q) →
      Fc + 1 ≤ (xR X).frames → 8 + (maxL + 11) + Lc ≤ (xR X).locals → cells + (cnt w1 - cnt w) ≤ (xR X).cells ∧ slots + (slt w1 - slt w) ≤ (xR X).slots → va_Run (xP X) (kL (xC X)) (xE X) (xR X) (xS X) (xM X) (xA X) (xB X) (xT X) (xO X) H locs cells slots (cnt w1 - cnt w) (slt w1 - slt w) (F0 (xM X) pc lsA st0) st (Qo (xC X) (rv r) w1 As.toArray) (fun q => kB (xC X) ≤ q))
    (kk : ∀ r : β, Cmp C D Z (pc + 3) ls ((rv r).toList ++ st) (k r)) (w : Wd) (r : α) (w' : Wd) (hg : ga w) (hm : mb f k w = some (r, w')) : (cnt w ≤ cnt w' ∧ slt w ≤ slt w') ∧
    ∀ X : CX, CGood X D → xC X = C → Fit X w' → ∀ (H : Heap) (locs : List Loc) (lsA : Array Slot) (cells slots : Nat), Stb X w H locs cells slots → lv_has lsA (dN D) ls → WX X H locs cells slots (Z X r w') (F0 (xM X) pc lsA st0) := by
  unfold mb at hm
  cases hf : f w with
  | none => rw [hf] at hm; cases hm
  | some q =>
    obtain ⟨r1, w1⟩ := q
    rw [hf] at hm
    obtain ⟨m1, hMet⟩ := hI w r1 w1 hf
    obtain ⟨m2, h2⟩ := kk r1 w1 r w' hm
    refine ⟨by omega, fun X G hC hFit H locs lsA cells slots hS hl => ?_⟩
    have hfr : (xR X).frames = dF D := G.2.2.2.2.2.2.2.2.2.1
    have hlo : (xR X).locals = dL D := G.2.2.2.2.2.2.2.2.2.2.1
    obtain ⟨s1, s2, s3, s4, s5⟩ := id hS
    obtain ⟨f1, f2⟩ := id hFit
    have hroom : cells + (cnt w1 - cnt w) ≤ (xR X).cells ∧ slots + (slt w1 - slt w) ≤ (xR X).slots := by omega
    refine run_on (hrun w w1 r1 X H locs lsA cells slots G hC hg hS hl.1 hMet (by omega) (by omega) hroom) s3 fun H1 locs1 g1 g2 g3 => ?_
    subst hC
    exact h2 X G rfl hFit H1 locs1 lsA _ _ ⟨g1, fun q hq => by rw [g2 q hq]; exact s2 q hq, g3, by omega, by omega⟩ hl
theorem pre_blind {C : KX} {w : Wd} {As : List Value} : FrameBlind (va_Pc As (fun U => KK C U ∧ Hld C w U.heap)) := by
  intro a U g mk h
  exact ⟨h.1, h.2.1.calling g mk a, h.2.2⟩
section RulesC
variable {α β : Type} {C : KX} {D : MD} {Z : ZT α} {pc pc' : Nat} {ls : List (Nat × Value)} {st : List Value} {f : Mo β} {k : β → Mo α} {rv : β → Option Value} {Fc Lc maxL n idx : Nat} {y : MethodName} {cc : ByteArray} {rt : Option FieldType}
theorem C_callV {ci p : Nat} (As : List Value) (hV : VL (dO D) idx ci y cc maxL rt n) (hI : Imp C y cc maxL rt Fc Lc rv (.ref (kB C + p) :: As) f) (hd : decode (dC D) pc = .ok (.invokevirtual idx, 3)) (hp : pc + 3 = pc') (hn : As.length = n) {st0 : List Value} (hst : st0 = As.reverse ++ .ref (kB C + p) :: st) (hW : (st.map fun v => v.category).sum ≤ 8) (hF : Fc + 1 ≤ dF D) (hL : 8 + (maxL + 11) + Lc ≤ dL D)
    (kk : ∀ r : β, Cmp C D Z pc' ls ((rv r).toList ++ st) (k r)) : Cmp C D Z pc ls st0 (mb (vc ci p f) k) := by
  subst hp
  intro w r w' hm
  by_cases h0 : (wS w)[p]? = some (ci, nf ci)
  · have hm' : mb f k w = some (r, w') := by
      unfold mb vc at hm
      rw [if_pos h0] at hm
      exact hm
    refine call_end (fun w => (wS w)[p]? = some (ci, nf ci)) hI hF hL ?_ kk w r w' h0 hm'
    intro w w1 r X H locs lsA cells slots G hC hg hS hsz hM hf hlo hroom
    subst hC
    obtain ⟨⟨c1, c2, c3⟩, v1, v2, v3, q, q1, q2⟩ := hV
    have hts := G.2.2.2.2.2.2.1
    have hK := G.2.2.2.2.2.2.2.1
    refine va_runV (C := y.cls) (b := kB (xC X) + p) (As := As) (Ts := TB) (own := dO D) (n := n) ⟨G.1, G.2.1, G.2.2.2.2.1, G.2.2.2.2.2.1, hts⟩ hM ⟨callB_of n hts (tb_goodIn c1) rfl rfl rfl (hts _ c2) (hts _ v1) c3 ⟨hf, hlo⟩, hts _ v2, hts _ v3⟩ ⟨pre_blind, ?_, fun U hU hW => ⟨rfl, hK.warm hW, by rw [hU]; exact hS.1⟩⟩ rfl hn hsz hst (by show 2 * 0 + _ ≤ 8; omega) hd hroom
    have hci := cl_lt q1
    obtain ⟨cell, g1, g2, g3, -⟩ := (hat_o (by omega)).mp (hS.1.2 p _ hg)
    exact ⟨cell, g1, by rw [g3]; rfl, by rw [g2, ← q2]; exact (hK.1.1 ci q q1).2.1⟩
  · unfold mb vc at hm
    rw [if_neg h0] at hm
    cases hm
theorem C_callS (As : List Value) (hV : SL (dO D) idx y cc maxL rt n) (hI : Imp C y cc maxL rt Fc Lc rv As f) (hd : decode (dC D) pc = .ok (.invokestatic idx, 3)) (hp : pc + 3 = pc') (hn : As.length = n) {st0 : List Value} (hst : st0 = As.reverse ++ st) (hW : (st.map fun v => v.category).sum ≤ 8) (hF : Fc + 1 ≤ dF D) (hL : 8 + (maxL + 11) + Lc ≤ dL D)
    (kk : ∀ r : β, Cmp C D Z pc' ls ((rv r).toList ++ st) (k r)) : Cmp C D Z pc ls st0 (mb f k) := by
  subst hp
  intro w r w' hm
  refine call_end (fun _ => True) hI hF hL ?_ kk w r w' trivial hm
  intro w w1 r X H locs lsA cells slots G hC hg hS hsz hM hf hlo hroom
  subst hC
  obtain ⟨⟨c1, c2, c3⟩, v1, v2⟩ := hV
  have hts := G.2.2.2.2.2.2.1
  have hK := G.2.2.2.2.2.2.2.1
  exact va_runS (As := As) (Ts := TB) (own := dO D) (n := n) ⟨G.1, G.2.1, G.2.2.2.2.1, G.2.2.2.2.2.1, hts⟩ hM ⟨callB_of n hts (tb_goodIn c1) rfl rfl rfl (hts _ c2) (hts _ v1) c3 ⟨hf, hlo⟩, hts _ v2⟩ ⟨pre_blind, fun U hU hW => ⟨rfl, hK.warm hW, by rw [hU]; exact hS.1⟩⟩ rfl hn hsz hst (by show 2 * 0 + _ ≤ 8; omega) hd hroom
theorem C_callSN (As : List Value) (hV : SLN (dO D) idx y cc maxL rt n) (hI : Imp C y cc maxL rt Fc Lc rv As f) (hd : decode (dC D) pc = .ok (.invokestatic idx, 3)) (hp : pc + 3 = pc') (hn : As.length = n) {st0 : List Value} (hst : st0 = As.reverse ++ st) (hW : (st.map fun v => v.category).sum ≤ 8) (hF : Fc + 1 ≤ dF D) (hL : 8 + (maxL + 11) + Lc ≤ dL D)
    (kk : ∀ r : β, Cmp C D Z pc' ls ((rv r).toList ++ st) (k r)) : Cmp C D Z pc ls st0 (mb f k) := by
  subst hp
  intro w r w' hm
  refine call_end (fun _ => True) hI hF hL ?_ kk w r w' trivial hm
  intro w w1 r X H locs lsA cells slots G hC hg hS hsz hM hf hlo hroom
  subst hC
  obtain ⟨⟨c1, c2, c3⟩, ⟨host, v1⟩, v2⟩ := hV
  have hts := G.2.2.2.2.2.2.1
  have hK := G.2.2.2.2.2.2.2.1
  exact va_runSN (As := As) (Ts := TB) (own := dO D) (n := n) ⟨G.1, G.2.1, G.2.2.2.2.1, G.2.2.2.2.2.1, hts⟩ hM ⟨va_cnB n hts (tb_goodIn c1) rfl rfl rfl (hK.2.2 _ v1) (hts _ c2) c3 ⟨hf, hlo⟩, hts _ v2, trivial⟩ ⟨pre_blind, fun U hU hW => ⟨rfl, hK.warm hW, by rw [hU]; exact hS.1⟩⟩ rfl hn hsz hst (by show 2 * 0 + _ ≤ 8; omega) hd hroom
theorem C_callI {p : Nat} (As : List Value) (hV : IL (dO D) idx y cc maxL n) (hI : Imp C y cc maxL none Fc Lc rv (.ref (kB C + p) :: As) f) (hd : decode (dC D) pc = .ok (.invokespecial idx, 3)) (hp : pc + 3 = pc') (hn : As.length = n) {st0 : List Value} (hst : st0 = As.reverse ++ .ref (kB C + p) :: st) (hW : (st.map fun v => v.category).sum ≤ 8) (hF : Fc + 1 ≤ dF D) (hL : 8 + (maxL + 11) + Lc ≤ dL D)
    (kk : ∀ r : β, Cmp C D Z pc' ls ((rv r).toList ++ st) (k r)) : Cmp C D Z pc ls st0 (mb f k) := by
  subst hp
  intro w r w' hm
  refine call_end (fun _ => True) hI hF hL ?_ kk w r w' trivial hm
  intro w w1 r X H locs lsA cells slots G hC hg hS hsz hM hf hlo hroom
  subst hC
  obtain ⟨⟨c1, c2, c3⟩, v1, v2, v3⟩ := hV
  have hts := G.2.2.2.2.2.2.1
  have hK := G.2.2.2.2.2.2.2.1
  exact va_runI (b := kB (xC X) + p) (As := As) (Ts := TB) (own := dO D) (n := n) ⟨G.1, G.2.1, G.2.2.2.2.1, G.2.2.2.2.2.1, hts⟩ hM ⟨callB_of n hts (tb_goodIn c1) rfl rfl rfl (hts _ c2) (hts _ v1) c3 ⟨hf, hlo⟩, v3, hts _ v2⟩ ⟨pre_blind, fun U hU hW => ⟨rfl, hK.warm hW, by rw [hU]; exact hS.1⟩⟩ rfl hn hsz hst (by show 2 * 0 + _ ≤ 8; omega) hd hroom
theorem C_callIN {p : Nat} (As : List Value) (hV : ILN (dO D) idx y cc maxL n) (hI : Imp C y cc maxL none Fc Lc rv (.ref (kB C + p) :: As) f) (hd : decode (dC D) pc = .ok (.invokespecial idx, 3)) (hp : pc + 3 = pc') (hn : As.length = n) {st0 : List Value} (hst : st0 = As.reverse ++ .ref (kB C + p) :: st) (hW : (st.map fun v => v.category).sum ≤ 8) (hF : Fc + 1 ≤ dF D) (hL : 8 + (maxL + 11) + Lc ≤ dL D)
    (kk : ∀ r : β, Cmp C D Z pc' ls ((rv r).toList ++ st) (k r)) : Cmp C D Z pc ls st0 (mb f k) := by
  subst hp
  intro w r w' hm
  refine call_end (fun _ => True) hI hF hL ?_ kk w r w' trivial hm
  intro w w1 r X H locs lsA cells slots G hC hg hS hsz hM hf hlo hroom
  subst hC
  obtain ⟨⟨c1, c2, c3⟩, ⟨host, v1⟩, v2, v3⟩ := hV
  have hts := G.2.2.2.2.2.2.1
  have hK := G.2.2.2.2.2.2.2.1
  exact va_runIN (b := kB (xC X) + p) (As := As) (Ts := TB) (own := dO D) (n := n) ⟨G.1, G.2.1, G.2.2.2.2.1, G.2.2.2.2.2.1, hts⟩ hM ⟨va_cnB n hts (tb_goodIn c1) rfl rfl rfl (hK.2.2 _ v1) (hts _ c2) c3 ⟨hf, hlo⟩, v3, hts _ v2⟩ ⟨pre_blind, fun U hU hW => ⟨rfl, hK.warm hW, by rw [hU]; exact hS.1⟩⟩ rfl hn hsz hst (by show 2 * 0 + _ ≤ 8; omega) hd hroom
end RulesC
section RulesO
variable {α : Type} {C : KX} {D : MD} {Z : ZT α} {pc pc' : Nat} {ls : List (Nat × Value)} {st : List Value}
theorem C_new {idx ci : Nat} {f : Nat → Mo α} (hN : NL (dO D) idx ci) (hd : decode (dC D) pc = .ok (.new idx, 3)) (hp : pc + 3 = pc') (kk : ∀ p : Nat, Cmp C D Z pc' ls (.ref (kB C + p) :: st) (f p)) : Cmp C D Z pc ls st (mb (nO ci) f) := by
  subst hp
  intro w r w' hm
  have hm' : f (cnt w) (wNew w (ci, nf ci)) = some (r, w') := hm
  obtain ⟨h1, h2⟩ := kk _ _ r w' hm'
  have c1 := cnt_new w (ci, nf ci)
  have c2 := slt_new w (ci, nf ci)
  refine ⟨by omega, fun X G hC hF H locs lsA cells slots hS hl => ?_⟩
  subst hC
  obtain ⟨Cn, T, ty, hc, hin, hty, hdef, l1, l2, l3⟩ := hN
  have hci := cl_lt hc
  have hts := G.2.2.2.2.2.2.1
  have hK := G.2.2.2.2.2.2.2.1
  obtain ⟨fc, fs⟩ := fit_new hS hF h1
  have hKn := hK.1.1 ci _ hc
  refine W.newcK G.1 G.2.1 G.2.2.2.2.2.1 (hts _ l1) (hts _ l2) (hts _ l3) rfl hd fc fs hKn.2.1 hS.1.1 fun H1 kC hkC e1 z1 o1 => ?_
  refine h2 X G rfl hF H1 locs lsA _ _ (stb_new hS (by rw [z1, hS.1.1]) (fun a ha => o1 a (by rw [← hS.1.1]; exact ha)) ((hat_o (by omega)).mpr ?_)) hl
  refine (u_born ty hts hin hKn hkC e1 hty).to (fun j hj => ?_)
  show defaultValue (ty j) = fv (xC X) (wNew w (ci, nf ci)) (cnt w) ci j
  rw [hdef j hj]
  unfold fv wNew uA
  by_cases hr : rk ci j = true
  · simp [hr, rfv, va_rf]
  · simp [hr]
theorem C_newarr {kd : Nat} {atype : ArrayType} {n : Int32} {f : Nat → Mo α} (hk : (kd = 100 ∧ newarray.typeOf atype = .int) ∨ (kd = 101 ∧ newarray.typeOf atype = .long) ∨ (kd = 102 ∧ newarray.typeOf atype = .boolean)) (hw : Cond.arrayClass (newarray.typeOf atype) ∈ TB) (hd : decode (dC D) pc = .ok (.newarray atype, 2)) (hp : pc + 2 = pc') (kk : ∀ p : Nat, Cmp C D Z pc' ls (.ref (kB C + p) :: st) (f p)) : Cmp C D Z pc ls (.int n :: st) (mb (nA kd n) f) := by
  subst hp
  intro w r w' hm
  unfold mb nA at hm
  by_cases h0 : ¬ n < 0 ∧ n.toNatClampNeg ≤ 60000
  · rw [if_pos h0] at hm
    obtain ⟨h1, h2⟩ := kk _ _ r w' hm
    have c1 := cnt_new w (kd, n.toNatClampNeg)
    have c2 := slt_new w (kd, n.toNatClampNeg)
    refine ⟨by omega, fun X G hC hF H locs lsA cells slots hS hl => ?_⟩
    subst hC
    have hts := G.2.2.2.2.2.2.1
    have hK := G.2.2.2.2.2.2.2.1
    obtain ⟨fc, fs⟩ := fit_new hS hF h1
    have hbytes : n.toNatClampNeg * componentBytes (newarray.typeOf atype) ≤ 536870912 := by
      have h9 : componentBytes (newarray.typeOf atype) ≤ 8 := by rcases hk with ⟨-, e⟩ | ⟨-, e⟩ | ⟨-, e⟩ <;> rw [e] <;> decide
      exact Nat.le_trans (Nat.mul_le_mul h0.2 h9) (by decide)
    refine va_newaK G.1 G.2.1 (hts _ hw) rfl hd rfl h0.1 rfl hbytes fc fs hS.1.1 fun H1 cA e1 z1 o1 harr hcA => ?_
    refine h2 X G rfl hF H1 locs lsA _ _ (stb_new hS (by rw [z1, hS.1.1]) (fun a ha => o1 a (by rw [← hS.1.1]; exact ha)) ?_) hl
    rcases hk with ⟨rfl, e⟩ | ⟨rfl, e⟩ | ⟨rfl, e⟩
    · rw [e] at e1 hcA
      have hcc : cA = kI (xC X) := Option.some.inj (hcA.symm.trans ((hK.1.2 0 _ rfl).2))
      rw [hat_i, e1, hcc, vp_cell_i]
      congr 2
      funext j
      simp [wNew, uA, defaultValue]
    · rw [e] at e1 hcA
      have hcc : cA = kJ (xC X) := Option.some.inj (hcA.symm.trans ((hK.1.2 1 _ rfl).2))
      rw [hat_j, e1, hcc, vp_cell_l]
      congr 2
      funext j
      simp [wNew, uA, defaultValue]
    · rw [e] at e1 hcA
      have hcc : cA = kZ (xC X) := Option.some.inj (hcA.symm.trans ((hK.1.2 2 _ rfl).2))
      rw [hat_z, e1, hcc, vp_cell_i]
      congr 2
      funext j
      simp [wNew, uA, defaultValue]
  · rw [if_neg h0] at hm
    cases hm
theorem C_anew {idx : Nat} {n : Int32} {f : Nat → Mo α} (hw : Cond.classLink (dO D) idx RX1 ∈ TB) (hd : decode (dC D) pc = .ok (.anewarray idx, 3)) (hp : pc + 3 = pc') (kk : ∀ p : Nat, Cmp C D Z pc' ls (.ref (kB C + p) :: st) (f p)) : Cmp C D Z pc ls (.int n :: st) (mb (nA 103 n) f) := by
  subst hp
  intro w r w' hm
  unfold mb nA at hm
  by_cases h0 : ¬ n < 0 ∧ n.toNatClampNeg ≤ 60000
  · rw [if_pos h0] at hm
    obtain ⟨h1, h2⟩ := kk _ _ r w' hm
    have c1 := cnt_new w (103, n.toNatClampNeg)
    have c2 := slt_new w (103, n.toNatClampNeg)
    refine ⟨by omega, fun X G hC hF H locs lsA cells slots hS hl => ?_⟩
    subst hC
    have hts := G.2.2.2.2.2.2.1
    have hK := G.2.2.2.2.2.2.2.1
    obtain ⟨fc, fs⟩ := fit_new hS hF h1
    refine W.anew G.1 G.2.1 G.2.2.2.2.2.1 (hts _ hw) (va_AO.use hK.2.1) rfl hd rfl h0.1 (by omega) fc fs fun cA kA comp f1 f2 f3 f4 => ?_
    generalize hH1 : H.push ({ cls := cA, slots := Array.replicate n.toNatClampNeg .null, vm := .none } : Cell) = H1
    have z1 : H1.size = H.size + 1 := by rw [← hH1, Array.size_push]
    have e1 : H1[H.size]? = some (arrV cA n.toNatClampNeg (fun _ => .null)) := by rw [← hH1, Array.getElem?_push_size, ← arrV_new]
    have o1 : ∀ q : Nat, q < H.size → H1[q]? = H[q]? := fun q hq => by rw [← hH1, Array.getElem?_push, if_neg (Nat.ne_of_lt hq)]
    have hs := hS.1.1
    rw [hs] at e1 ⊢
    refine h2 X G rfl hF H1 locs lsA _ _ (stb_new hS z1 o1 ?_) hl
    obtain ⟨kA2, comp2, k1, k2, k3, k4⟩ := (hK.1.2 3 _ rfl).2
    have hcc : cA = kH (xC X) := Option.some.inj (f1.symm.trans k4)
    rw [hat_q, e1, hcc, vp_cell_q]
    congr 2
    funext j
    simp [wNew, uA, va_rf]
  · rw [if_neg h0] at hm
    cases hm
theorem C_objInit {idx p : Nat} {m : Mo α} (hw1 : Cond.methodLink (dO D) idx Lib.objectInit ∈ TB) (hw2 : Cond.instanceMethod Lib.objectInit ∈ TB) (hw3 : Cond.code Lib.objectInit ⟨#[0xb1]⟩ 1 none ∈ TB) (hd : decode (dC D) pc = .ok (.invokespecial idx, 3)) (hp : pc + 3 = pc') (hF : 1 ≤ dF D) (hL : (st.map fun v => v.category).sum + 12 ≤ dL D) (kk : Cmp C D Z pc' ls st m) : Cmp C D Z pc ls (.ref (kB C + p) :: st) m := by
  subst hp
  refine C_pure (fun X G H locs lsA cells slots Q hl kk => ?_) kk
  have hts := G.2.2.2.2.2.2.1
  have hfr : (xR X).frames = dF D := G.2.2.2.2.2.2.2.2.2.1
  have hlo : (xR X).locals = dL D := G.2.2.2.2.2.2.2.2.2.2.1
  exact W.objInit G.1 G.2.1 G.2.2.2.2.2.1 (hts _ hw1) (hts _ hw2) (hts _ hw3) rfl (hl.1.trans G.2.2.2.2.1.symm) rfl hd (by omega) (by show 2 * 0 + _ + 12 ≤ _; omega) (kk lsA hl)
theorem C_max {idx : Nat} {x y : Int32} {m : Mo α} (hw1 : Cond.methodLink (dO D) idx Lib.Math.max.name ∈ TB) (hw2 : Cond.static Lib.Math.max.name ∈ TB) (hw3 : Cond.initialized "java/lang/Math" ∈ TB) (hw4 : Cond.code Lib.Math.max.name Lib.Math.max.code 2 (some .int) ∈ TB) (hd : decode (dC D) pc = .ok (.invokestatic idx, 3)) (hp : pc + 3 = pc') (hF : 1 ≤ dF D) (hL : (st.map fun v => v.category).sum + 13 ≤ dL D) (kk : Cmp C D Z pc' ls (.int (if x < y then y else x) :: st) m) : Cmp C D Z pc ls (.int y :: .int x :: st) m := by
  subst hp
  intro w r w' hm
  obtain ⟨h1, h2⟩ := kk w r w' hm
  refine ⟨h1, fun X G hC hFit H locs lsA cells slots hS hl => ?_⟩
  have hts := G.2.2.2.2.2.2.1
  have hfr : (xR X).frames = dF D := G.2.2.2.2.2.2.2.2.2.1
  have hlo : (xR X).locals = dL D := G.2.2.2.2.2.2.2.2.2.2.1
  obtain ⟨s1, s2, s3, s4, s5⟩ := id hS
  obtain ⟨f1, f2⟩ := id hFit
  exact va_mmax G.1 G.2.1 (G.2.2.2.2.1.trans hl.1.symm) G.2.2.2.2.2.1 (hts _ hw1) (hts _ hw2) (hts _ hw3) (hts _ hw4) (by omega) (by omega) (by omega) (by omega) hd (h2 X G hC hFit H locs lsA cells slots hS hl)
theorem C_min {idx : Nat} {x y : Int32} {m : Mo α} (hw1 : Cond.methodLink (dO D) idx Lib.Math.min.name ∈ TB) (hw2 : Cond.static Lib.Math.min.name ∈ TB) (hw3 : Cond.initialized "java/lang/Math" ∈ TB) (hw4 : Cond.code Lib.Math.min.name Lib.Math.min.code 2 (some .int) ∈ TB) (hd : decode (dC D) pc = .ok (.invokestatic idx, 3)) (hp : pc + 3 = pc') (hF : 1 ≤ dF D) (hL : (st.map fun v => v.category).sum + 13 ≤ dL D) (kk : Cmp C D Z pc' ls (.int (if y < x then y else x) :: st) m) : Cmp C D Z pc ls (.int y :: .int x :: st) m := by
  subst hp
  intro w r w' hm
  obtain ⟨h1, h2⟩ := kk w r w' hm
  refine ⟨h1, fun X G hC hFit H locs lsA cells slots hS hl => ?_⟩
  have hts := G.2.2.2.2.2.2.1
  have hfr : (xR X).frames = dF D := G.2.2.2.2.2.2.2.2.2.1
  have hlo : (xR X).locals = dL D := G.2.2.2.2.2.2.2.2.2.2.1
  obtain ⟨s1, s2, s3, s4, s5⟩ := id hS
  obtain ⟨f1, f2⟩ := id hFit
  exact va_mmin G.1 G.2.1 (G.2.2.2.2.1.trans hl.1.symm) G.2.2.2.2.2.1 (hts _ hw1) (hts _ hw2) (hts _ hw3) (hts _ hw4) (by omega) (by omega) (by omega) (by omega) hd (h2 X G hC hFit H locs lsA cells slots hS hl)
end RulesO
end
section
/-! ===== rule: System.arraycopy over int[] ===== -/
section RulesP
variable {α : Type} {C : KX} {D : MD} {Z : ZT α} {pc pc' : Nat} {ls : List (Nat × Value)} {st : List Value}
theorem C_copy {idx src dst : Nat} {sp dp n : Int32} {f : Unit → Mo α} (hw1 : Cond.methodLink (dO D) idx arraycopyName ∈ TB) (hw2 : Cond.native arraycopyName ∈ TB) (hw3 : Cond.static arraycopyName ∈ TB) (hw4 : Cond.initialized "java/lang/System" ∈ TB) (hd : decode (dC D) pc = .ok (.invokestatic idx, 3)) (hp : pc + 3 = pc') (hF : 1 ≤ dF D) (hL : (st.map fun v => v.category).sum + (nativeFrameWords "java/lang/System" "arraycopy" 5 + 11) ≤ dL D)
    (kk : Cmp C D Z pc' ls st (f ())) : Cmp C D Z pc ls (.int n :: .int dp :: .ref (kB C + dst) :: .int sp :: .ref (kB C + src) :: st) (mb (cpI src sp dst dp n) f) := by
  subst hp
  intro w r w' hm
  unfold mb cpI at hm
  by_cases h0 : (¬ sp < 0 ∧ ¬ dp < 0 ∧ ¬ n < 0) ∧ (0 < alen w 100 src ∧ 0 < alen w 100 dst) ∧ sp.toNatClampNeg + n.toNatClampNeg ≤ alen w 100 src ∧ dp.toNatClampNeg + n.toNatClampNeg ≤ alen w 100 dst
  · rw [if_pos h0] at hm
    obtain ⟨k1, k2⟩ := kk _ r w' hm
    obtain ⟨⟨h1, h2, h3⟩, ⟨p0, p1⟩, h4, h5⟩ := h0
    refine ⟨k1, fun X G hC hFit H locs lsA cells slots hS hl => ?_⟩
    subst hC
    have hts := G.2.2.2.2.2.2.1
    have hK := G.2.2.2.2.2.2.2.1
    have hfr : (xR X).frames = dF D := G.2.2.2.2.2.2.2.2.2.1
    have hlo : (xR X).locals = dL D := G.2.2.2.2.2.2.2.2.2.2.1
    have nn : ∀ z : Int32, ¬ z < 0 → z.toInt = (z.toNatClampNeg : Int) := by
      intro z hz
      have hz0 : (0 : Int) ≤ z.toInt := by
        have := Int32.not_lt.mp hz
        simpa using Int32.le_iff_toInt_le.mp this
      show z.toInt = ((z.toInt.toNat : Nat) : Int)
      omega
    have s0 := alen_at p0
    have s1 := alen_at p1
    have hc0 := hat_i.mp (hS.1.2 src _ s0)
    have hc1 := hat_i.mp (hS.1.2 dst _ s1)
    generalize hn0 : alen w 100 src = n0 at *
    generalize hn1 : alen w 100 dst = n1 at *
    generalize hf0 : w.1 src = fs at *
    generalize hf1 : w.1 dst = gs at *
    intro T hT S
    obtain ⟨-, q0, hk0, cm0, hkk0⟩ := (hK.1.2 0 _ rfl).1 n0 (fun j => .int (fs j))
    obtain ⟨-, q1, hk1, cm1, hkk1⟩ := (hK.1.2 0 _ rfl).1 n1 (fun j => .int (gs j))
    obtain ⟨vm', S', step⟩ := S.arraycopy G.1 G.2.2.2.2.2.1 (hts _ hw1) (hts _ hw2) (hts _ hw3) (hts _ hw4) (src := kB (xC X) + src) (dst := kB (xC X) + dst) (cs := vp_cell (kI (xC X)) (n0, .inl fs)) (cd := vp_cell (kI (xC X)) (n1, .inl gs)) (srcPos := sp) (destPos := dp) (n := n) (by rw [hT]; exact hc0) (by rw [hT]; exact hc1)
      (fun _ h => by cases h) (fun _ h => by cases h) (fun h => by cases h) (fun h => by cases h) hk0 hk1 hkk0 hkk1 (by simp [refKind]) h1 h2 h3
      (by rw [nn sp h1, nn n h3]; show ¬ _ > ((arrV _ n0 (fun j => .int (fs j))).slots.size : Int); rw [arrV_size]; omega)
      (by rw [nn dp h2, nn n h3]; show ¬ _ > ((arrV _ n1 (fun j => .int (gs j))).slots.size : Int); rw [arrV_size]; omega)
      (fun vm₁ _ i hi => by
        have e : (vp_cell (kI (xC X)) (n0, .inl fs)).slots.getD (sp.toNatClampNeg + i) .null = .int (fs (sp.toNatClampNeg + i)) := by
          show (arrV _ n0 (fun j => .int (fs j))).slots.getD _ _ = _
          rw [Array.getD_eq_getD_getElem?, arrV_read _ _ (by omega)]
          rfl
        refine ⟨?_, ?_⟩
        · rw [e]
          rfl
        · rw [e]
          exact trivial)
      (g := F0 (xM X) pc lsA (.int n :: .int dp :: .ref (kB (xC X) + dst) :: .int sp :: .ref (kB (xC X) + src) :: st)) rfl (by rw [G.2.2.2.2.1]; exact hl.1) (rest := st) rfl (by rw [G.2.1]; exact hd) (by omega) (by show 2 * 0 + _ + _ ≤ _; omega)
    have e1 : copied (vp_cell (kI (xC X)) (n0, .inl fs)) (vp_cell (kI (xC X)) (n1, .inl gs)) sp dp n = vp_cell (kI (xC X)) (n1, .inl (va_cpy fs gs sp.toNatClampNeg dp.toNatClampNeg n.toNatClampNeg)) := va_copied (fun z => .int z) _ _ fs gs h4
    rw [e1] at S' step
    have hl2 : kB (xC X) + dst < H.size := (Array.getElem?_eq_some_iff.mp hc1).1
    have oq : ∀ q : Nat, q ≠ kB (xC X) + dst → (H.setIfInBounds (kB (xC X) + dst) (vp_cell (kI (xC X)) (n1, .inl (va_cpy fs gs sp.toNatClampNeg dp.toNatClampNeg n.toNatClampNeg))))[q]? = H[q]? := fun q hq => by simp [Array.getElem?_setIfInBounds, Ne.symm hq]
    have hheap : ((T.setVm vm').setCell (kB (xC X) + dst) (vp_cell (kI (xC X)) (n1, .inl (va_cpy fs gs sp.toNatClampNeg dp.toNatClampNeg n.toNatClampNeg)))).heap = H.setIfInBounds (kB (xC X) + dst) (vp_cell (kI (xC X)) (n1, .inl (va_cpy fs gs sp.toNatClampNeg dp.toNatClampNeg n.toNatClampNeg))) := by rw [← hT]; rfl
    have hst : Stb X (uA w.1 dst (va_cpy fs gs sp.toNatClampNeg dp.toNatClampNeg n.toNatClampNeg), w.2) (H.setIfInBounds (kB (xC X) + dst) (vp_cell (kI (xC X)) (n1, .inl (va_cpy fs gs sp.toNatClampNeg dp.toNatClampNeg n.toNatClampNeg)))) (locs ++ []) cells slots := by
      obtain ⟨g1, g2, g3, g4, g5⟩ := hS
      refine ⟨g1.set s1 rfl (by simp) oq (fun x hx => by funext j; simp [uA, hx]) (fun _ _ => rfl) (fun _ _ => rfl) (hat_i.mpr ?_), fun q hq => by rw [oq q (by omega)]; exact g2 q hq, by simpa using g3, g4, g5⟩
      rw [show ((uA w.1 dst (va_cpy fs gs sp.toNatClampNeg dp.toNatClampNeg n.toNatClampNeg), w.2) : Wd).1 dst = va_cpy fs gs sp.toNatClampNeg dp.toNatClampNeg n.toNatClampNeg by funext j; simp [uA]]
      simp [Array.getElem?_setIfInBounds, hl2]
    obtain ⟨hs1, hs2, hs3, hs4, hs5⟩ := hst
    obtain ⟨t, a1, b1⟩ := k2 X G rfl hFit _ _ lsA cells slots ⟨hs1, hs2, (fun q hq => by
      rcases List.mem_append.mp hq with h | h
      · exact hS.2.2.1 q h
      · obtain ⟨z, -, hz⟩ := List.mem_map.mp h
        rw [← hz]
        exact Nat.le_add_right _ _), hs4, hs5⟩ hl _ hheap S'
    exact ⟨t, step t a1, b1⟩
  · rw [if_neg h0] at hm
    cases hm
end RulesP
section RulesQ
variable {α : Type} {C : KX} {D : MD} {Z : ZT α} {pc pc' : Nat} {ls : List (Nat × Value)} {st : List Value}
theorem C_loop {σ : Type} (L : σ → List (Nat × Value)) {F : (σ → Mo α) → σ → Mo α} (h : ∀ (k : σ → Mo α), (∀ s, Cmp C D Z pc (L s) [] (k s)) → ∀ s, Cmp C D Z pc (L s) [] (F k s)) : ∀ (n : Nat) (s : σ), Cmp C D Z pc (L s) [] (lp F n s) := by
  intro n
  induction n with
  | zero => intro s; exact C_mz
  | succ n ih => intro s; exact h (lp F n) ih s
theorem C_letI {e : Int32} {f : Int32 → Mo α} (kk : ∀ v : Int32, Cmp C D Z pc ls (.int v :: st) (f v)) : Cmp C D Z pc ls (.int e :: st) (mb (mp e) f) := kk e
theorem C_letL {e : Int64} {f : Int64 → Mo α} (kk : ∀ v : Int64, Cmp C D Z pc ls (.long v :: st) (f v)) : Cmp C D Z pc ls (.long e :: st) (mb (mp e) f) := kk e
end RulesQ
end
section
/-! ===== what each method does, as a computation over the abstract memory: by program out of the bytecode ===== -/
def m_X1_init (l0 : Nat) : Mo Unit :=
  mb (nA 100 8) fun p1 =>
  mb (sR 1 2 l0 p1) fun _ =>
  mb (nA 100 32) fun p2 =>
  mb (sR 1 3 l0 p2) fun _ =>
  mb (nA 100 32) fun p3 =>
  mb (sR 1 4 l0 p3) fun _ =>
  mb (nA 100 32) fun p4 =>
  mb (sR 1 5 l0 p4) fun _ =>
  mb (nA 100 32) fun p5 =>
  mb (sR 1 6 l0 p5) fun _ =>
  mb (nA 100 40) fun p6 =>
  mb (sR 1 7 l0 p6) fun _ =>
  mp ()
def m_X6_init (l0 : Nat) (l1 : Int32) : Mo Unit :=
  mb (nA 100 l1) fun p1 =>
  mb (sR 5 0 l0 p1) fun _ =>
  mp ()
def m_X5_init (l0 : Nat) : Mo Unit :=
  mb (nA 100 150) fun p1 =>
  mb (sR 4 0 l0 p1) fun _ =>
  mb (nO 1) fun p2 =>
  mb (m_X1_init p2) fun _ =>
  mb (sR 4 2 l0 p2) fun _ =>
  mb (nO 5) fun p3 =>
  mb (m_X6_init p3 16) fun _ =>
  mb (sR 4 3 l0 p3) fun _ =>
  mp ()
def m_X2_init (l0 : Nat) : Mo Unit :=
  mb (nA 103 10) fun p1 =>
  mb (sR 2 0 l0 p1) fun _ =>
  mp ()
def m_X0_init (l0 : Nat) (l1 : Int32) : Mo Unit :=
  mb (sI 0 0 l0 1) fun _ =>
  mb (mp ((1 + ((l1 * 6))))) fun v1 =>
  mb (nA 100 v1) fun p2 =>
  mb (sR 0 1 l0 p2) fun _ =>
  mb (nA 100 v1) fun p3 =>
  mb (sR 0 2 l0 p3) fun _ =>
  mb (nA 100 v1) fun p4 =>
  mb (sR 0 3 l0 p4) fun _ =>
  mb (nA 100 v1) fun p5 =>
  mb (sR 0 4 l0 p5) fun _ =>
  mb (nA 100 v1) fun p6 =>
  mb (sR 0 5 l0 p6) fun _ =>
  mb (nA 100 ((v1 * 8))) fun p7 =>
  mb (sR 0 6 l0 p7) fun _ =>
  mb (nA 100 l1) fun p8 =>
  mb (sR 0 7 l0 p8) fun _ =>
  mp ()
def m_X7_init (l0 : Nat) : Mo Unit :=
  mb (nO 4) fun p1 =>
  mb (m_X5_init p1) fun _ =>
  mb (sR 6 0 l0 p1) fun _ =>
  mb (nO 1) fun p2 =>
  mb (m_X1_init p2) fun _ =>
  mb (sR 6 1 l0 p2) fun _ =>
  mb (nO 2) fun p3 =>
  mb (m_X2_init p3) fun _ =>
  mb (sR 6 2 l0 p3) fun _ =>
  mb (nA 103 2) fun p4 =>
  mb (sR 6 3 l0 p4) fun _ =>
  mb (nO 5) fun p5 =>
  mb (m_X6_init p5 16) fun _ =>
  mb (sR 6 4 l0 p5) fun _ =>
  mb (nO 0) fun p6 =>
  mb (m_X0_init p6 16) fun _ =>
  mb (sR 6 5 l0 p6) fun _ =>
  mb (nA 101 16) fun p7 =>
  mb (sR 6 6 l0 p7) fun _ =>
  mp ()
def m_X5_append (l0 : Nat) (l1 : Int32) : Mo Int32 :=
  mb (gI 4 1 l0) fun size1 =>
  if size1 < 150 then
  mb (gR 4 0 l0) fun bytes2 =>
  mb (gI 4 1 l0) fun size3 =>
  mb (tI bytes2 size3 l1) fun _ =>
  mb (gI 4 1 l0) fun size4 =>
  mb (sI 4 1 l0 ((size4 + 1))) fun _ =>
  rZ 1
  else
  rZ 0
def m_X7_type (l0 : Nat) (l1 : Int32) : Mo Int32 :=
  if l1 < 0 then
  mp ((-1))
  else
  if l1 ≤ 255 then
  mb (gR 6 0 l0) fun text1 =>
  mb (vc 4 text1 (m_X5_append text1 l1)) fun c2 =>
  if c2 = 0 then
  mp ((-3))
  else
  mb (gR 6 0 l0) fun text3 =>
  mb (gI 4 1 text3) fun size4 =>
  mp size4
  else
  mp ((-1))
def m_X7_clear (l0 : Nat) : Mo Int32 :=
  mb (gR 6 0 l0) fun text1 =>
  mb (gI 4 1 text1) fun size2 =>
  mb (gR 6 0 l0) fun text3 =>
  mb (sI 4 1 text3 0) fun _ =>
  mp size2
def m_X1_take (l0 : Nat) (l1 : Nat) : Mo Unit :=
  mb (gI 1 0 l1) fun queries1 =>
  mb (sI 1 0 l0 queries1) fun _ =>
  mb (gI 1 1 l1) fun letters2 =>
  mb (sI 1 1 l0 letters2) fun _ =>
  mb (gR 1 2 l1) fun parts3 =>
  mb (gR 1 2 l0) fun parts4 =>
  mb (gR 1 2 l0) fun parts5 =>
  mb (aL 100 parts5) fun len6 =>
  mb (cpI parts3 0 parts4 0 len6) fun _ =>
  mb (gR 1 3 l1) fun sort7 =>
  mb (gR 1 3 l0) fun sort8 =>
  mb (gR 1 3 l0) fun sort9 =>
  mb (aL 100 sort9) fun len10 =>
  mb (cpI sort7 0 sort8 0 len10) fun _ =>
  mb (gR 1 4 l1) fun word11 =>
  mb (gR 1 4 l0) fun word12 =>
  mb (gR 1 4 l0) fun word13 =>
  mb (aL 100 word13) fun len14 =>
  mb (cpI word11 0 word12 0 len14) fun _ =>
  mb (gR 1 5 l1) fun earlier15 =>
  mb (gR 1 5 l0) fun earlier16 =>
  mb (gR 1 5 l0) fun earlier17 =>
  mb (aL 100 earlier17) fun len18 =>
  mb (cpI earlier15 0 earlier16 0 len18) fun _ =>
  mb (gR 1 6 l1) fun reach19 =>
  mb (gR 1 6 l0) fun reach20 =>
  mb (gR 1 6 l0) fun reach21 =>
  mb (aL 100 reach21) fun len22 =>
  mb (cpI reach19 0 reach20 0 len22) fun _ =>
  mb (gR 1 7 l1) fun row23 =>
  mb (gR 1 7 l0) fun row24 =>
  mb (gR 1 7 l0) fun row25 =>
  mb (aL 100 row25) fun len26 =>
  mb (cpI row23 0 row24 0 len26) fun _ =>
  mp ()
def m_X1_place (l0 : Nat) (l1 : Int32) (l2 : Int32) : Mo Int32 :=
  mp ((((l1 * 4)) + l2))
def m_X6_find_B2 (l0 : Nat) (l1 : Int32)  (k2 : Int32 → Mo Int32) (l2 : Int32) : Mo Int32 :=
  mb (gI 5 1 l0) fun count1 =>
  if count1 ≤ l2 then
  mp ((-9))
  else
  mb (gR 5 0 l0) fun codes2 =>
  mb (aI codes2 l2) fun x3 =>
  if x3 = l1 then
  mp l2
  else
  k2 ((l2 + 1))
def m_X6_find (l0 : Nat) (l1 : Int32) : Mo Int32 :=
  lp (fun k s => m_X6_find_B2 l0 l1 k s) FU 0
def m_X6_put_J65 (l0 : Nat) (l1 : Int32) (l2 : Int32)  : Mo Int32 :=
  mb (gR 5 0 l0) fun codes6 =>
  mb (tI codes6 l2 l1) fun _ =>
  mb (gI 5 1 l0) fun count7 =>
  mb (sI 5 1 l0 ((count7 + 1))) fun _ =>
  rZ 1
def m_X6_put_B29 (l0 : Nat) (l1 : Int32)  (k29 : Int32 → Mo Int32) (l2 : Int32) : Mo Int32 :=
  if l2 ≤ 0 then
  m_X6_put_J65 l0 l1 l2
  else
  mb (gR 5 0 l0) fun codes8 =>
  mb (aI codes8 ((l2 - 1))) fun x9 =>
  if x9 ≤ l1 then
  m_X6_put_J65 l0 l1 l2
  else
  mb (gR 5 0 l0) fun codes10 =>
  mb (gR 5 0 l0) fun codes11 =>
  mb (aI codes11 ((l2 - 1))) fun x12 =>
  mb (tI codes10 l2 x12) fun _ =>
  k29 ((l2 + (-1)))
def m_X6_put (l0 : Nat) (l1 : Int32) : Mo Int32 :=
  mb (vc 5 l0 (m_X6_find l0 l1)) fun c1 =>
  if c1 < 0 then
  mb (gI 5 1 l0) fun count2 =>
  mb (gR 5 0 l0) fun codes3 =>
  mb (aL 100 codes3) fun len4 =>
  if count2 < len4 then
  mb (gI 5 1 l0) fun count5 =>
  lp (fun k s => m_X6_put_B29 l0 l1 k s) FU count5
  else
  rZ 0
  else
  rZ 1
def m_X6_putWordsOf_J55 (l0 : Nat) (l1 : Nat) (l2 : Int32) (l3 : Int32) (k2 : Int32 → Mo Unit) : Mo Unit :=
  k2 ((l3 + 1))
def m_X6_putWordsOf_B2 (l0 : Nat) (l1 : Nat) (l2 : Int32)  (k2 : Int32 → Mo Unit) (l3 : Int32) : Mo Unit :=
  mb (gR 1 2 l1) fun parts1 =>
  mb (aI parts1 l2) fun x2 =>
  if x2 ≤ l3 then
  mp ()
  else
  mb (vc 1 l1 (m_X1_place l1 l2 l3)) fun c3 =>
  mb (gR 1 4 l1) fun word4 =>
  mb (aI word4 c3) fun x5 =>
  mb (vc 5 l0 (m_X6_put l0 x5)) fun c6 =>
  mb (gR 1 3 l1) fun sort7 =>
  mb (aI sort7 c3) fun x8 =>
  if x8 = 2 then
  mb (gR 1 5 l1) fun earlier9 =>
  mb (aI earlier9 c3) fun x10 =>
  mb (vc 5 l0 (m_X6_put l0 x10)) fun c11 =>
  m_X6_putWordsOf_J55 l0 l1 l2 l3 k2
  else
  m_X6_putWordsOf_J55 l0 l1 l2 l3 k2
def m_X6_putWordsOf (l0 : Nat) (l1 : Nat) (l2 : Int32) : Mo Unit :=
  lp (fun k s => m_X6_putWordsOf_B2 l0 l1 l2 k s) FU 0
def m_X6_gatherAll_B7 (l0 : Nat) (l1 : Nat)  (k7 : Int32 → Mo Unit) (l2 : Int32) : Mo Unit :=
  mb (gI 1 0 l1) fun queries1 =>
  if queries1 ≤ l2 then
  mp ()
  else
  mb (vc 5 l0 (m_X6_putWordsOf l0 l1 l2)) fun _ =>
  k7 ((l2 + 1))
def m_X6_gatherAll (l0 : Nat) (l1 : Nat) : Mo Unit :=
  mb (sI 5 1 l0 0) fun _ =>
  lp (fun k s => m_X6_gatherAll_B7 l0 l1 k s) FU 0
def m_X5_kindOf_J28 (l0 : Int32)  : Mo Int32 :=
  if l0 = 59 then
  mp 3
  else
  mp 4
def m_X5_kindOf_J14 (l0 : Int32)  : Mo Int32 :=
  if l0 < 48 then
  m_X5_kindOf_J28 l0
  else
  if 57 < l0 then
  m_X5_kindOf_J28 l0
  else
  mp 2
def m_X5_kindOf (l0 : Int32) : Mo Int32 :=
  if l0 < 97 then
  m_X5_kindOf_J14 l0
  else
  if 122 < l0 then
  m_X5_kindOf_J14 l0
  else
  mp 1
def m_X5_advance_J124 (l0 : Nat) (k97 : Unit → Mo Unit) : Mo Unit :=
  mb (gR 4 0 l0) fun bytes15 =>
  mb (gI 4 5 l0) fun end16 =>
  mb (aI bytes15 end16) fun x17 =>
  mb (m_X5_kindOf x17) fun c18 =>
  mb (gI 4 6 l0) fun kind19 =>
  if c18 = kind19 then
  mb (gI 4 5 l0) fun end20 =>
  mb (sI 4 5 l0 ((end20 + 1))) fun _ =>
  k97 ()
  else
  mp ()
def m_X5_advance_B97 (l0 : Nat)  (k97 : Unit → Mo Unit)  : Mo Unit :=
  mb (gI 4 5 l0) fun end12 =>
  mb (gI 4 1 l0) fun size13 =>
  if size13 ≤ end12 then
  mp ()
  else
  mb (gI 4 6 l0) fun kind14 =>
  if kind14 = 1 then
  m_X5_advance_J124 l0 k97
  else
  mb (gI 4 6 l0) fun kind21 =>
  if kind21 = 2 then
  m_X5_advance_J124 l0 k97
  else
  mp ()
def m_X5_advance_J46 (l0 : Nat)  : Mo Unit :=
  mb (gI 4 4 l0) fun begin4 =>
  mb (sI 4 5 l0 begin4) fun _ =>
  mb (gI 4 4 l0) fun begin5 =>
  mb (gI 4 1 l0) fun size6 =>
  if begin5 < size6 then
  mb (gR 4 0 l0) fun bytes7 =>
  mb (gI 4 4 l0) fun begin8 =>
  mb (aI bytes7 begin8) fun x9 =>
  mb (m_X5_kindOf x9) fun c10 =>
  mb (sI 4 6 l0 c10) fun _ =>
  mb (gI 4 5 l0) fun end11 =>
  mb (sI 4 5 l0 ((end11 + 1))) fun _ =>
  lp (fun k s => m_X5_advance_B97 l0 k ) FU ()
  else
  mb (sI 4 6 l0 0) fun _ =>
  mp ()
def m_X5_advance_B8 (l0 : Nat)  (k8 : Unit → Mo Unit)  : Mo Unit :=
  mb (gI 4 4 l0) fun begin2 =>
  mb (gI 4 1 l0) fun size3 =>
  if size3 ≤ begin2 then
  m_X5_advance_J46 l0
  else
  mb (gR 4 0 l0) fun bytes22 =>
  mb (gI 4 4 l0) fun begin23 =>
  mb (aI bytes22 begin23) fun x24 =>
  if x24 = 32 then
  mb (gI 4 4 l0) fun begin25 =>
  mb (sI 4 4 l0 ((begin25 + 1))) fun _ =>
  k8 ()
  else
  m_X5_advance_J46 l0
def m_X5_advance (l0 : Nat) : Mo Unit :=
  mb (gI 4 5 l0) fun end1 =>
  mb (sI 4 4 l0 end1) fun _ =>
  lp (fun k s => m_X5_advance_B8 l0 k ) FU ()
def m_X5_hasOpenQuery (l0 : Nat) : Mo Int32 :=
  mb (gR 4 2 l0) fun draft1 =>
  mb (gI 1 0 draft1) fun queries2 =>
  mb (gI 4 7 l0) fun queriesBefore3 =>
  if queries2 ≤ queriesBefore3 then
  rZ 0
  else
  rZ 1
def m_X1_partsOfLast (l0 : Nat) : Mo Int32 :=
  mb (gI 1 0 l0) fun queries1 =>
  if queries1 ≤ 0 then
  mp 0
  else
  mb (gR 1 2 l0) fun parts2 =>
  mb (gI 1 0 l0) fun queries3 =>
  mb (aI parts2 ((queries3 - 1))) fun x4 =>
  mp x4
def m_X5_lacksParts (l0 : Nat) : Mo Int32 :=
  mb (vc 4 l0 (m_X5_hasOpenQuery l0 )) fun c1 =>
  if c1 = 0 then
  rZ 0
  else
  mb (gR 4 2 l0) fun draft2 =>
  mb (vc 1 draft2 (m_X1_partsOfLast draft2 )) fun c3 =>
  if c3 = 0 then
  rZ 1
  else
  rZ 0
def m_X5_mayHavePart (l0 : Nat) : Mo Int32 :=
  mb (vc 4 l0 (m_X5_hasOpenQuery l0 )) fun c1 =>
  if c1 = 0 then
  rZ 0
  else
  mb (gR 4 2 l0) fun draft2 =>
  mb (vc 1 draft2 (m_X1_partsOfLast draft2 )) fun c3 =>
  if 4 ≤ c3 then
  rZ 0
  else
  rZ 1
def m_X7_isLetter (l0 : Int32) : Mo Int32 :=
  if l0 < 97 then
  rZ 0
  else
  if 105 ≤ l0 then
  rZ 0
  else
  rZ 1
def m_X3_shiftOf (l0 : Int32) : Mo Int32 :=
  mp ((4 * ((5 - l0))))
def m_X3_withLetter (l0 : Int32) (l1 : Int32) (l2 : Int32) : Mo Int32 :=
  mb (m_X3_shiftOf l1) fun c1 =>
  mp ((l0 ||| ((((l2 + 1)) <<< (c1 &&& 31)))))
def m_X5_readWord_B31 (l0 : Nat)  (k31 : Int32 × Int32 → Mo Int32) (l1 : Int32) (l2 : Int32) : Mo Int32 :=
  mb (gI 4 5 l0) fun end5 =>
  if end5 ≤ l2 then
  mb (gR 4 3 l0) fun words6 =>
  mb (vc 5 words6 (m_X6_put words6 l1)) fun c7 =>
  if c7 = 0 then
  mp 0
  else
  mb (vc 4 l0 (m_X5_advance l0 )) fun _ =>
  mp l1
  else
  mb (gR 4 0 l0) fun bytes8 =>
  mb (aI bytes8 l2) fun x9 =>
  mb (m_X7_isLetter x9) fun c10 =>
  if c10 = 0 then
  mp 0
  else
  mb (gI 4 4 l0) fun begin11 =>
  mb (gR 4 0 l0) fun bytes12 =>
  mb (aI bytes12 l2) fun x13 =>
  mb (m_X3_withLetter l1 ((l2 - begin11)) ((x13 - 97))) fun c14 =>
  k31 (c14, (l2 + 1))
def m_X5_readWord (l0 : Nat) : Mo Int32 :=
  mb (gI 4 6 l0) fun kind1 =>
  if kind1 = 1 then
  mb (gI 4 5 l0) fun end2 =>
  mb (gI 4 4 l0) fun begin3 =>
  if ((end2 - begin3)) ≤ 6 then
  mb (gI 4 4 l0) fun begin4 =>
  lp (fun k s => m_X5_readWord_B31 l0 k s.1 s.2) FU (0, begin4)
  else
  mp 0
  else
  mp 0
def m_X1_addPart (l0 : Nat) (l1 : Int32) (l2 : Int32) (l3 : Int32) (l4 : Int32) : Mo Unit :=
  mb (gI 1 0 l0) fun queries1 =>
  if queries1 ≤ 0 then
  mp ()
  else
  mb (vc 1 l0 (m_X1_partsOfLast l0 )) fun c2 =>
  if c2 < 4 then
  mb (gI 1 0 l0) fun queries3 =>
  mb (vc 1 l0 (m_X1_partsOfLast l0 )) fun c4 =>
  mb (vc 1 l0 (m_X1_place l0 ((queries3 - 1)) c4)) fun c5 =>
  mb (gR 1 3 l0) fun sort6 =>
  mb (tI sort6 c5 l1) fun _ =>
  mb (gR 1 4 l0) fun word7 =>
  mb (tI word7 c5 l2) fun _ =>
  mb (gR 1 5 l0) fun earlier8 =>
  mb (tI earlier8 c5 l3) fun _ =>
  mb (gR 1 6 l0) fun reach9 =>
  mb (tI reach9 c5 l4) fun _ =>
  mb (gR 1 2 l0) fun parts10 =>
  mb (gI 1 0 l0) fun queries11 =>
  mb (aI parts10 ((queries11 - 1))) fun x12 =>
  mb (tI parts10 ((queries11 - 1)) ((x12 + 1))) fun _ =>
  mp ()
  else
  mp ()
def m_X5_readStop (l0 : Nat) : Mo Int32 :=
  mb (gI 4 6 l0) fun kind1 =>
  if kind1 = 3 then
  mb (vc 4 l0 (m_X5_advance l0 )) fun _ =>
  rZ 1
  else
  rZ 0
def m_X5_readPart (l0 : Nat) (l1 : Int32) : Mo Int32 :=
  mb (vc 4 l0 (m_X5_mayHavePart l0 )) fun c1 =>
  if c1 = 0 then
  rZ 0
  else
  mb (vc 4 l0 (m_X5_advance l0 )) fun _ =>
  mb (vc 4 l0 (m_X5_readWord l0 )) fun c2 =>
  if c2 = 0 then
  rZ 0
  else
  mb (gR 4 2 l0) fun draft3 =>
  mb (vc 1 draft3 (m_X1_addPart draft3 l1 c2 0 0)) fun _ =>
  mb (vc 4 l0 (m_X5_readStop l0 )) fun c4 =>
  rZ c4
def m_X1_lastHasNear_B2 (l0 : Nat)  (k2 : Int32 → Mo Int32) (l1 : Int32) : Mo Int32 :=
  mb (vc 1 l0 (m_X1_partsOfLast l0 )) fun c1 =>
  if c1 ≤ l1 then
  rZ 0
  else
  mb (gR 1 3 l0) fun sort2 =>
  mb (gI 1 0 l0) fun queries3 =>
  mb (vc 1 l0 (m_X1_place l0 ((queries3 - 1)) l1)) fun c4 =>
  mb (aI sort2 c4) fun x5 =>
  if x5 = 2 then
  rZ 1
  else
  k2 ((l1 + 1))
def m_X1_lastHasNear (l0 : Nat) : Mo Int32 :=
  lp (fun k s => m_X1_lastHasNear_B2 l0 k s) FU 0
def m_X5_readNear (l0 : Nat) : Mo Int32 :=
  mb (vc 4 l0 (m_X5_mayHavePart l0 )) fun c1 =>
  if c1 = 0 then
  rZ 0
  else
  mb (gR 4 2 l0) fun draft2 =>
  mb (vc 1 draft2 (m_X1_lastHasNear draft2 )) fun c3 =>
  if c3 = 0 then
  mb (vc 4 l0 (m_X5_advance l0 )) fun _ =>
  mb (vc 4 l0 (m_X5_readWord l0 )) fun c4 =>
  if c4 = 0 then
  rZ 0
  else
  mb (vc 4 l0 (m_X5_readWord l0 )) fun c5 =>
  if c5 = 0 then
  rZ 0
  else
  mb (gI 4 6 l0) fun kind6 =>
  if kind6 = 2 then
  mb (gI 4 5 l0) fun end7 =>
  mb (gI 4 4 l0) fun begin8 =>
  if ((end7 - begin8)) = 1 then
  mb (gR 4 0 l0) fun bytes9 =>
  mb (gI 4 4 l0) fun begin10 =>
  mb (aI bytes9 begin10) fun x11 =>
  if x11 = 48 then
  rZ 0
  else
  mb (gR 4 2 l0) fun draft12 =>
  mb (gR 4 0 l0) fun bytes13 =>
  mb (gI 4 4 l0) fun begin14 =>
  mb (aI bytes13 begin14) fun x15 =>
  mb (vc 1 draft12 (m_X1_addPart draft12 2 c5 c4 ((x15 - 48)))) fun _ =>
  mb (vc 4 l0 (m_X5_advance l0 )) fun _ =>
  mb (vc 4 l0 (m_X5_readStop l0 )) fun c16 =>
  rZ c16
  else
  rZ 0
  else
  rZ 0
  else
  rZ 0
def m_X1_startQuery (l0 : Nat) : Mo Int32 :=
  mb (gI 1 0 l0) fun queries1 =>
  if queries1 < 8 then
  mb (gR 1 2 l0) fun parts2 =>
  mb (gI 1 0 l0) fun queries3 =>
  mb (tI parts2 queries3 0) fun _ =>
  mb (gI 1 0 l0) fun queries4 =>
  mb (sI 1 0 l0 ((queries4 + 1))) fun _ =>
  rZ 1
  else
  rZ 0
def m_X5_readQuery (l0 : Nat) : Mo Int32 :=
  mb (vc 4 l0 (m_X5_lacksParts l0 )) fun c1 =>
  if c1 = 0 then
  mb (gR 4 2 l0) fun draft2 =>
  mb (vc 1 draft2 (m_X1_startQuery draft2 )) fun c3 =>
  if c3 = 0 then
  rZ 0
  else
  mb (vc 4 l0 (m_X5_advance l0 )) fun _ =>
  mb (vc 4 l0 (m_X5_readStop l0 )) fun c4 =>
  rZ c4
  else
  rZ 0
def m_X5_readItem (l0 : Nat) : Mo Int32 :=
  mb (gI 4 6 l0) fun kind1 =>
  if kind1 = 1 then
  mb (gI 4 5 l0) fun end2 =>
  mb (gI 4 4 l0) fun begin3 =>
  if ((end2 - begin3)) = 1 then
  mb (gR 4 0 l0) fun bytes4 =>
  mb (gI 4 4 l0) fun begin5 =>
  mb (aI bytes4 begin5) fun x6 =>
  if x6 = 104 then
  mb (vc 4 l0 (m_X5_readPart l0 0)) fun c7 =>
  rZ c7
  else if x6 = 105 then
  rZ 0
  else if x6 = 106 then
  rZ 0
  else if x6 = 107 then
  rZ 0
  else if x6 = 108 then
  rZ 0
  else if x6 = 109 then
  rZ 0
  else if x6 = 110 then
  mb (vc 4 l0 (m_X5_readPart l0 1)) fun c8 =>
  rZ c8
  else if x6 = 111 then
  rZ 0
  else if x6 = 112 then
  mb (vc 4 l0 (m_X5_readNear l0 )) fun c9 =>
  rZ c9
  else if x6 = 113 then
  mb (vc 4 l0 (m_X5_readQuery l0 )) fun c10 =>
  rZ c10
  else 
  rZ 0
  else
  rZ 0
  else
  rZ 0
def m_X5_readBehind_J67 (l0 : Nat)  : Mo Int32 :=
  mb (vc 4 l0 (m_X5_lacksParts l0 )) fun c4 =>
  if c4 = 0 then
  mp ((-9))
  else
  mb (gI 4 4 l0) fun begin5 =>
  mp begin5
def m_X5_readBehind_B35 (l0 : Nat)  (k35 : Int32 → Mo Int32) (l2 : Int32) : Mo Int32 :=
  if 150 ≤ l2 then
  m_X5_readBehind_J67 l0
  else
  mb (gI 4 6 l0) fun kind6 =>
  if kind6 = 0 then
  m_X5_readBehind_J67 l0
  else
  mb (vc 4 l0 (m_X5_readItem l0 )) fun c7 =>
  if c7 = 0 then
  mb (gI 4 4 l0) fun begin8 =>
  mp begin8
  else
  k35 ((l2 + 1))
def m_X5_readBehind (l0 : Nat) (l1 : Nat) : Mo Int32 :=
  mb (gR 4 2 l0) fun draft1 =>
  mb (vc 1 draft1 (m_X1_take draft1 l1)) fun _ =>
  mb (gI 1 0 l1) fun queries2 =>
  mb (sI 4 7 l0 queries2) fun _ =>
  mb (gR 4 3 l0) fun words3 =>
  mb (vc 5 words3 (m_X6_gatherAll words3 l1)) fun _ =>
  mb (sI 4 5 l0 0) fun _ =>
  mb (vc 4 l0 (m_X5_advance l0 )) fun _ =>
  lp (fun k s => m_X5_readBehind_B35 l0 k s) FU 0
def m_X2_push_J45 (l0 : Nat) (l1 : Nat) (l2 : Nat)  : Mo Unit :=
  mb (vc 1 l2 (m_X1_take l2 l1)) fun _ =>
  mb (gI 2 2 l0) fun known9 =>
  mb (sI 2 2 l0 ((if 10 < ((known9 + 1)) then 10 else ((known9 + 1))))) fun _ =>
  mp ()
def m_X2_push (l0 : Nat) (l1 : Nat) : Mo Unit :=
  mb (gI 2 1 l0) fun latest1 =>
  mb (sI 2 1 l0 ((((latest1 + 1)) - ((latest1 + 1)) / 10 * 10))) fun _ =>
  mb (gR 2 0 l0) fun ring2 =>
  mb (gI 2 1 l0) fun latest3 =>
  mb (aQ ring2 latest3) fun o5 => match o5 with
  | none =>
  mb (nO 1) fun p6 =>
  mb (m_X1_init p6) fun _ =>
  mb (gR 2 0 l0) fun ring7 =>
  mb (gI 2 1 l0) fun latest8 =>
  mb (tQ ring7 latest8 p6) fun _ =>
  m_X2_push_J45 l0 l1 p6
  | some r4 =>
  m_X2_push_J45 l0 l1 r4
def m_J7_fill_53178_B5 (l0 : Nat) (l1 : Int32) (l3 : Int32)  (k5 : Int32 → Mo Unit) (l2 : Int32) : Mo Unit :=
  if l3 ≤ l2 then
  mp ()
  else
  mb (tI l0 l2 l1) fun _ =>
  k5 ((l2 + 1))
def m_J7_fill_53178 (l0 : Nat) (l1 : Int32) : Mo Unit :=
  mb (aL 100 l0) fun len1 =>
  lp (fun k s => m_J7_fill_53178_B5 l0 l1 len1 k s) FU 0
def m_X0_link_J108 (l0 : Nat) (l1 : Int32) (l2 : Int32) (k2 : Int32 → Mo Unit) (k36 : Int32 → Mo Unit) : Mo Unit :=
  k36 ((l2 + 1))
def m_X0_link_J66 (l0 : Nat) (l1 : Int32) (l2 : Int32) (s0 : Int32) (k2 : Int32 → Mo Unit) (k36 : Int32 → Mo Unit) : Mo Unit :=
  mb (gR 0 6 l0) fun follow6 =>
  mb (aI follow6 ((((l1 * 8)) + l2))) fun x7 =>
  if x7 = 0 then
  mb (gR 0 6 l0) fun follow9 =>
  mb (tI follow9 ((((l1 * 8)) + l2)) s0) fun _ =>
  m_X0_link_J108 l0 l1 l2 k2 k36
  else
  mb (gR 0 4 l0) fun fail8 =>
  mb (tI fail8 x7 s0) fun _ =>
  m_X0_link_J108 l0 l1 l2 k2 k36
def m_X0_link_B36 (l0 : Nat) (l1 : Int32) (k2 : Int32 → Mo Unit) (k36 : Int32 → Mo Unit) (l2 : Int32) : Mo Unit :=
  if 8 ≤ l2 then
  k2 ((l1 + 1))
  else
  if l1 = 0 then
  m_X0_link_J66 l0 l1 l2 0 k2 k36
  else
  mb (gR 0 6 l0) fun follow2 =>
  mb (gR 0 4 l0) fun fail3 =>
  mb (aI fail3 l1) fun x4 =>
  mb (aI follow2 ((((x4 * 8)) + l2))) fun x5 =>
  m_X0_link_J66 l0 l1 l2 x5 k2 k36
def m_X0_link_J34 (l0 : Nat) (l1 : Int32) (k2 : Int32 → Mo Unit) : Mo Unit :=
  lp (fun k s => m_X0_link_B36 l0 l1 k2 k s) FU 0
def m_X0_link_B2 (l0 : Nat)  (k2 : Int32 → Mo Unit) (l1 : Int32) : Mo Unit :=
  mb (gI 0 0 l0) fun nodes1 =>
  if nodes1 ≤ l1 then
  mp ()
  else
  if l1 ≤ 0 then
  m_X0_link_J34 l0 l1 k2
  else
  mb (gR 0 5 l0) fun ends10 =>
  mb (aI ends10 l1) fun x11 =>
  mb (gR 0 5 l0) fun ends12 =>
  mb (gR 0 4 l0) fun fail13 =>
  mb (aI fail13 l1) fun x14 =>
  mb (aI ends12 x14) fun x15 =>
  mb (tI ends10 l1 ((x11 ||| x15))) fun _ =>
  m_X0_link_J34 l0 l1 k2
def m_X0_link (l0 : Nat) : Mo Unit :=
  lp (fun k s => m_X0_link_B2 l0 k s) FU 0
def m_X3_sizeOf_J25 (l0 : Int32) (l1 : Int32) (l2 : Int32) (k4 : Int32 × Int32 → Mo Int32) : Mo Int32 :=
  k4 (l1, (l2 + 1))
def m_X3_sizeOf_B4 (l0 : Int32)  (k4 : Int32 × Int32 → Mo Int32) (l1 : Int32) (l2 : Int32) : Mo Int32 :=
  if 6 ≤ l2 then
  mp l1
  else
  mb (m_X3_shiftOf l2) fun c1 =>
  if ((((l0 >>> (c1 &&& 31))) &&& 15)) = 0 then
  m_X3_sizeOf_J25 l0 l1 l2 k4
  else
  m_X3_sizeOf_J25 l0 ((l1 + 1)) l2 k4
def m_X3_sizeOf (l0 : Int32) : Mo Int32 :=
  lp (fun k s => m_X3_sizeOf_B4 l0 k s.1 s.2) FU (0, 0)
def m_X3_headOf (l0 : Int32) (l1 : Int32) : Mo Int32 :=
  mb (m_X3_shiftOf ((l1 - 1))) fun c1 =>
  mb (m_X3_shiftOf ((l1 - 1))) fun c2 =>
  mp ((((l0 >>> (c1 &&& 31))) <<< (c2 &&& 31)))
def m_X3_letterAt (l0 : Int32) (l1 : Int32) : Mo Int32 :=
  mb (m_X3_shiftOf l1) fun c1 =>
  mp ((if (0 : Int32) < ((((((l0 >>> (c1 &&& 31))) &&& 15)) - 1)) then ((((((l0 >>> (c1 &&& 31))) &&& 15)) - 1)) else 0))
def m_X0_addNode (l0 : Nat) (l1 : Int32) (l2 : Int32) (l3 : Int32) : Mo Unit :=
  mb (gI 0 0 l0) fun nodes1 =>
  mb (gR 0 1 l0) fun size2 =>
  mb (aL 100 size2) fun len3 =>
  if nodes1 < len3 then
  mb (gR 0 1 l0) fun size4 =>
  mb (gI 0 0 l0) fun nodes5 =>
  mb (tI size4 nodes5 l3) fun _ =>
  mb (gR 0 2 l0) fun last6 =>
  mb (gI 0 0 l0) fun nodes7 =>
  mb (tI last6 nodes7 l2) fun _ =>
  mb (gR 0 3 l0) fun parent8 =>
  mb (gI 0 0 l0) fun nodes9 =>
  mb (tI parent8 nodes9 l1) fun _ =>
  mb (gR 0 6 l0) fun follow10 =>
  mb (gI 0 0 l0) fun nodes11 =>
  mb (tI follow10 ((((l1 * 8)) + l2)) nodes11) fun _ =>
  mb (gI 0 0 l0) fun nodes12 =>
  mb (sI 0 0 l0 ((nodes12 + 1))) fun _ =>
  mp ()
  else
  mp ()
def m_X0_growTo_J117 (l0 : Nat) (l1 : Int32) (l2 : Nat) (l3 : Int32) (l4 : Int32) (k5 : Int32 × Int32 → Mo Unit) : Mo Unit :=
  k5 (l3, (l4 + 1))
def m_X0_growTo_J76 (l0 : Nat) (l1 : Int32) (l2 : Nat) (l4 : Int32) (l5 : Int32) (l6 : Int32) (k5 : Int32 × Int32 → Mo Unit) : Mo Unit :=
  mb (gR 0 7 l0) fun reached8 =>
  mb (gI 0 0 l0) fun nodes9 =>
  mb (tI reached8 l4 ((nodes9 - 1))) fun _ =>
  if l6 = l5 then
  mb (gR 0 5 l0) fun ends10 =>
  mb (gI 0 0 l0) fun nodes11 =>
  mb (aI ends10 ((nodes11 - 1))) fun x12 =>
  mb (tI ends10 ((nodes11 - 1)) ((x12 ||| (((1 : Int32) <<< (l4 &&& 31)))))) fun _ =>
  m_X0_growTo_J117 l0 l1 l2 l6 l4 k5
  else
  m_X0_growTo_J117 l0 l1 l2 l6 l4 k5
def m_X0_growTo_B5 (l0 : Nat) (l1 : Int32) (l2 : Nat)  (k5 : Int32 × Int32 → Mo Unit) (l3 : Int32) (l4 : Int32) : Mo Unit :=
  mb (gI 5 1 l2) fun count1 =>
  if count1 ≤ l4 then
  mp ()
  else
  mb (gR 0 7 l0) fun reached2 =>
  mb (aL 100 reached2) fun len3 =>
  if len3 ≤ l4 then
  mp ()
  else
  mb (gR 5 0 l2) fun codes4 =>
  mb (aI codes4 l4) fun x5 =>
  mb (m_X3_sizeOf x5) fun c6 =>
  if c6 < l1 then
  m_X0_growTo_J117 l0 l1 l2 l3 l4 k5
  else
  mb (m_X3_headOf x5 l1) fun c7 =>
  if c7 = l3 then
  m_X0_growTo_J76 l0 l1 l2 l4 x5 c7 k5
  else
  mb (gR 0 7 l0) fun reached13 =>
  mb (aI reached13 l4) fun x14 =>
  mb (m_X3_letterAt x5 ((l1 - 1))) fun c15 =>
  mb (vc 0 l0 (m_X0_addNode l0 x14 c15 l1)) fun _ =>
  m_X0_growTo_J76 l0 l1 l2 l4 x5 c7 k5
def m_X0_growTo (l0 : Nat) (l1 : Int32) (l2 : Nat) : Mo Unit :=
  lp (fun k s => m_X0_growTo_B5 l0 l1 l2 k s.1 s.2) FU (0, 0)
def m_X0_build_B31 (l0 : Nat) (l1 : Nat)  (k31 : Int32 → Mo Unit) (l2 : Int32) : Mo Unit :=
  if 6 < l2 then
  mb (vc 0 l0 (m_X0_link l0 )) fun _ =>
  mp ()
  else
  mb (vc 0 l0 (m_X0_growTo l0 l2 l1)) fun _ =>
  k31 ((l2 + 1))
def m_X0_build (l0 : Nat) (l1 : Nat) : Mo Unit :=
  mb (sI 0 0 l0 1) fun _ =>
  mb (gR 0 6 l0) fun follow1 =>
  mb (m_J7_fill_53178 follow1 0) fun _ =>
  mb (gR 0 5 l0) fun ends2 =>
  mb (m_J7_fill_53178 ends2 0) fun _ =>
  mb (gR 0 7 l0) fun reached3 =>
  mb (m_J7_fill_53178 reached3 0) fun _ =>
  lp (fun k s => m_X0_build_B31 l0 l1 k s) FU 1
def m_J7_fill_d0a16_B6 (l0 : Nat) (l1 : Int64) (l4 : Int32)  (k6 : Int32 → Mo Unit) (l3 : Int32) : Mo Unit :=
  if l4 ≤ l3 then
  mp ()
  else
  mb (tJ l0 l3 l1) fun _ =>
  k6 ((l3 + 1))
def m_J7_fill_d0a16 (l0 : Nat) (l1 : Int64) : Mo Unit :=
  mb (aL 101 l0) fun len1 =>
  lp (fun k s => m_J7_fill_d0a16_B6 l0 l1 len1 k s) FU 0
def m_X7_walk_J101 (l0 : Nat) (l1 : Int32) (l2 : Int32) (l3 : Int32) (k15 : Int32 → Mo Unit) (k70 : Int32 → Mo Unit) : Mo Unit :=
  k70 ((l3 + 1))
def m_X7_walk_B70 (l0 : Nat) (l1 : Int32) (l2 : Int32) (k15 : Int32 → Mo Unit) (k70 : Int32 → Mo Unit) (l3 : Int32) : Mo Unit :=
  mb (gR 6 4 l0) fun words15 =>
  mb (gI 5 1 words15) fun count16 =>
  if count16 ≤ l3 then
  k15 ((l1 + 1))
  else
  if ((((l2 >>> (l3 &&& 31))) &&& 1)) = 0 then
  m_X7_walk_J101 l0 l1 l2 l3 k15 k70
  else
  mb (gR 6 6 l0) fun hits17 =>
  mb (aJ hits17 l3) fun x18 =>
  mb (tJ hits17 l3 ((x18 ||| (((1 : Int64) <<< ((l1 : Int32).toInt64 &&& 63)))))) fun _ =>
  m_X7_walk_J101 l0 l1 l2 l3 k15 k70
def m_X7_walk_B15 (l0 : Nat)  (k15 : Int32 → Mo Unit) (l1 : Int32) : Mo Unit :=
  mb (gR 6 1 l0) fun held2 =>
  mb (gI 1 1 held2) fun letters3 =>
  if letters3 ≤ l1 then
  mp ()
  else
  mb (gR 6 5 l0) fun automaton4 =>
  mb (gR 0 6 automaton4) fun follow5 =>
  mb (gI 6 7 l0) fun at6 =>
  mb (gR 6 1 l0) fun held7 =>
  mb (gR 1 7 held7) fun row8 =>
  mb (aI row8 l1) fun x9 =>
  mb (aI follow5 ((((at6 * 8)) + x9))) fun x10 =>
  mb (sI 6 7 l0 x10) fun _ =>
  mb (gR 6 5 l0) fun automaton11 =>
  mb (gR 0 5 automaton11) fun ends12 =>
  mb (gI 6 7 l0) fun at13 =>
  mb (aI ends12 at13) fun x14 =>
  lp (fun k s => m_X7_walk_B70 l0 l1 x14 k15 k s) FU 0
def m_X7_walk (l0 : Nat) : Mo Unit :=
  mb (gR 6 6 l0) fun hits1 =>
  mb (m_J7_fill_d0a16 hits1 0) fun _ =>
  mb (sI 6 7 l0 0) fun _ =>
  lp (fun k s => m_X7_walk_B15 l0 k s) FU 0
def m_X7_rebuild (l0 : Nat) : Mo Unit :=
  mb (gR 6 4 l0) fun words1 =>
  mb (gR 6 1 l0) fun held2 =>
  mb (vc 5 words1 (m_X6_gatherAll words1 held2)) fun _ =>
  mb (gR 6 5 l0) fun automaton3 =>
  mb (gR 6 4 l0) fun words4 =>
  mb (vc 0 automaton3 (m_X0_build automaton3 words4)) fun _ =>
  mb (vc 6 l0 (m_X7_walk l0 )) fun _ =>
  mp ()
def m_X7_adds (l0 : Nat) : Mo Int32 :=
  mb (gR 6 0 l0) fun text1 =>
  mb (gR 6 1 l0) fun held2 =>
  mb (vc 4 text1 (m_X5_readBehind text1 held2)) fun c3 =>
  if c3 < 0 then
  mb (gR 6 0 l0) fun text4 =>
  mb (gR 4 2 text4) fun draft5 =>
  mb (gI 1 0 draft5) fun queries6 =>
  mb (gR 6 1 l0) fun held7 =>
  mb (gI 1 0 held7) fun queries8 =>
  mb (mp ((queries6 - queries8))) fun v9 =>
  mb (gR 6 2 l0) fun history10 =>
  mb (gR 6 1 l0) fun held11 =>
  mb (vc 2 history10 (m_X2_push history10 held11)) fun _ =>
  mb (gR 6 1 l0) fun held12 =>
  mb (gR 6 0 l0) fun text13 =>
  mb (gR 4 2 text13) fun draft14 =>
  mb (vc 1 held12 (m_X1_take held12 draft14)) fun _ =>
  mb (gR 6 0 l0) fun text15 =>
  mb (sI 4 1 text15 0) fun _ =>
  mb (vc 6 l0 (m_X7_rebuild l0 )) fun _ =>
  mp v9
  else
  mp ((((-10)) - c3))
def m_X7_isQuery (l0 : Nat) (l1 : Int32) : Mo Int32 :=
  if l1 < 0 then
  rZ 0
  else
  mb (gR 6 1 l0) fun held1 =>
  mb (gI 1 0 held1) fun queries2 =>
  if queries2 ≤ l1 then
  rZ 0
  else
  rZ 1
def m_X1_movePart (l0 : Nat) (l1 : Int32) (l2 : Int32) : Mo Unit :=
  mb (gR 1 3 l0) fun sort1 =>
  mb (gR 1 3 l0) fun sort2 =>
  mb (aI sort2 l1) fun x3 =>
  mb (tI sort1 l2 x3) fun _ =>
  mb (gR 1 4 l0) fun word4 =>
  mb (gR 1 4 l0) fun word5 =>
  mb (aI word5 l1) fun x6 =>
  mb (tI word4 l2 x6) fun _ =>
  mb (gR 1 5 l0) fun earlier7 =>
  mb (gR 1 5 l0) fun earlier8 =>
  mb (aI earlier8 l1) fun x9 =>
  mb (tI earlier7 l2 x9) fun _ =>
  mb (gR 1 6 l0) fun reach10 =>
  mb (gR 1 6 l0) fun reach11 =>
  mb (aI reach11 l1) fun x12 =>
  mb (tI reach10 l2 x12) fun _ =>
  mp ()
def m_X1_dropQuery_B28 (l0 : Nat) (l2 : Int32) (k2 : Int32 → Mo Unit) (k28 : Int32 → Mo Unit) (l3 : Int32) : Mo Unit :=
  if 4 ≤ l3 then
  k2 ((l2 + 1))
  else
  mb (vc 1 l0 (m_X1_place l0 ((l2 + 1)) l3)) fun c6 =>
  mb (vc 1 l0 (m_X1_place l0 l2 l3)) fun c7 =>
  mb (vc 1 l0 (m_X1_movePart l0 c6 c7)) fun _ =>
  k28 ((l3 + 1))
def m_X1_dropQuery_B2 (l0 : Nat)  (k2 : Int32 → Mo Unit) (l2 : Int32) : Mo Unit :=
  mb (gI 1 0 l0) fun queries1 =>
  if queries1 ≤ ((l2 + 1)) then
  mb (gI 1 0 l0) fun queries2 =>
  mb (sI 1 0 l0 ((queries2 - 1))) fun _ =>
  mp ()
  else
  mb (gR 1 2 l0) fun parts3 =>
  mb (gR 1 2 l0) fun parts4 =>
  mb (aI parts4 ((l2 + 1))) fun x5 =>
  mb (tI parts3 l2 x5) fun _ =>
  lp (fun k s => m_X1_dropQuery_B28 l0 l2 k2 k s) FU 0
def m_X1_dropQuery (l0 : Nat) (l1 : Int32) : Mo Unit :=
  lp (fun k s => m_X1_dropQuery_B2 l0 k s) FU l1
def m_X7_drops (l0 : Nat) (l1 : Int32) : Mo Int32 :=
  mb (vc 6 l0 (m_X7_isQuery l0 l1)) fun c1 =>
  if c1 = 0 then
  mp ((-1))
  else
  mb (gR 6 2 l0) fun history2 =>
  mb (gR 6 1 l0) fun held3 =>
  mb (vc 2 history2 (m_X2_push history2 held3)) fun _ =>
  mb (gR 6 1 l0) fun held4 =>
  mb (vc 1 held4 (m_X1_dropQuery held4 l1)) fun _ =>
  mb (vc 6 l0 (m_X7_rebuild l0 )) fun _ =>
  mb (gR 6 1 l0) fun held5 =>
  mb (gI 1 0 held5) fun queries6 =>
  mp queries6
def m_X7_feeds (l0 : Nat) (l1 : Int32) : Mo Int32 :=
  mb (m_X7_isLetter l1) fun c1 =>
  if c1 = 0 then
  mp ((-1))
  else
  mb (gR 6 1 l0) fun held2 =>
  mb (gI 1 1 held2) fun letters3 =>
  if letters3 < 40 then
  mb (gR 6 2 l0) fun history4 =>
  mb (gR 6 1 l0) fun held5 =>
  mb (vc 2 history4 (m_X2_push history4 held5)) fun _ =>
  mb (gR 6 1 l0) fun held6 =>
  mb (gR 1 7 held6) fun row7 =>
  mb (gR 6 1 l0) fun held8 =>
  mb (gI 1 1 held8) fun letters9 =>
  mb (tI row7 letters9 ((l1 - 97))) fun _ =>
  mb (gR 6 1 l0) fun held10 =>
  mb (gI 1 1 held10) fun letters11 =>
  mb (sI 1 1 held10 ((letters11 + 1))) fun _ =>
  mb (vc 6 l0 (m_X7_walk l0 )) fun _ =>
  mb (gI 6 7 l0) fun at12 =>
  mp at12
  else
  mp ((-3))
def m_X7_cuts (l0 : Nat) : Mo Int32 :=
  mb (gR 6 1 l0) fun held1 =>
  mb (gI 1 1 held1) fun letters2 =>
  if 0 < letters2 then
  mb (gR 6 2 l0) fun history3 =>
  mb (gR 6 1 l0) fun held4 =>
  mb (vc 2 history3 (m_X2_push history3 held4)) fun _ =>
  mb (gR 6 1 l0) fun held5 =>
  mb (gI 1 1 held5) fun letters6 =>
  mb (sI 1 1 held5 ((letters6 - 1))) fun _ =>
  mb (gR 6 1 l0) fun held7 =>
  mb (gR 1 7 held7) fun row8 =>
  mb (gR 6 1 l0) fun held9 =>
  mb (gI 1 1 held9) fun letters10 =>
  mb (aI row8 letters10) fun x11 =>
  mb (mp ((x11 + 97))) fun v12 =>
  mb (vc 6 l0 (m_X7_walk l0 )) fun _ =>
  mp v12
  else
  mp ((-2))
def m_X2_popInto (l0 : Nat) (l1 : Nat) : Mo Int32 :=
  mb (gR 2 0 l0) fun ring1 =>
  mb (gI 2 1 l0) fun latest2 =>
  mb (aQ ring1 latest2) fun o4 => match o4 with
  | none =>
  mb (gI 2 2 l0) fun known5 =>
  if known5 ≤ 0 then
  rZ 0
  else
  rZ 0
  | some r3 =>
  mb (gI 2 2 l0) fun known6 =>
  if known6 ≤ 0 then
  rZ 0
  else
  mb (vc 1 l1 (m_X1_take l1 r3)) fun _ =>
  mb (gI 2 1 l0) fun latest7 =>
  mb (sI 2 1 l0 ((((((latest7 + 10)) - 1)) - ((((latest7 + 10)) - 1)) / 10 * 10))) fun _ =>
  mb (gI 2 2 l0) fun known8 =>
  mb (sI 2 2 l0 ((known8 - 1))) fun _ =>
  rZ 1
def m_X7_undo (l0 : Nat) : Mo Int32 :=
  mb (gR 6 2 l0) fun history1 =>
  mb (gR 6 1 l0) fun held2 =>
  mb (vc 2 history1 (m_X2_popInto history1 held2)) fun c3 =>
  if c3 = 0 then
  mp ((-2))
  else
  mb (vc 6 l0 (m_X7_rebuild l0 )) fun _ =>
  mb (gR 6 2 l0) fun history4 =>
  mb (gI 2 2 history4) fun known5 =>
  mp known5
def m_X7_hitsOf (l0 : Nat) (l1 : Int32) : Mo Int64 :=
  mb (gR 6 4 l0) fun words1 =>
  mb (vc 5 words1 (m_X6_find words1 l1)) fun c2 =>
  if 0 ≤ c2 then
  mb (gR 6 6 l0) fun hits3 =>
  mb (aJ hits3 c2) fun x4 =>
  mp x4
  else
  mp 0
def m_X7_isNear_B3 (l0 : Int64) (l2 : Int64) (l4 : Int32)  (k3 : Int32 → Mo Int32) (l5 : Int32) : Mo Int32 :=
  if l4 < l5 then
  rZ 0
  else
  if ((lg_cmp ((((l0 <<< ((l5 : Int32).toInt64 &&& 63))) &&& l2)) 0)) = 0 then
  k3 ((l5 + 1))
  else
  rZ 1
def m_X7_isNear (l0 : Int64) (l2 : Int64) (l4 : Int32) : Mo Int32 :=
  lp (fun k s => m_X7_isNear_B3 l0 l2 l4 k s) FU 1
def m_X7_holds (l0 : Nat) (l1 : Int32) (l2 : Int32) : Mo Int32 :=
  mb (gR 6 1 l0) fun held1 =>
  mb (gR 1 4 held1) fun word2 =>
  mb (aI word2 l1) fun x3 =>
  mb (vc 6 l0 (m_X7_hitsOf l0 x3)) fun c4 =>
  mb (mp ((c4 &&& (((((1 : Int64) <<< ((l2 : Int32).toInt64 &&& 63))) - 1))))) fun v5 =>
  mb (gR 6 1 l0) fun held6 =>
  mb (gR 1 3 held6) fun sort7 =>
  mb (aI sort7 l1) fun x8 =>
  if x8 = 0 then
  if ((lg_cmp v5 0)) = 0 then
  rZ 0
  else
  rZ 1
  else if x8 = 1 then
  if ((lg_cmp v5 0)) = 0 then
  rZ 1
  else
  rZ 0
  else 
  mb (gR 6 1 l0) fun held9 =>
  mb (gR 1 5 held9) fun earlier10 =>
  mb (aI earlier10 l1) fun x11 =>
  mb (vc 6 l0 (m_X7_hitsOf l0 x11)) fun c12 =>
  mb (gR 6 1 l0) fun held13 =>
  mb (gR 1 6 held13) fun reach14 =>
  mb (aI reach14 l1) fun x15 =>
  mb (m_X7_isNear c12 v5 x15) fun c16 =>
  rZ c16
def m_X7_matches_B2 (l0 : Nat) (l1 : Int32) (l2 : Int32)  (k2 : Int32 → Mo Int32) (l3 : Int32) : Mo Int32 :=
  mb (gR 6 1 l0) fun held1 =>
  mb (gR 1 2 held1) fun parts2 =>
  mb (aI parts2 l1) fun x3 =>
  if x3 ≤ l3 then
  rZ 1
  else
  mb (gR 6 1 l0) fun held4 =>
  mb (vc 1 held4 (m_X1_place held4 l1 l3)) fun c5 =>
  mb (vc 6 l0 (m_X7_holds l0 c5 l2)) fun c6 =>
  if c6 = 0 then
  rZ 0
  else
  k2 ((l3 + 1))
def m_X7_matches (l0 : Nat) (l1 : Int32) (l2 : Int32) : Mo Int32 :=
  lp (fun k s => m_X7_matches_B2 l0 l1 l2 k s) FU 0
def m_X7_since_B20 (l0 : Nat) (l1 : Int32)  (k20 : Int32 → Mo Int32) (l2 : Int32) : Mo Int32 :=
  if l2 ≤ 0 then
  mp l2
  else
  mb (vc 6 l0 (m_X7_matches l0 l1 ((l2 - 1)))) fun c4 =>
  if c4 = 0 then
  mp l2
  else
  k20 ((l2 + (-1)))
def m_X7_since (l0 : Nat) (l1 : Int32) : Mo Int32 :=
  mb (gR 6 1 l0) fun held1 =>
  mb (gI 1 1 held1) fun letters2 =>
  mb (vc 6 l0 (m_X7_matches l0 l1 letters2)) fun c3 =>
  if c3 = 0 then
  mp ((-9))
  else
  lp (fun k s => m_X7_since_B20 l0 l1 k s) FU letters2
def m_X7_isBetterKey_J23   : Mo Int32 :=
  rZ 1
def m_X7_isBetterKey (l0 : Int32) (l1 : Int32) : Mo Int32 :=
  mb (m_X3_sizeOf l0) fun c1 =>
  mb (m_X3_sizeOf l1) fun c2 =>
  mb (mp ((c1 - c2))) fun v3 =>
  if 0 < v3 then
  m_X7_isBetterKey_J23 
  else
  if v3 = 0 then
  if l1 ≤ l0 then
  rZ 0
  else
  m_X7_isBetterKey_J23 
  else
  rZ 0
def m_X7_keyOf_J69 (l0 : Nat) (l1 : Int32) (l2 : Int32) (l3 : Int32) (k4 : Int32 × Int32 → Mo Int32) : Mo Int32 :=
  k4 (l2, (l3 + 1))
def m_X7_keyOf_B4 (l0 : Nat) (l1 : Int32)  (k4 : Int32 × Int32 → Mo Int32) (l2 : Int32) (l3 : Int32) : Mo Int32 :=
  mb (gR 6 1 l0) fun held1 =>
  mb (gR 1 2 held1) fun parts2 =>
  mb (aI parts2 l1) fun x3 =>
  if x3 ≤ l3 then
  mp l2
  else
  mb (gR 6 1 l0) fun held4 =>
  mb (vc 1 held4 (m_X1_place held4 l1 l3)) fun c5 =>
  mb (gR 6 1 l0) fun held6 =>
  mb (gR 1 3 held6) fun sort7 =>
  mb (aI sort7 c5) fun x8 =>
  if x8 = 0 then
  mb (gR 6 1 l0) fun held9 =>
  mb (gR 1 4 held9) fun word10 =>
  mb (aI word10 c5) fun x11 =>
  mb (m_X7_isBetterKey x11 l2) fun c12 =>
  if c12 = 0 then
  m_X7_keyOf_J69 l0 l1 l2 l3 k4
  else
  mb (gR 6 1 l0) fun held13 =>
  mb (gR 1 4 held13) fun word14 =>
  mb (aI word14 c5) fun x15 =>
  m_X7_keyOf_J69 l0 l1 x15 l3 k4
  else
  m_X7_keyOf_J69 l0 l1 l2 l3 k4
def m_X7_keyOf (l0 : Nat) (l1 : Int32) : Mo Int32 :=
  lp (fun k s => m_X7_keyOf_B4 l0 l1 k s.1 s.2) FU (0, 0)
def m_X7_isAsked_J20   : Mo Int32 :=
  rZ 1
def m_X7_isAsked (l0 : Nat) (l1 : Int32) : Mo Int32 :=
  mb (vc 6 l0 (m_X7_keyOf l0 l1)) fun c1 =>
  if c1 = 0 then
  m_X7_isAsked_J20 
  else
  mb (vc 6 l0 (m_X7_hitsOf l0 c1)) fun c2 =>
  if ((lg_cmp c2 0)) = 0 then
  rZ 0
  else
  m_X7_isAsked_J20 
def m_X7_query (l0 : Nat) (l1 : Int32) (l2 : Int32) : Mo Int32 :=
  mb (vc 6 l0 (m_X7_isQuery l0 l1)) fun c1 =>
  if c1 = 0 then
  mp ((-1))
  else
  if l2 = 0 then
  mb (gR 6 1 l0) fun held2 =>
  mb (gR 1 2 held2) fun parts3 =>
  mb (aI parts3 l1) fun x4 =>
  mp x4
  else if l2 = 1 then
  mb (gR 6 1 l0) fun held5 =>
  mb (gI 1 1 held5) fun letters6 =>
  mb (vc 6 l0 (m_X7_matches l0 l1 letters6)) fun c7 =>
  if c7 = 0 then
  mp 0
  else
  mp 1
  else if l2 = 2 then
  mb (vc 6 l0 (m_X7_since l0 l1)) fun c8 =>
  mp c8
  else if l2 = 3 then
  mb (gR 6 4 l0) fun words9 =>
  mb (vc 6 l0 (m_X7_keyOf l0 l1)) fun c10 =>
  mb (vc 5 words9 (m_X6_find words9 c10)) fun c11 =>
  mp c11
  else if l2 = 4 then
  mb (vc 6 l0 (m_X7_isAsked l0 l1)) fun c12 =>
  if c12 = 0 then
  mp 0
  else
  mp 1
  else 
  mp ((-1))
def m_X7_part (l0 : Nat) (l1 : Int32) (l2 : Int32) (l3 : Int32) : Mo Int32 :=
  mb (vc 6 l0 (m_X7_isQuery l0 l1)) fun c1 =>
  if c1 = 0 then
  mp ((-1))
  else
  if l2 < 0 then
  mp ((-1))
  else
  mb (gR 6 1 l0) fun held2 =>
  mb (gR 1 2 held2) fun parts3 =>
  mb (aI parts3 l1) fun x4 =>
  if l2 < x4 then
  mb (gR 6 1 l0) fun held5 =>
  mb (vc 1 held5 (m_X1_place held5 l1 l2)) fun c6 =>
  if l3 = 0 then
  mb (gR 6 1 l0) fun held7 =>
  mb (gR 1 3 held7) fun sort8 =>
  mb (aI sort8 c6) fun x9 =>
  mp x9
  else if l3 = 1 then
  mb (gR 6 4 l0) fun words10 =>
  mb (gR 6 1 l0) fun held11 =>
  mb (gR 1 4 held11) fun word12 =>
  mb (aI word12 c6) fun x13 =>
  mb (vc 5 words10 (m_X6_find words10 x13)) fun c14 =>
  mp c14
  else if l3 = 2 then
  mb (gR 6 4 l0) fun words15 =>
  mb (gR 6 1 l0) fun held16 =>
  mb (gR 1 5 held16) fun earlier17 =>
  mb (aI earlier17 c6) fun x18 =>
  mb (vc 5 words15 (m_X6_find words15 x18)) fun c19 =>
  mp c19
  else if l3 = 3 then
  mb (gR 6 1 l0) fun held20 =>
  mb (gR 1 3 held20) fun sort21 =>
  mb (aI sort21 c6) fun x22 =>
  if x22 = 2 then
  mb (gR 6 1 l0) fun held23 =>
  mb (gR 1 6 held23) fun reach24 =>
  mb (aI reach24 c6) fun x25 =>
  mp x25
  else
  mp ((-9))
  else if l3 = 4 then
  mb (gR 6 1 l0) fun held26 =>
  mb (gI 1 1 held26) fun letters27 =>
  mb (vc 6 l0 (m_X7_holds l0 c6 letters27)) fun c28 =>
  if c28 = 0 then
  mp 0
  else
  mp 1
  else 
  mp ((-1))
  else
  mp ((-1))
def m_X4_init (l0 : Nat) : Mo Unit :=
  mb (nO 5) fun p1 =>
  mb (m_X6_init p1 5) fun _ =>
  mb (sR 3 0 l0 p1) fun _ =>
  mb (nO 0) fun p2 =>
  mb (m_X0_init p2 5) fun _ =>
  mb (sR 3 1 l0 p2) fun _ =>
  mb (nA 100 31) fun p3 =>
  mb (sR 3 2 l0 p3) fun _ =>
  mb (nA 100 3968) fun p4 =>
  mb (sR 3 3 l0 p4) fun _ =>
  mb (nA 100 3968) fun p5 =>
  mb (sR 3 4 l0 p5) fun _ =>
  mb (nA 101 3968) fun p6 =>
  mb (sR 3 5 l0 p6) fun _ =>
  mb (nA 101 3968) fun p7 =>
  mb (sR 3 6 l0 p7) fun _ =>
  mp ()
def m_X6_gatherOne (l0 : Nat) (l1 : Nat) (l2 : Int32) : Mo Unit :=
  mb (sI 5 1 l0 0) fun _ =>
  mb (vc 5 l0 (m_X6_putWordsOf l0 l1 l2)) fun _ =>
  mp ()
def m_X4_markNodes_J56 (l0 : Nat) (l2 : Int32) (l3 : Int32) (l4 : Int32) (k12 : Int32 → Mo Unit) : Mo Unit :=
  k12 ((l4 + 1))
def m_X4_markNodes_B12 (l0 : Nat) (l2 : Int32) (l3 : Int32)  (k12 : Int32 → Mo Unit) (l4 : Int32) : Mo Unit :=
  if l3 < 0 then
  mp ()
  else
  mb (gR 3 1 l0) fun automaton3 =>
  mb (gI 0 0 automaton3) fun nodes4 =>
  if nodes4 ≤ l4 then
  mp ()
  else
  mb (gR 3 1 l0) fun automaton5 =>
  mb (gR 0 5 automaton5) fun ends6 =>
  mb (aI ends6 l4) fun x7 =>
  if ((((x7 >>> (l3 &&& 31))) &&& 1)) = 0 then
  m_X4_markNodes_J56 l0 l2 l3 l4 k12
  else
  mb (gR 3 2 l0) fun marks8 =>
  mb (aI marks8 l4) fun x9 =>
  mb (tI marks8 l4 ((x9 ||| l2))) fun _ =>
  m_X4_markNodes_J56 l0 l2 l3 l4 k12
def m_X4_markNodes (l0 : Nat) (l1 : Int32) (l2 : Int32) : Mo Unit :=
  mb (gR 3 0 l0) fun words1 =>
  mb (vc 5 words1 (m_X6_find words1 l1)) fun c2 =>
  lp (fun k s => m_X4_markNodes_B12 l0 l2 c2 k s) FU 0
def m_X4_prepare_J202 (l0 : Nat) (s0 : Int32) (s1 : Int32) (s2 : Nat)  : Mo Unit :=
  mb (sI 3 10 s2 ((s1 ||| s0))) fun _ =>
  mb (gR 3 1 l0) fun automaton10 =>
  mb (gI 0 0 automaton10) fun nodes11 =>
  mb (gI 3 9 l0) fun width12 =>
  mb (sI 3 11 l0 ((if 3968 < ((nodes11 <<< (width12 &&& 31))) then 3968 else ((nodes11 <<< (width12 &&& 31)))))) fun _ =>
  mp ()
def m_X4_prepare_J162 (l0 : Nat) (l1 : Nat) (l2 : Int32) (l3 : Int32) (l4 : Int32) (k43 : Int32 × Int32 → Mo Unit) : Mo Unit :=
  k43 (l3, (l4 + 1))
def m_X4_prepare_B43 (l0 : Nat) (l1 : Nat) (l2 : Int32)  (k43 : Int32 × Int32 → Mo Unit) (l3 : Int32) (l4 : Int32) : Mo Unit :=
  mb (gR 1 2 l1) fun parts5 =>
  mb (aI parts5 l2) fun x6 =>
  if x6 ≤ l4 then
  mb (gI 3 7 l0) fun nearBits7 =>
  mb (sI 3 9 l0 ((nearBits7 + l3))) fun _ =>
  mb (gI 3 7 l0) fun nearBits8 =>
  mb (gI 3 7 l0) fun nearBits9 =>
  if nearBits9 ≤ 0 then
  m_X4_prepare_J202 l0 0 (((((((1 : Int32) <<< (l3 &&& 31))) - 1)) <<< (nearBits8 &&& 31))) l0
  else
  m_X4_prepare_J202 l0 10 (((((((1 : Int32) <<< (l3 &&& 31))) - 1)) <<< (nearBits8 &&& 31))) l0
  else
  mb (vc 1 l1 (m_X1_place l1 l2 l4)) fun c13 =>
  mb (gR 1 3 l1) fun sort14 =>
  mb (aI sort14 c13) fun x15 =>
  if x15 = 0 then
  mb (gR 1 4 l1) fun word26 =>
  mb (aI word26 c13) fun x27 =>
  mb (vc 3 l0 (m_X4_markNodes l0 x27 (((1 : Int32) <<< (l3 &&& 31))))) fun _ =>
  m_X4_prepare_J162 l0 l1 l2 ((l3 + 1)) l4 k43
  else
  mb (gR 1 3 l1) fun sort16 =>
  mb (aI sort16 c13) fun x17 =>
  if x17 = 1 then
  mb (gR 1 4 l1) fun word24 =>
  mb (aI word24 c13) fun x25 =>
  mb (vc 3 l0 (m_X4_markNodes l0 x25 16)) fun _ =>
  m_X4_prepare_J162 l0 l1 l2 l3 l4 k43
  else
  mb (gR 1 4 l1) fun word18 =>
  mb (aI word18 c13) fun x19 =>
  mb (vc 3 l0 (m_X4_markNodes l0 x19 64)) fun _ =>
  mb (gR 1 5 l1) fun earlier20 =>
  mb (aI earlier20 c13) fun x21 =>
  mb (vc 3 l0 (m_X4_markNodes l0 x21 32)) fun _ =>
  mb (sI 3 7 l0 4) fun _ =>
  mb (gR 1 6 l1) fun reach22 =>
  mb (aI reach22 c13) fun x23 =>
  mb (sI 3 8 l0 x23) fun _ =>
  m_X4_prepare_J162 l0 l1 l2 l3 l4 k43
def m_X4_prepare (l0 : Nat) (l1 : Nat) (l2 : Int32) : Mo Unit :=
  mb (gR 3 0 l0) fun words1 =>
  mb (vc 5 words1 (m_X6_gatherOne words1 l1 l2)) fun _ =>
  mb (gR 3 1 l0) fun automaton2 =>
  mb (gR 3 0 l0) fun words3 =>
  mb (vc 0 automaton2 (m_X0_build automaton2 words3)) fun _ =>
  mb (gR 3 2 l0) fun marks4 =>
  mb (m_J7_fill_53178 marks4 0) fun _ =>
  mb (sI 3 7 l0 0) fun _ =>
  mb (sI 3 8 l0 0) fun _ =>
  lp (fun k s => m_X4_prepare_B43 l0 l1 l2 k s.1 s.2) FU (0, 0)
def m_X7_searchFor_J22 (l0 : Nat) (l1 : Int32) (l2 : Nat)  : Mo Nat :=
  mb (gR 6 1 l0) fun held3 =>
  mb (vc 3 l2 (m_X4_prepare l2 held3 l1)) fun _ =>
  mp l2
def m_X7_searchFor (l0 : Nat) (l1 : Int32) : Mo Nat :=
  mb (gQ 6 8 l0) fun o4 => match o4 with
  | none =>
  mb (nO 3) fun p2 =>
  mb (m_X4_init p2) fun _ =>
  mb (sR 6 8 l0 p2) fun _ =>
  m_X7_searchFor_J22 l0 l1 p2
  | some search1 =>
  m_X7_searchFor_J22 l0 l1 search1
def m_X4_isMatch (l0 : Nat) (l1 : Int32) : Mo Int32 :=
  mb (gI 3 9 l0) fun width1 =>
  mb (gI 3 10 l0) fun matched2 =>
  if ((l1 &&& (((((1 : Int32) <<< (width1 &&& 31))) - 1)))) = matched2 then
  rZ 1
  else
  rZ 0
def m_X4_stepNear_J20 (l0 : Nat) (l1 : Int32) (l2 : Int32)  : Mo Int32 :=
  if ((l2 &&& 32)) = 0 then
  if l1 ≤ 0 then
  mp 0
  else
  mb (gI 3 8 l0) fun reach1 =>
  if reach1 ≤ l1 then
  mp 0
  else
  mp ((l1 + 1))
  else
  mp 1
def m_X4_stepNear (l0 : Nat) (l1 : Int32) (l2 : Int32) : Mo Int32 :=
  if l1 = 10 then
  mp 10
  else
  if l1 ≤ 0 then
  m_X4_stepNear_J20 l0 l1 l2
  else
  if ((l2 &&& 64)) = 0 then
  m_X4_stepNear_J20 l0 l1 l2
  else
  mp 10
def m_X4_step_J72 (l0 : Nat) (l3 : Int32) (l4 : Int32) (l5 : Int32) (s0 : Int32)  : Mo Int32 :=
  mb (gI 3 7 l0) fun nearBits10 =>
  mb (mp ((((l5 >>> (nearBits10 &&& 31))) ||| ((l4 &&& 15))))) fun v11 =>
  mb (gI 3 9 l0) fun width12 =>
  mb (gI 3 7 l0) fun nearBits13 =>
  mp ((((((l3 <<< (width12 &&& 31))) ||| ((v11 <<< (nearBits13 &&& 31))))) ||| s0))
def m_X4_step (l0 : Nat) (l1 : Int32) (l2 : Int32) : Mo Int32 :=
  mb (gR 3 1 l0) fun automaton1 =>
  mb (gR 0 6 automaton1) fun follow2 =>
  mb (gI 3 9 l0) fun width3 =>
  mb (aI follow2 ((((((l1 >>> (width3 &&& 31))) * 8)) + l2))) fun x4 =>
  mb (gR 3 2 l0) fun marks5 =>
  mb (aI marks5 x4) fun x6 =>
  if ((x6 &&& 16)) = 0 then
  mb (gI 3 9 l0) fun width7 =>
  mb (mp ((l1 &&& (((((1 : Int32) <<< (width7 &&& 31))) - 1))))) fun v8 =>
  mb (gI 3 7 l0) fun nearBits9 =>
  if nearBits9 ≤ 0 then
  m_X4_step_J72 l0 x4 x6 v8 0
  else
  mb (vc 3 l0 (m_X4_stepNear l0 ((v8 &&& 15)) x6)) fun c14 =>
  m_X4_step_J72 l0 x4 x6 v8 c14
  else
  mp ((-1))
def m_X4_spread_J81 (l0 : Nat) (l1 : Int32) (l3 : Int32) (l4 : Int32) (k5 : Int32 × Int32 → Mo Int32) : Mo Int32 :=
  k5 (l3, (l4 + 1))
def m_X4_spread_B5 (l0 : Nat) (l1 : Int32)  (k5 : Int32 × Int32 → Mo Int32) (l3 : Int32) (l4 : Int32) : Mo Int32 :=
  if 8 ≤ l4 then
  mp l3
  else
  mb (vc 3 l0 (m_X4_step l0 l1 l4)) fun c1 =>
  if c1 = ((-1)) then
  m_X4_spread_J81 l0 l1 l3 l4 k5
  else
  mb (gR 3 3 l0) fun from2 =>
  mb (aI from2 c1) fun x3 =>
  if x3 = 0 then
  mb (gR 3 3 l0) fun from4 =>
  mb (tI from4 c1 ((((1 + ((l1 * 8)))) + l4))) fun _ =>
  mb (gR 3 4 l0) fun queue5 =>
  mb (tI queue5 l3 c1) fun _ =>
  mb (vc 3 l0 (m_X4_isMatch l0 c1)) fun c6 =>
  if c6 = 0 then
  m_X4_spread_J81 l0 l1 ((l3 + 1)) l4 k5
  else
  mb (sI 3 12 l0 c1) fun _ =>
  mp ((l3 + 1))
  else
  m_X4_spread_J81 l0 l1 l3 l4 k5
def m_X4_spread (l0 : Nat) (l1 : Int32) (l2 : Int32) : Mo Int32 :=
  lp (fun k s => m_X4_spread_B5 l0 l1 k s.1 s.2) FU (l2, 0)
def m_X4_fewestFrom_B89 (l0 : Nat) (l4 : Int32) (l5 : Int32) (k74 : Int32 × Int32 × Int32 → Mo Int32) (k89 : Int32 × Int32 → Mo Int32) (l2 : Int32) (l3 : Int32) : Mo Int32 :=
  if l5 ≤ l2 then
  k74 (l2, l3, (l4 + 1))
  else
  mb (gR 3 4 l0) fun queue6 =>
  mb (aI queue6 l2) fun x7 =>
  mb (vc 3 l0 (m_X4_spread l0 x7 l3)) fun c8 =>
  mb (gI 3 12 l0) fun found9 =>
  mb (vc 3 l0 (m_X4_isMatch l0 found9)) fun c10 =>
  if c10 = 0 then
  k89 ((l2 + 1), c8)
  else
  mp l4
def m_X4_fewestFrom_B74 (l0 : Nat)  (k74 : Int32 × Int32 × Int32 → Mo Int32) (l2 : Int32) (l3 : Int32) (l4 : Int32) : Mo Int32 :=
  if 60 < l4 then
  mp ((-9))
  else
  if l3 ≤ l2 then
  mp ((-9))
  else
  lp (fun k s => m_X4_fewestFrom_B89 l0 l4 l3 k74 k s.1 s.2) FU (l2, l3)
def m_X4_fewestFrom_B17 (l0 : Nat) (l1 : Int32)  (k17 : Int32 → Mo Int32) (l2 : Int32) : Mo Int32 :=
  mb (gI 3 11 l0) fun states2 =>
  if states2 ≤ l2 then
  mb (gR 3 3 l0) fun from3 =>
  mb (tI from3 l1 ((-1))) fun _ =>
  mb (gR 3 4 l0) fun queue4 =>
  mb (tI queue4 0 l1) fun _ =>
  mb (sI 3 12 l0 l1) fun _ =>
  mb (vc 3 l0 (m_X4_isMatch l0 l1)) fun c5 =>
  if c5 = 0 then
  lp (fun k s => m_X4_fewestFrom_B74 l0 k s.1 s.2.1 s.2.2) FU (0, 1, 1)
  else
  mp 0
  else
  mb (gR 3 3 l0) fun from11 =>
  mb (tI from11 l2 0) fun _ =>
  k17 ((l2 + 1))
def m_X4_fewestFrom (l0 : Nat) (l1 : Int32) : Mo Int32 :=
  if l1 < 0 then
  mp ((-9))
  else
  mb (gI 3 11 l0) fun states1 =>
  if l1 < states1 then
  lp (fun k s => m_X4_fewestFrom_B17 l0 l1 k s) FU 0
  else
  mp ((-9))
def m_X4_letterOfRow_J43 (l0 : Nat) (l3 : Int32)  : Mo Int32 :=
  mb (gR 3 3 l0) fun from3 =>
  mb (aI from3 l3) fun x4 =>
  mp ((((if (0 : Int32) < ((x4 - 1)) then ((x4 - 1)) else 0)) - ((if (0 : Int32) < ((x4 - 1)) then ((x4 - 1)) else 0)) / 8 * 8))
def m_X4_letterOfRow_B10 (l0 : Nat) (l1 : Int32)  (k10 : Int32 × Int32 → Mo Int32) (l3 : Int32) (l4 : Int32) : Mo Int32 :=
  if l4 ≤ l1 then
  m_X4_letterOfRow_J43 l0 l3
  else
  mb (gR 3 3 l0) fun from5 =>
  mb (aI from5 l3) fun x6 =>
  if x6 ≤ 0 then
  m_X4_letterOfRow_J43 l0 l3
  else
  mb (gR 3 3 l0) fun from7 =>
  mb (aI from7 l3) fun x8 =>
  mb (mp ((((x8 - 1)) / 8))) fun v9 =>
  k10 (v9, (l4 + (-1)))
def m_X4_letterOfRow (l0 : Nat) (l1 : Int32) (l2 : Int32) : Mo Int32 :=
  mb (gI 3 12 l0) fun found1 =>
  mb (mp ((l2 - 1))) fun v2 =>
  lp (fun k s => m_X4_letterOfRow_B10 l0 l1 k s.1 s.2) FU (found1, v2)
def m_X7_shortest (l0 : Nat) (l1 : Int32) (l2 : Int32) : Mo Int32 :=
  mb (vc 6 l0 (m_X7_isQuery l0 l1)) fun c1 =>
  if c1 = 0 then
  mp ((-1))
  else
  if ((-1)) ≤ l2 then
  mb (vc 6 l0 (m_X7_searchFor l0 l1)) fun c2 =>
  mb (vc 3 c2 (m_X4_fewestFrom c2 0)) fun c3 =>
  if l2 = ((-1)) then
  mp c3
  else
  if 0 ≤ c3 then
  if c3 ≤ l2 then
  mp ((-9))
  else
  mb (vc 3 c2 (m_X4_letterOfRow c2 l2 c3)) fun c4 =>
  mp ((c4 + 97))
  else
  mp c3
  else
  mp ((-1))
def m_X4_stateBehind_B4 (l0 : Nat) (l1 : Nat)  (k4 : Int32 × Int32 → Mo Int32) (l2 : Int32) (l3 : Int32) : Mo Int32 :=
  mb (gI 1 1 l1) fun letters1 =>
  if letters1 ≤ l3 then
  mp l2
  else
  if l2 = ((-1)) then
  mp l2
  else
  mb (gR 1 7 l1) fun row2 =>
  mb (aI row2 l3) fun x3 =>
  mb (vc 3 l0 (m_X4_step l0 l2 x3)) fun c4 =>
  k4 (c4, (l3 + 1))
def m_X4_stateBehind (l0 : Nat) (l1 : Nat) : Mo Int32 :=
  lp (fun k s => m_X4_stateBehind_B4 l0 l1 k s.1 s.2) FU (0, 0)
def m_X7_more (l0 : Nat) (l1 : Int32) : Mo Int32 :=
  mb (vc 6 l0 (m_X7_isQuery l0 l1)) fun c1 =>
  if c1 = 0 then
  mp ((-1))
  else
  mb (vc 6 l0 (m_X7_searchFor l0 l1)) fun c2 =>
  mb (gR 6 1 l0) fun held3 =>
  mb (vc 3 c2 (m_X4_stateBehind c2 held3)) fun c4 =>
  mb (vc 3 c2 (m_X4_fewestFrom c2 c4)) fun c5 =>
  mp c5
def m_X4_lengthenRows_J85 (l0 : Nat) (l1 : Int32) (k25 : Int32 → Mo Unit) : Mo Unit :=
  k25 ((l1 + 1))
def m_X4_lengthenRows_J79 (l0 : Nat) (l1 : Int32) (l2 : Int32) (k25 : Int32 → Mo Unit) (k35 : Int32 → Mo Unit) : Mo Unit :=
  k35 ((l2 + 1))
def m_X4_lengthenRows_B35 (l0 : Nat) (l1 : Int32) (k25 : Int32 → Mo Unit) (k35 : Int32 → Mo Unit) (l2 : Int32) : Mo Unit :=
  mb (gR 3 5 l0) fun ways5 =>
  mb (aJ ways5 l1) fun x6 =>
  if ((lg_cmp x6 0)) = 0 then
  m_X4_lengthenRows_J85 l0 l1 k25
  else
  if 8 ≤ l2 then
  m_X4_lengthenRows_J85 l0 l1 k25
  else
  mb (vc 3 l0 (m_X4_step l0 l1 l2)) fun c7 =>
  if c7 = ((-1)) then
  m_X4_lengthenRows_J79 l0 l1 l2 k25 k35
  else
  mb (gR 3 6 l0) fun waysThen8 =>
  mb (aJ waysThen8 c7) fun x9 =>
  mb (gR 3 5 l0) fun ways10 =>
  mb (aJ ways10 l1) fun x11 =>
  mb (tJ waysThen8 c7 ((x9 + x11))) fun _ =>
  m_X4_lengthenRows_J79 l0 l1 l2 k25 k35
def m_X4_lengthenRows_B25 (l0 : Nat)  (k25 : Int32 → Mo Unit) (l1 : Int32) : Mo Unit :=
  mb (gI 3 11 l0) fun states2 =>
  if states2 ≤ l1 then
  mb (gR 3 5 l0) fun ways3 =>
  mb (gR 3 6 l0) fun waysThen4 =>
  mb (sR 3 5 l0 waysThen4) fun _ =>
  mb (sR 3 6 l0 ways3) fun _ =>
  mp ()
  else
  lp (fun k s => m_X4_lengthenRows_B35 l0 l1 k25 k s) FU 0
def m_X4_lengthenRows_B2 (l0 : Nat)  (k2 : Int32 → Mo Unit) (l1 : Int32) : Mo Unit :=
  mb (gI 3 11 l0) fun states1 =>
  if states1 ≤ l1 then
  lp (fun k s => m_X4_lengthenRows_B25 l0 k s) FU 0
  else
  mb (gR 3 6 l0) fun waysThen12 =>
  mb (tJ waysThen12 l1 0) fun _ =>
  k2 ((l1 + 1))
def m_X4_lengthenRows (l0 : Nat) : Mo Unit :=
  lp (fun k s => m_X4_lengthenRows_B2 l0 k s) FU 0
def m_X4_rowsOf_J80 (l0 : Nat) (l2 : Int64) (l4 : Int32) (k52 : Int64 × Int32 → Mo Int64) : Mo Int64 :=
  k52 (l2, (l4 + 1))
def m_X4_rowsOf_B52 (l0 : Nat)  (k52 : Int64 × Int32 → Mo Int64) (l2 : Int64) (l4 : Int32) : Mo Int64 :=
  mb (gI 3 11 l0) fun states3 =>
  if states3 ≤ l4 then
  mp l2
  else
  mb (vc 3 l0 (m_X4_isMatch l0 l4)) fun c4 =>
  if c4 = 0 then
  m_X4_rowsOf_J80 l0 l2 l4 k52
  else
  mb (gR 3 5 l0) fun ways5 =>
  mb (aJ ways5 l4) fun x6 =>
  mb (mp ((l2 + x6))) fun v7 =>
  m_X4_rowsOf_J80 l0 v7 l4 k52
def m_X4_rowsOf_B32 (l0 : Nat) (l1 : Int32)  (k32 : Int32 → Mo Int64) (l2 : Int32) : Mo Int64 :=
  if l1 ≤ l2 then
  lp (fun k s => m_X4_rowsOf_B52 l0 k s.1 s.2) FU (0, 0)
  else
  mb (vc 3 l0 (m_X4_lengthenRows l0 )) fun _ =>
  k32 ((l2 + 1))
def m_X4_rowsOf_B2 (l0 : Nat) (l1 : Int32)  (k2 : Int32 → Mo Int64) (l2 : Int32) : Mo Int64 :=
  mb (gI 3 11 l0) fun states1 =>
  if states1 ≤ l2 then
  mb (gR 3 5 l0) fun ways2 =>
  mb (tJ ways2 0 1) fun _ =>
  lp (fun k s => m_X4_rowsOf_B32 l0 l1 k s) FU 0
  else
  mb (gR 3 5 l0) fun ways8 =>
  mb (tJ ways8 l2 0) fun _ =>
  k2 ((l2 + 1))
def m_X4_rowsOf (l0 : Nat) (l1 : Int32) : Mo Int64 :=
  lp (fun k s => m_X4_rowsOf_B2 l0 l1 k s) FU 0
def m_X7_many_J18   : Mo Int64 :=
  mp ((-1))
def m_X7_many (l0 : Nat) (l1 : Int32) (l2 : Int32) : Mo Int64 :=
  mb (vc 6 l0 (m_X7_isQuery l0 l1)) fun c1 =>
  if c1 = 0 then
  m_X7_many_J18 
  else
  if l2 < 0 then
  m_X7_many_J18 
  else
  if l2 ≤ 12 then
  mb (vc 6 l0 (m_X7_searchFor l0 l1)) fun c2 =>
  mb (vc 3 c2 (m_X4_rowsOf c2 l2)) fun c3 =>
  mp c3
  else
  m_X7_many_J18 
def m_X7_isWord (l0 : Nat) (l1 : Int32) : Mo Int32 :=
  if l1 < 0 then
  rZ 0
  else
  mb (gR 6 4 l0) fun words1 =>
  mb (gI 5 1 words1) fun count2 =>
  if count2 ≤ l1 then
  rZ 0
  else
  rZ 1
def m_X7_word (l0 : Nat) (l1 : Int32) (l2 : Int32) : Mo Int32 :=
  mb (vc 6 l0 (m_X7_isWord l0 l1)) fun c1 =>
  if c1 = 0 then
  mp ((-1))
  else
  if ((-1)) ≤ l2 then
  mb (gR 6 4 l0) fun words2 =>
  mb (gR 5 0 words2) fun codes3 =>
  mb (aI codes3 l1) fun x4 =>
  mb (m_X3_sizeOf x4) fun c5 =>
  if l2 = ((-1)) then
  mp c5
  else
  if c5 ≤ l2 then
  mp ((-9))
  else
  mb (m_X3_letterAt x4 l2) fun c6 =>
  mp ((c6 + 97))
  else
  mp ((-1))
def m_X7_placeOfBit_J34 (l0 : Int64) (l2 : Int32) (l3 : Int32) (l4 : Int32) (k5 : Int32 × Int32 → Mo Int32) : Mo Int32 :=
  k5 (l3, (l4 + 1))
def m_X7_placeOfBit_B5 (l0 : Int64) (l2 : Int32)  (k5 : Int32 × Int32 → Mo Int32) (l3 : Int32) (l4 : Int32) : Mo Int32 :=
  if 40 ≤ l4 then
  mp ((-9))
  else
  if ((lg_cmp ((((l0 >>> ((l4 : Int32).toInt64 &&& 63))) &&& 1)) 0)) = 0 then
  m_X7_placeOfBit_J34 l0 l2 l3 l4 k5
  else
  if l3 = l2 then
  mp l4
  else
  m_X7_placeOfBit_J34 l0 l2 ((l3 + 1)) l4 k5
def m_X7_placeOfBit (l0 : Int64) (l2 : Int32) : Mo Int32 :=
  lp (fun k s => m_X7_placeOfBit_B5 l0 l2 k s.1 s.2) FU (0, 0)
def m_J13_bitCount_95d88 (l0 : Int64) : Mo Int32 :=
  mb (mp ((l0 - ((((((l0 : Int64).toUInt64 >>> ((1 : Int32).toInt64.toUInt64 &&& Int64.toUInt64 63)).toInt64)) &&& 6148914691236517205))))) fun v1 =>
  mb (mp ((((v1 &&& 3689348814741910323)) + ((((((v1 : Int64).toUInt64 >>> ((2 : Int32).toInt64.toUInt64 &&& Int64.toUInt64 63)).toInt64)) &&& 3689348814741910323))))) fun v2 =>
  mb (mp ((((v2 + ((((v2 : Int64).toUInt64 >>> ((4 : Int32).toInt64.toUInt64 &&& Int64.toUInt64 63)).toInt64)))) &&& 1085102592571150095))) fun v3 =>
  mb (mp ((v3 + ((((v3 : Int64).toUInt64 >>> ((8 : Int32).toInt64.toUInt64 &&& Int64.toUInt64 63)).toInt64))))) fun v4 =>
  mb (mp ((v4 + ((((v4 : Int64).toUInt64 >>> ((16 : Int32).toInt64.toUInt64 &&& Int64.toUInt64 63)).toInt64))))) fun v5 =>
  mb (mp ((v5 + ((((v5 : Int64).toUInt64 >>> ((32 : Int32).toInt64.toUInt64 &&& Int64.toUInt64 63)).toInt64))))) fun v6 =>
  mp (((((v6 : Int64).toInt32)) &&& 127))
def m_X7_hit (l0 : Nat) (l1 : Int32) (l2 : Int32) : Mo Int32 :=
  mb (vc 6 l0 (m_X7_isWord l0 l1)) fun c1 =>
  if c1 = 0 then
  mp ((-1))
  else
  if ((-1)) ≤ l2 then
  if l2 = ((-1)) then
  mb (gR 6 6 l0) fun hits5 =>
  mb (aJ hits5 l1) fun x6 =>
  mb (m_J13_bitCount_95d88 x6) fun c7 =>
  mp c7
  else
  mb (gR 6 6 l0) fun hits2 =>
  mb (aJ hits2 l1) fun x3 =>
  mb (m_X7_placeOfBit x3 l2) fun c4 =>
  mp c4
  else
  mp ((-1))
def m_X7_isNode (l0 : Nat) (l1 : Int32) : Mo Int32 :=
  if l1 < 0 then
  rZ 0
  else
  mb (gR 6 5 l0) fun automaton1 =>
  mb (gI 0 0 automaton1) fun nodes2 =>
  if nodes2 ≤ l1 then
  rZ 0
  else
  rZ 1
def m_X7_node (l0 : Nat) (l1 : Int32) (l2 : Int32) : Mo Int32 :=
  mb (vc 6 l0 (m_X7_isNode l0 l1)) fun c1 =>
  if c1 = 0 then
  mp ((-1))
  else
  if l2 = 0 then
  mb (gR 6 5 l0) fun automaton2 =>
  mb (gR 0 1 automaton2) fun size3 =>
  mb (aI size3 l1) fun x4 =>
  mp x4
  else if l2 = 1 then
  if l1 = 0 then
  mp ((-9))
  else
  mb (gR 6 5 l0) fun automaton5 =>
  mb (gR 0 2 automaton5) fun last6 =>
  mb (aI last6 l1) fun x7 =>
  mp ((x7 + 97))
  else if l2 = 2 then
  if l1 = 0 then
  mp ((-9))
  else
  mb (gR 6 5 l0) fun automaton8 =>
  mb (gR 0 3 automaton8) fun parent9 =>
  mb (aI parent9 l1) fun x10 =>
  mp x10
  else if l2 = 3 then
  if l1 = 0 then
  mp ((-9))
  else
  mb (gR 6 5 l0) fun automaton11 =>
  mb (gR 0 4 automaton11) fun fail12 =>
  mb (aI fail12 l1) fun x13 =>
  mp x13
  else if l2 = 4 then
  mb (gR 6 5 l0) fun automaton14 =>
  mb (gR 0 5 automaton14) fun ends15 =>
  mb (aI ends15 l1) fun x16 =>
  mp x16
  else 
  mp ((-1))
def m_X7_next (l0 : Nat) (l1 : Int32) (l2 : Int32) : Mo Int32 :=
  mb (vc 6 l0 (m_X7_isNode l0 l1)) fun c1 =>
  if c1 = 0 then
  mp ((-1))
  else
  mb (m_X7_isLetter l2) fun c2 =>
  if c2 = 0 then
  mp ((-1))
  else
  mb (gR 6 5 l0) fun automaton3 =>
  mb (gR 0 6 automaton3) fun follow4 =>
  mb (aI follow4 ((((((l1 * 8)) + l2)) - 97))) fun x5 =>
  mp x5
def m_X7_letter (l0 : Nat) (l1 : Int32) : Mo Int32 :=
  if l1 < 0 then
  mp ((-1))
  else
  mb (gR 6 1 l0) fun held1 =>
  mb (gI 1 1 held1) fun letters2 =>
  if l1 < letters2 then
  mb (gR 6 1 l0) fun held3 =>
  mb (gR 1 7 held3) fun row4 =>
  mb (aI row4 l1) fun x5 =>
  mp ((x5 + 97))
  else
  mp ((-1))
def m_X7_matching_J30 (l0 : Nat) (l1 : Int32) (l2 : Int32) (l3 : Int32) (k4 : Int32 × Int32 → Mo Int32) : Mo Int32 :=
  k4 (l2, (l3 + 1))
def m_X7_matching_B4 (l0 : Nat) (l1 : Int32)  (k4 : Int32 × Int32 → Mo Int32) (l2 : Int32) (l3 : Int32) : Mo Int32 :=
  mb (gR 6 1 l0) fun held1 =>
  mb (gI 1 0 held1) fun queries2 =>
  if queries2 ≤ l3 then
  mp l2
  else
  mb (vc 6 l0 (m_X7_matches l0 l3 l1)) fun c3 =>
  if c3 = 0 then
  m_X7_matching_J30 l0 l1 l2 l3 k4
  else
  mb (mp ((l2 ||| (((1 : Int32) <<< (l3 &&& 31)))))) fun v4 =>
  m_X7_matching_J30 l0 l1 v4 l3 k4
def m_X7_matching (l0 : Nat) (l1 : Int32) : Mo Int32 :=
  lp (fun k s => m_X7_matching_B4 l0 l1 k s.1 s.2) FU (0, 0)
def m_X7_withoutLast (l0 : Nat) : Mo Int32 :=
  mb (gR 6 1 l0) fun held1 =>
  mb (gI 1 1 held1) fun letters2 =>
  mp ((if (0 : Int32) < ((letters2 - 1)) then ((letters2 - 1)) else 0))
def m_X7_asked_J29 (l0 : Nat) (l1 : Int32) (l2 : Int32) (k4 : Int32 × Int32 → Mo Int32) : Mo Int32 :=
  k4 (l1, (l2 + 1))
def m_X7_asked_B4 (l0 : Nat)  (k4 : Int32 × Int32 → Mo Int32) (l1 : Int32) (l2 : Int32) : Mo Int32 :=
  mb (gR 6 1 l0) fun held1 =>
  mb (gI 1 0 held1) fun queries2 =>
  if queries2 ≤ l2 then
  mp l1
  else
  mb (vc 6 l0 (m_X7_isAsked l0 l2)) fun c3 =>
  if c3 = 0 then
  m_X7_asked_J29 l0 l1 l2 k4
  else
  mb (mp ((l1 ||| (((1 : Int32) <<< (l2 &&& 31)))))) fun v4 =>
  m_X7_asked_J29 l0 v4 l2 k4
def m_X7_asked (l0 : Nat) : Mo Int32 :=
  lp (fun k s => m_X7_asked_B4 l0 k s.1 s.2) FU (0, 0)
def m_X7_allHits_B4 (l0 : Nat)  (k4 : Int32 × Int32 → Mo Int32) (l1 : Int32) (l2 : Int32) : Mo Int32 :=
  mb (gR 6 4 l0) fun words1 =>
  mb (gI 5 1 words1) fun count2 =>
  if count2 ≤ l2 then
  mp l1
  else
  mb (gR 6 6 l0) fun hits3 =>
  mb (aJ hits3 l2) fun x4 =>
  mb (m_J13_bitCount_95d88 x4) fun c5 =>
  mb (mp ((l1 + c5))) fun v6 =>
  k4 (v6, (l2 + 1))
def m_X7_allHits (l0 : Nat) : Mo Int32 :=
  lp (fun k s => m_X7_allHits_B4 l0 k s.1 s.2) FU (0, 0)
def m_X7_now (l0 : Nat) (l1 : Int32) : Mo Int32 :=
  if l1 = 0 then
  mb (gI 6 7 l0) fun at1 =>
  mp at1
  else if l1 = 1 then
  mb (gR 6 1 l0) fun held2 =>
  mb (gI 1 1 held2) fun letters3 =>
  mb (vc 6 l0 (m_X7_matching l0 letters3)) fun c4 =>
  mp c4
  else if l1 = 2 then
  mb (gR 6 1 l0) fun held5 =>
  mb (gI 1 1 held5) fun letters6 =>
  mb (vc 6 l0 (m_X7_matching l0 letters6)) fun c7 =>
  mb (vc 6 l0 (m_X7_withoutLast l0 )) fun c8 =>
  mb (vc 6 l0 (m_X7_matching l0 c8)) fun c9 =>
  mp ((c7 &&& ((c9 ^^^ ((-1))))))
  else if l1 = 3 then
  mb (vc 6 l0 (m_X7_withoutLast l0 )) fun c10 =>
  mb (vc 6 l0 (m_X7_matching l0 c10)) fun c11 =>
  mb (gR 6 1 l0) fun held12 =>
  mb (gI 1 1 held12) fun letters13 =>
  mb (vc 6 l0 (m_X7_matching l0 letters13)) fun c14 =>
  mp ((c11 &&& ((c14 ^^^ ((-1))))))
  else if l1 = 4 then
  mb (vc 6 l0 (m_X7_asked l0 )) fun c15 =>
  mp c15
  else if l1 = 5 then
  mb (vc 6 l0 (m_X7_allHits l0 )) fun c16 =>
  mp c16
  else 
  mp ((-1))
def m_X7_keep_J37 (l0 : Nat) (l2 : Nat)  : Mo Int32 :=
  mb (gR 6 1 l0) fun held6 =>
  mb (vc 1 l2 (m_X1_take l2 held6)) fun _ =>
  mb (gR 6 1 l0) fun held7 =>
  mb (gI 1 0 held7) fun queries8 =>
  mp queries8
def m_X7_keep (l0 : Nat) (l1 : Int32) : Mo Int32 :=
  if l1 < 0 then
  mp ((-1))
  else
  if l1 < 2 then
  mb (gR 6 3 l0) fun images1 =>
  mb (aQ images1 l1) fun o3 => match o3 with
  | none =>
  mb (nO 1) fun p4 =>
  mb (m_X1_init p4) fun _ =>
  mb (gR 6 3 l0) fun images5 =>
  mb (tQ images5 l1 p4) fun _ =>
  m_X7_keep_J37 l0 p4
  | some r2 =>
  m_X7_keep_J37 l0 r2
  else
  mp ((-1))
def m_X2_forget (l0 : Nat) : Mo Unit :=
  mb (sI 2 2 l0 0) fun _ =>
  mp ()
def m_X7_back (l0 : Nat) (l1 : Int32) : Mo Int32 :=
  if l1 < 0 then
  mp ((-1))
  else
  if l1 < 2 then
  mb (gR 6 3 l0) fun images1 =>
  mb (aQ images1 l1) fun o3 => match o3 with
  | none =>
  mp ((-2))
  | some r2 =>
  mb (gR 6 1 l0) fun held4 =>
  mb (vc 1 held4 (m_X1_take held4 r2)) fun _ =>
  mb (gR 6 2 l0) fun history5 =>
  mb (vc 2 history5 (m_X2_forget history5 )) fun _ =>
  mb (vc 6 l0 (m_X7_rebuild l0 )) fun _ =>
  mb (gR 6 1 l0) fun held6 =>
  mb (gI 1 0 held6) fun queries7 =>
  mp queries7
  else
  mp ((-1))
def m_X7_count (l0 : Nat) (l1 : Int32) : Mo Int32 :=
  if l1 = 0 then
  mb (gR 6 1 l0) fun held1 =>
  mb (gI 1 0 held1) fun queries2 =>
  mp queries2
  else if l1 = 1 then
  mb (gR 6 4 l0) fun words3 =>
  mb (gI 5 1 words3) fun count4 =>
  mp count4
  else if l1 = 2 then
  mb (gR 6 5 l0) fun automaton5 =>
  mb (gI 0 0 automaton5) fun nodes6 =>
  mp nodes6
  else if l1 = 3 then
  mb (gR 6 1 l0) fun held7 =>
  mb (gI 1 1 held7) fun letters8 =>
  mp letters8
  else if l1 = 4 then
  mb (gR 6 2 l0) fun history9 =>
  mb (gI 2 2 history9) fun known10 =>
  mp known10
  else if l1 = 5 then
  mb (gR 6 0 l0) fun text11 =>
  mb (gI 4 1 text11) fun size12 =>
  mp size12
  else 
  mp ((-1))
def m_X8_in (l0 : Int64) (l2 : Int64) (l4 : Int64) : Mo Int32 :=
  if ((lg_cmp l0 l2)) < 0 then
  rZ 0
  else
  if 0 < ((lg_cmp l0 l4)) then
  rZ 0
  else
  rZ 1
def m_X8_type (l0 : Nat) (l1 : Int32) : Mo Int32 :=
  mb (sI 7 0 l0 0) fun _ =>
  mb (m_X8_in (((l1 : Int32).toInt64)) 0 255) fun c1 =>
  if c1 = 0 then
  mp ((-1))
  else
  mb (gI 7 2 l0) fun typed2 =>
  if typed2 = 150 then
  mp ((-3))
  else
  mb (gR 7 1 l0) fun text3 =>
  mb (gI 7 2 l0) fun typed4 =>
  mb (tI text3 typed4 l1) fun _ =>
  mb (gI 7 2 l0) fun typed5 =>
  mb (sI 7 2 l0 ((typed5 + 1))) fun _ =>
  mb (gI 7 2 l0) fun typed6 =>
  mp typed6
def m_X8_clear (l0 : Nat) : Mo Int32 :=
  mb (sI 7 0 l0 0) fun _ =>
  mb (gI 7 2 l0) fun typed1 =>
  mb (sI 7 2 l0 0) fun _ =>
  mp typed1
def m_X8_byteAt (l0 : Nat) (l1 : Int32) : Mo Int32 :=
  mb (gI 7 2 l0) fun typed1 =>
  if typed1 ≤ l1 then
  mp ((-1))
  else
  mb (gR 7 1 l0) fun text2 =>
  mb (aI text2 l1) fun x3 =>
  mp x3
def m_X8_step_J275 (l0 : Nat)  : Mo Unit :=
  mb (gI 7 3 l0) fun cursor9 =>
  mb (gI 7 4 l0) fun start10 =>
  mb (sI 7 7 l0 ((cursor9 - start10))) fun _ =>
  mp ()
def m_X8_step_J271 (l0 : Nat) (s0 : Int32) (s1 : Int32) (s2 : Nat)  : Mo Unit :=
  mb (sI 7 3 s2 ((s1 + s0))) fun _ =>
  m_X8_step_J275 l0
def m_X8_step_J254 (l0 : Nat) (l1 : Int32) (s0 : Int32) (s1 : Nat)  : Mo Unit :=
  mb (sI 7 5 s1 s0) fun _ =>
  mb (gI 7 3 l0) fun cursor8 =>
  if 0 ≤ l1 then
  m_X8_step_J271 l0 1 cursor8 l0
  else
  m_X8_step_J271 l0 0 cursor8 l0
def m_X8_step_J226 (l0 : Nat)  : Mo Unit :=
  mb (sI 7 5 l0 4) fun _ =>
  m_X8_step_J275 l0
def m_X8_step_J182 (l0 : Nat) (l1 : Int32) (s0 : Int32) (s1 : Nat) (k125 : Unit → Mo Unit) : Mo Unit :=
  mb (sI 7 6 s1 s0) fun _ =>
  mb (gI 7 3 l0) fun cursor21 =>
  mb (sI 7 3 l0 ((cursor21 + 1))) fun _ =>
  k125 ()
def m_X8_step_B125 (l0 : Nat) (l1 : Int32)  (k125 : Unit → Mo Unit)  : Mo Unit :=
  mb (gI 7 3 l0) fun cursor11 =>
  mb (vc 7 l0 (m_X8_byteAt l0 cursor11)) fun c12 =>
  mb (m_X8_in (((c12 : Int32).toInt64)) 48 57) fun c13 =>
  if c13 = 0 then
  mb (gI 7 6 l0) fun value14 =>
  if 99 < value14 then
  m_X8_step_J226 l0
  else
  if l1 = 48 then
  mb (gI 7 3 l0) fun cursor15 =>
  mb (gI 7 4 l0) fun start16 =>
  if cursor15 ≤ ((start16 + 1)) then
  m_X8_step_J275 l0
  else
  m_X8_step_J226 l0
  else
  m_X8_step_J275 l0
  else
  mb (gI 7 6 l0) fun value17 =>
  if value17 ≤ 99 then
  mb (gI 7 6 l0) fun value18 =>
  mb (gI 7 3 l0) fun cursor19 =>
  mb (vc 7 l0 (m_X8_byteAt l0 cursor19)) fun c20 =>
  m_X8_step_J182 l0 l1 ((((((10 * value18)) + c20)) - 48)) l0 k125
  else
  mb (gI 7 6 l0) fun value22 =>
  m_X8_step_J182 l0 l1 value22 l0 k125
def m_X8_step_B67 (l0 : Nat)  (k67 : Unit → Mo Unit)  : Mo Unit :=
  mb (gI 7 3 l0) fun cursor23 =>
  mb (vc 7 l0 (m_X8_byteAt l0 cursor23)) fun c24 =>
  mb (m_X8_in (((c24 : Int32).toInt64)) 97 122) fun c25 =>
  if c25 = 0 then
  m_X8_step_J275 l0
  else
  mb (gI 7 3 l0) fun cursor26 =>
  mb (sI 7 3 l0 ((cursor26 + 1))) fun _ =>
  k67 ()
def m_X8_step_B0 (l0 : Nat)  (k0 : Unit → Mo Unit)  : Mo Unit :=
  mb (gI 7 3 l0) fun cursor1 =>
  mb (vc 7 l0 (m_X8_byteAt l0 cursor1)) fun c2 =>
  if c2 = 32 then
  mb (gI 7 3 l0) fun cursor27 =>
  mb (sI 7 3 l0 ((cursor27 + 1))) fun _ =>
  k0 ()
  else
  mb (gI 7 3 l0) fun cursor3 =>
  mb (sI 7 4 l0 cursor3) fun _ =>
  mb (gI 7 3 l0) fun cursor4 =>
  mb (vc 7 l0 (m_X8_byteAt l0 cursor4)) fun c5 =>
  mb (sI 7 6 l0 c5) fun _ =>
  mb (m_X8_in (((c5 : Int32).toInt64)) 97 122) fun c6 =>
  if c6 = 0 then
  mb (m_X8_in (((c5 : Int32).toInt64)) 48 57) fun c7 =>
  if c7 = 0 then
  if 0 ≤ c5 then
  if c5 = 59 then
  m_X8_step_J254 l0 c5 3 l0
  else
  m_X8_step_J254 l0 c5 4 l0
  else
  m_X8_step_J254 l0 c5 0 l0
  else
  mb (sI 7 5 l0 2) fun _ =>
  mb (sI 7 6 l0 0) fun _ =>
  lp (fun k s => m_X8_step_B125 l0 c5 k ) FU ()
  else
  mb (sI 7 5 l0 1) fun _ =>
  lp (fun k s => m_X8_step_B67 l0 k ) FU ()
def m_X8_step (l0 : Nat) : Mo Unit :=
  lp (fun k s => m_X8_step_B0 l0 k ) FU ()
def m_X8_isName (l0 : Nat) (l1 : Int32) : Mo Int32 :=
  mb (gI 7 5 l0) fun token1 =>
  if token1 = 1 then
  mb (gI 7 7 l0) fun size2 =>
  if size2 = 1 then
  mb (gI 7 6 l0) fun value3 =>
  if value3 = l1 then
  rZ 1
  else
  rZ 0
  else
  rZ 0
  else
  rZ 0
def m_X8_parts (l0 : Nat) (l1 : Int32) : Mo Int32 :=
  mb (aI l0 ((42 + ((17 * l1))))) fun x1 =>
  mp x1
def m_X8_of (l0 : Nat) (l1 : Int32) (l2 : Int32) (l3 : Int32) : Mo Int32 :=
  mb (aI l0 ((((((((42 + ((17 * l1)))) + 1)) + ((4 * l2)))) + l3))) fun x1 =>
  mp x1
def m_X8_copyAll_B2 (l0 : Nat) (l1 : Nat)  (k2 : Int32 → Mo Unit) (l2 : Int32) : Mo Unit :=
  if 178 ≤ l2 then
  mp ()
  else
  mb (aI l0 l2) fun x1 =>
  mb (tI l1 l2 x1) fun _ =>
  k2 ((l2 + 1))
def m_X8_copyAll (l0 : Nat) (l1 : Nat) : Mo Unit :=
  lp (fun k s => m_X8_copyAll_B2 l0 l1 k s) FU 0
def m_X8_letterOf (l0 : Int32) (l1 : Int32) : Mo Int32 :=
  mp ((((l0 >>> (((3 * ((((((l0 / 1048576)) - 1)) - l1)))) &&& 31))) &&& 7))
def m_X8_order_J54 (l2 : Int32) (l3 : Int32)  : Mo Int32 :=
  mp ((l2 - l3))
def m_X8_order_B13 (l0 : Int32) (l1 : Int32) (l2 : Int32) (l3 : Int32)  (k13 : Int32 → Mo Int32) (l4 : Int32) : Mo Int32 :=
  if l2 ≤ l4 then
  m_X8_order_J54 l2 l3
  else
  if l3 ≤ l4 then
  m_X8_order_J54 l2 l3
  else
  mb (m_X8_letterOf l0 l4) fun c3 =>
  mb (m_X8_letterOf l1 l4) fun c4 =>
  mb (mp ((c3 - c4))) fun v5 =>
  if v5 = 0 then
  k13 ((l4 + 1))
  else
  mp v5
def m_X8_order (l0 : Int32) (l1 : Int32) : Mo Int32 :=
  mb (mp ((l0 / 1048576))) fun v1 =>
  mb (mp ((l1 / 1048576))) fun v2 =>
  lp (fun k s => m_X8_order_B13 l0 l1 v1 v2 k s) FU 0
def m_X8_addWord_B53 (l0 : Nat) (l1 : Int32) (l2 : Int32)  (k53 : Int32 → Mo Unit) (l3 : Int32) : Mo Unit :=
  if l3 ≤ l2 then
  mb (gR 7 14 l0) fun words4 =>
  mb (tI words4 l2 l1) fun _ =>
  mb (gI 7 15 l0) fun wordMany5 =>
  mb (sI 7 15 l0 ((wordMany5 + 1))) fun _ =>
  mp ()
  else
  mb (gR 7 14 l0) fun words6 =>
  mb (gR 7 14 l0) fun words7 =>
  mb (aI words7 ((l3 - 1))) fun x8 =>
  mb (tI words6 l3 x8) fun _ =>
  k53 ((l3 + (-1)))
def m_X8_addWord_J48 (l0 : Nat) (l1 : Int32) (l2 : Int32)  : Mo Unit :=
  mb (gI 7 15 l0) fun wordMany3 =>
  lp (fun k s => m_X8_addWord_B53 l0 l1 l2 k s) FU wordMany3
def m_X8_addWord_J29 (l0 : Nat) (l1 : Int32) (l2 : Int32)  : Mo Unit :=
  mb (gI 7 15 l0) fun wordMany2 =>
  if wordMany2 ≤ l2 then
  m_X8_addWord_J48 l0 l1 l2
  else
  mb (gR 7 14 l0) fun words9 =>
  mb (aI words9 l2) fun x10 =>
  if x10 = l1 then
  mp ()
  else
  m_X8_addWord_J48 l0 l1 l2
def m_X8_addWord_B2 (l0 : Nat) (l1 : Int32)  (k2 : Int32 → Mo Unit) (l2 : Int32) : Mo Unit :=
  mb (gI 7 15 l0) fun wordMany1 =>
  if wordMany1 ≤ l2 then
  m_X8_addWord_J29 l0 l1 l2
  else
  mb (gR 7 14 l0) fun words11 =>
  mb (aI words11 l2) fun x12 =>
  mb (m_X8_order x12 l1) fun c13 =>
  if 0 ≤ c13 then
  m_X8_addWord_J29 l0 l1 l2
  else
  k2 ((l2 + 1))
def m_X8_addWord (l0 : Nat) (l1 : Int32) : Mo Unit :=
  lp (fun k s => m_X8_addWord_B2 l0 l1 k s) FU 0
def m_X8_layWords_J58 (l0 : Nat) (l1 : Nat) (l2 : Int32) (l3 : Int32) (k7 : Int32 → Mo Unit) (k16 : Int32 → Mo Unit) : Mo Unit :=
  k16 ((l3 + 1))
def m_X8_layWords_B16 (l0 : Nat) (l1 : Nat) (l2 : Int32) (k7 : Int32 → Mo Unit) (k16 : Int32 → Mo Unit) (l3 : Int32) : Mo Unit :=
  mb (m_X8_parts l1 l2) fun c2 =>
  if c2 ≤ l3 then
  k7 ((l2 + 1))
  else
  mb (m_X8_of l1 l2 l3 1) fun c3 =>
  mb (vc 7 l0 (m_X8_addWord l0 c3)) fun _ =>
  mb (m_X8_of l1 l2 l3 0) fun c4 =>
  if c4 = 2 then
  mb (m_X8_of l1 l2 l3 2) fun c5 =>
  mb (vc 7 l0 (m_X8_addWord l0 c5)) fun _ =>
  m_X8_layWords_J58 l0 l1 l2 l3 k7 k16
  else
  m_X8_layWords_J58 l0 l1 l2 l3 k7 k16
def m_X8_layWords_B7 (l0 : Nat) (l1 : Nat)  (k7 : Int32 → Mo Unit) (l2 : Int32) : Mo Unit :=
  mb (aI l1 0) fun x1 =>
  if x1 ≤ l2 then
  mp ()
  else
  lp (fun k s => m_X8_layWords_B16 l0 l1 l2 k7 k s) FU 0
def m_X8_layWords (l0 : Nat) (l1 : Nat) : Mo Unit :=
  mb (sI 7 15 l0 0) fun _ =>
  lp (fun k s => m_X8_layWords_B7 l0 l1 k s) FU 0
def m_X8_numberOf_B2 (l0 : Nat) (l1 : Int32)  (k2 : Int32 → Mo Int32) (l2 : Int32) : Mo Int32 :=
  mb (gR 7 14 l0) fun words1 =>
  mb (aI words1 l2) fun x2 =>
  if x2 = l1 then
  mp l2
  else
  k2 ((l2 + 1))
def m_X8_numberOf (l0 : Nat) (l1 : Int32) : Mo Int32 :=
  lp (fun k s => m_X8_numberOf_B2 l0 l1 k s) FU 0
def m_X8_nodeOf_B2 (l0 : Nat) (l1 : Int32)  (k2 : Int32 → Mo Int32) (l2 : Int32) : Mo Int32 :=
  mb (gI 7 17 l0) fun nodeMany1 =>
  if nodeMany1 ≤ l2 then
  mp ((-9))
  else
  mb (gR 7 16 l0) fun nodes2 =>
  mb (aI nodes2 l2) fun x3 =>
  if x3 = l1 then
  mp l2
  else
  k2 ((l2 + 1))
def m_X8_nodeOf (l0 : Nat) (l1 : Int32) : Mo Int32 :=
  lp (fun k s => m_X8_nodeOf_B2 l0 l1 k s) FU 0
def m_X8_firsts (l0 : Int32) (l1 : Int32) : Mo Int32 :=
  mp ((((l1 * 1048576)) + ((((l0 &&& 1048575)) >>> (((3 * ((((l0 / 1048576)) - l1)))) &&& 31)))))
def m_X8_lasts (l0 : Int32) (l1 : Int32) : Mo Int32 :=
  mp ((((l1 * 1048576)) + ((l0 &&& (((((1 : Int32) <<< (((3 * l1)) &&& 31))) - 1))))))
def m_X8_withLetter (l0 : Int32) (l1 : Int32) : Mo Int32 :=
  mp ((((((((((l0 / 1048576)) + 1)) * 1048576)) + ((((l0 &&& 262143)) * 8)))) + l1))
def m_X8_addNode_B50 (l0 : Nat) (l1 : Int32) (l2 : Int32)  (k50 : Int32 → Mo Unit) (l3 : Int32) : Mo Unit :=
  if l3 ≤ l2 then
  mb (gR 7 16 l0) fun nodes4 =>
  mb (tI nodes4 l2 l1) fun _ =>
  mb (gI 7 17 l0) fun nodeMany5 =>
  mb (sI 7 17 l0 ((nodeMany5 + 1))) fun _ =>
  mp ()
  else
  mb (gR 7 16 l0) fun nodes6 =>
  mb (gR 7 16 l0) fun nodes7 =>
  mb (aI nodes7 ((l3 - 1))) fun x8 =>
  mb (tI nodes6 l3 x8) fun _ =>
  k50 ((l3 + (-1)))
def m_X8_addNode_J45 (l0 : Nat) (l1 : Int32) (l2 : Int32)  : Mo Unit :=
  mb (gI 7 17 l0) fun nodeMany3 =>
  lp (fun k s => m_X8_addNode_B50 l0 l1 l2 k s) FU nodeMany3
def m_X8_addNode_J26 (l0 : Nat) (l1 : Int32) (l2 : Int32)  : Mo Unit :=
  mb (gI 7 17 l0) fun nodeMany2 =>
  if nodeMany2 ≤ l2 then
  m_X8_addNode_J45 l0 l1 l2
  else
  mb (gR 7 16 l0) fun nodes9 =>
  mb (aI nodes9 l2) fun x10 =>
  if x10 = l1 then
  mp ()
  else
  m_X8_addNode_J45 l0 l1 l2
def m_X8_addNode_B2 (l0 : Nat) (l1 : Int32)  (k2 : Int32 → Mo Unit) (l2 : Int32) : Mo Unit :=
  mb (gI 7 17 l0) fun nodeMany1 =>
  if nodeMany1 ≤ l2 then
  m_X8_addNode_J26 l0 l1 l2
  else
  mb (gR 7 16 l0) fun nodes11 =>
  mb (aI nodes11 l2) fun x12 =>
  if l1 ≤ x12 then
  m_X8_addNode_J26 l0 l1 l2
  else
  k2 ((l2 + 1))
def m_X8_addNode (l0 : Nat) (l1 : Int32) : Mo Unit :=
  lp (fun k s => m_X8_addNode_B2 l0 l1 k s) FU 0
def m_X8_longest_B2 (l0 : Nat) (l1 : Int32)  (k2 : Int32 → Mo Int32) (l3 : Int32) : Mo Int32 :=
  if l3 ≤ 0 then
  mp 0
  else
  mb (m_X8_lasts l1 l3) fun c1 =>
  mb (vc 7 l0 (m_X8_nodeOf l0 c1)) fun c2 =>
  if c2 = ((-9)) then
  k2 ((l3 + (-1)))
  else
  mp c2
def m_X8_longest (l0 : Nat) (l1 : Int32) (l2 : Int32) : Mo Int32 :=
  lp (fun k s => m_X8_longest_B2 l0 l1 k s) FU l2
def m_X8_make_J238 (l0 : Nat) (l1 : Int32) (l2 : Int32) (l3 : Int32) (s0 : Int32) (s1 : Int32) (s2 : Nat) (s3 : Int32) (s4 : Nat) (k71 : Int32 → Mo Unit) (k195 : Int32 → Mo Unit) : Mo Unit :=
  mb (vc 7 s2 (m_X8_longest s2 s1 s0)) fun c17 =>
  mb (tI s4 s3 c17) fun _ =>
  k195 ((l3 + 1))
def m_X8_make_B195 (l0 : Nat) (l1 : Int32) (l2 : Int32) (k71 : Int32 → Mo Unit) (k195 : Int32 → Mo Unit) (l3 : Int32) : Mo Unit :=
  if 8 ≤ l3 then
  k71 ((l1 + 1))
  else
  mb (gR 7 20 l0) fun nexts13 =>
  mb (gR 7 16 l0) fun nodes14 =>
  mb (aI nodes14 l1) fun x15 =>
  mb (m_X8_withLetter x15 l3) fun c16 =>
  if ((l2 + 1)) ≤ 6 then
  m_X8_make_J238 l0 l1 l2 l3 ((l2 + 1)) c16 l0 ((((8 * l1)) + l3)) nexts13 k71 k195
  else
  m_X8_make_J238 l0 l1 l2 l3 6 c16 l0 ((((8 * l1)) + l3)) nexts13 k71 k195
def m_X8_make_J185 (l0 : Nat) (l1 : Int32) (l2 : Int32) (l3 : Int32) (s0 : Int32) (s1 : Int32) (s2 : Int32) (s3 : Nat) (k71 : Int32 → Mo Unit) (k126 : Int32 → Mo Unit) : Mo Unit :=
  mb (tI s3 s2 ((s1 ||| s0))) fun _ =>
  k126 ((l3 + 1))
def m_X8_make_J184 (l0 : Nat) (l1 : Int32) (l2 : Int32) (l3 : Int32) (s0 : Int32) (s1 : Int32) (s2 : Nat) (k71 : Int32 → Mo Unit) (k126 : Int32 → Mo Unit) : Mo Unit :=
  m_X8_make_J185 l0 l1 l2 l3 0 s0 s1 s2 k71 k126
def m_X8_make_B126 (l0 : Nat) (l1 : Int32) (l2 : Int32) (k71 : Int32 → Mo Unit) (k126 : Int32 → Mo Unit) (l3 : Int32) : Mo Unit :=
  mb (gI 7 15 l0) fun wordMany12 =>
  if wordMany12 ≤ l3 then
  lp (fun k s => m_X8_make_B195 l0 l1 l2 k71 k s) FU 0
  else
  mb (gR 7 14 l0) fun words18 =>
  mb (aI words18 l3) fun x19 =>
  mb (mp ((x19 / 1048576))) fun v20 =>
  mb (gR 7 19 l0) fun ends21 =>
  mb (aI ends21 l1) fun x22 =>
  if l2 < v20 then
  m_X8_make_J184 l0 l1 l2 l3 x22 l1 ends21 k71 k126
  else
  mb (gR 7 16 l0) fun nodes23 =>
  mb (aI nodes23 l1) fun x24 =>
  mb (m_X8_lasts x24 v20) fun c25 =>
  mb (gR 7 14 l0) fun words26 =>
  mb (aI words26 l3) fun x27 =>
  if c25 = x27 then
  m_X8_make_J185 l0 l1 l2 l3 (((1 : Int32) <<< (l3 &&& 31))) x22 l1 ends21 k71 k126
  else
  m_X8_make_J184 l0 l1 l2 l3 x22 l1 ends21 k71 k126
def m_X8_make_J116 (l0 : Nat) (l1 : Int32) (l2 : Int32) (s0 : Int32) (s1 : Int32) (s2 : Nat) (k71 : Int32 → Mo Unit) : Mo Unit :=
  mb (tI s2 s1 s0) fun _ =>
  mb (gR 7 19 l0) fun ends11 =>
  mb (tI ends11 l1 0) fun _ =>
  lp (fun k s => m_X8_make_B126 l0 l1 l2 k71 k s) FU 0
def m_X8_make_B71 (l0 : Nat)  (k71 : Int32 → Mo Unit) (l1 : Int32) : Mo Unit :=
  mb (gI 7 17 l0) fun nodeMany3 =>
  if nodeMany3 ≤ l1 then
  mp ()
  else
  mb (gR 7 16 l0) fun nodes4 =>
  mb (aI nodes4 l1) fun x5 =>
  mb (mp ((x5 / 1048576))) fun v6 =>
  mb (gR 7 18 l0) fun fails7 =>
  if l1 = 0 then
  m_X8_make_J116 l0 l1 v6 ((-9)) l1 fails7 k71
  else
  mb (gR 7 16 l0) fun nodes8 =>
  mb (aI nodes8 l1) fun x9 =>
  mb (vc 7 l0 (m_X8_longest l0 x9 ((v6 - 1)))) fun c10 =>
  m_X8_make_J116 l0 l1 v6 c10 l1 fails7 k71
def m_X8_make_B30 (l0 : Nat) (l1 : Int32) (k20 : Int32 → Mo Unit) (k30 : Int32 → Mo Unit) (l2 : Int32) : Mo Unit :=
  mb (gR 7 14 l0) fun words28 =>
  mb (aI words28 l1) fun x29 =>
  if ((x29 / 1048576)) < l2 then
  k20 ((l1 + 1))
  else
  mb (gR 7 14 l0) fun words30 =>
  mb (aI words30 l1) fun x31 =>
  mb (m_X8_firsts x31 l2) fun c32 =>
  mb (vc 7 l0 (m_X8_addNode l0 c32)) fun _ =>
  k30 ((l2 + 1))
def m_X8_make_B20 (l0 : Nat)  (k20 : Int32 → Mo Unit) (l1 : Int32) : Mo Unit :=
  mb (gI 7 15 l0) fun wordMany2 =>
  if wordMany2 ≤ l1 then
  lp (fun k s => m_X8_make_B71 l0 k s) FU 0
  else
  lp (fun k s => m_X8_make_B30 l0 l1 k20 k s) FU 1
def m_X8_make (l0 : Nat) : Mo Unit :=
  mb (gR 7 8 l0) fun now1 =>
  mb (vc 7 l0 (m_X8_layWords l0 now1)) fun _ =>
  mb (sI 7 17 l0 0) fun _ =>
  mb (vc 7 l0 (m_X8_addNode l0 0)) fun _ =>
  lp (fun k s => m_X8_make_B20 l0 k s) FU 0
def m_X8_init (l0 : Nat) : Mo Unit :=
  mb (nA 100 150) fun p1 =>
  mb (sR 7 1 l0 p1) fun _ =>
  mb (nA 100 178) fun p2 =>
  mb (sR 7 8 l0 p2) fun _ =>
  mb (nA 100 178) fun p3 =>
  mb (sR 7 9 l0 p3) fun _ =>
  mb (nA 100 1780) fun p4 =>
  mb (sR 7 10 l0 p4) fun _ =>
  mb (nA 102 2) fun p5 =>
  mb (sR 7 12 l0 p5) fun _ =>
  mb (nA 100 356) fun p6 =>
  mb (sR 7 13 l0 p6) fun _ =>
  mb (nA 100 64) fun p7 =>
  mb (sR 7 14 l0 p7) fun _ =>
  mb (nA 100 100) fun p8 =>
  mb (sR 7 16 l0 p8) fun _ =>
  mb (nA 100 100) fun p9 =>
  mb (sR 7 18 l0 p9) fun _ =>
  mb (nA 100 100) fun p10 =>
  mb (sR 7 19 l0 p10) fun _ =>
  mb (nA 100 800) fun p11 =>
  mb (sR 7 20 l0 p11) fun _ =>
  mb (nA 100 40) fun p12 =>
  mb (sR 7 21 l0 p12) fun _ =>
  mb (nA 101 15520) fun p13 =>
  mb (sR 7 28 l0 p13) fun _ =>
  mb (nA 101 15520) fun p14 =>
  mb (sR 7 29 l0 p14) fun _ =>
  mb (vc 7 l0 (m_X8_make l0 )) fun _ =>
  mp ()
def m_X8_readWord_B38 (l0 : Nat) (l1 : Int32)  (k38 : Int32 × Int32 → Mo Int32) (l2 : Int32) (l3 : Int32) : Mo Int32 :=
  mb (gI 7 3 l0) fun cursor6 =>
  if cursor6 ≤ l3 then
  mb (vc 7 l0 (m_X8_addWord l0 ((l1 + l2)))) fun _ =>
  mb (gI 7 15 l0) fun wordMany7 =>
  if wordMany7 ≤ 16 then
  mp ((l1 + l2))
  else
  mp 0
  else
  mb (gR 7 1 l0) fun text8 =>
  mb (aI text8 l3) fun x9 =>
  if x9 ≤ 104 then
  mb (gR 7 1 l0) fun text10 =>
  mb (aI text10 l3) fun x11 =>
  mb (mp ((((((8 * l2)) + x11)) - 97))) fun v12 =>
  k38 (v12, (l3 + 1))
  else
  mp 0
def m_X8_readWord (l0 : Nat) : Mo Int32 :=
  mb (vc 7 l0 (m_X8_step l0 )) fun _ =>
  mb (gI 7 5 l0) fun token1 =>
  if token1 = 1 then
  mb (gI 7 7 l0) fun size2 =>
  if size2 ≤ 6 then
  mb (gI 7 7 l0) fun size3 =>
  mb (mp ((size3 * 1048576))) fun v4 =>
  mb (gI 7 4 l0) fun start5 =>
  lp (fun k s => m_X8_readWord_B38 l0 v4 k s.1 s.2) FU (0, start5)
  else
  mp 0
  else
  mp 0
def m_X8_readPart_J165 (l0 : Nat) (l2 : Int32)  : Mo Int32 :=
  mb (gR 7 9 l0) fun fresh12 =>
  mb (aI fresh12 ((42 + ((17 * l2))))) fun x13 =>
  mb (tI fresh12 ((42 + ((17 * l2)))) ((x13 + 1))) fun _ =>
  rZ 1
def m_X8_readPart_J107 (l0 : Nat) (l1 : Int32) (l2 : Int32) (l4 : Int32) (s0 : Int32) (s1 : Int32) (s2 : Nat)  : Mo Int32 :=
  mb (tI s2 s1 s0) fun _ =>
  mb (gR 7 9 l0) fun fresh11 =>
  mb (tI fresh11 ((l4 + 3)) 0) fun _ =>
  if l1 = 2 then
  mb (vc 7 l0 (m_X8_step l0 )) fun _ =>
  mb (gI 7 5 l0) fun token14 =>
  if token14 = 2 then
  mb (gI 7 6 l0) fun value15 =>
  mb (m_X8_in (((value15 : Int32).toInt64)) 1 9) fun c16 =>
  if c16 = 0 then
  rZ 0
  else
  mb (gR 7 9 l0) fun fresh17 =>
  mb (gI 7 6 l0) fun value18 =>
  mb (tI fresh17 ((l4 + 3)) value18) fun _ =>
  m_X8_readPart_J165 l0 l2
  else
  rZ 0
  else
  m_X8_readPart_J165 l0 l2
def m_X8_readPart_J60 (l0 : Nat) (l1 : Int32) (l2 : Int32) (l4 : Int32) (l5 : Int32) (s0 : Int32)  : Mo Int32 :=
  if s0 = 0 then
  rZ 0
  else
  mb (gR 7 9 l0) fun fresh8 =>
  mb (tI fresh8 l4 l1) fun _ =>
  mb (gR 7 9 l0) fun fresh9 =>
  mb (tI fresh9 ((l4 + 1)) s0) fun _ =>
  mb (gR 7 9 l0) fun fresh10 =>
  if l1 = 2 then
  m_X8_readPart_J107 l0 l1 l2 l4 l5 ((l4 + 2)) fresh10
  else
  m_X8_readPart_J107 l0 l1 l2 l4 0 ((l4 + 2)) fresh10
def m_X8_readPart (l0 : Nat) (l1 : Int32) : Mo Int32 :=
  mb (gR 7 9 l0) fun fresh1 =>
  mb (aI fresh1 0) fun x2 =>
  mb (mp ((x2 - 1))) fun v3 =>
  mb (gR 7 9 l0) fun fresh4 =>
  mb (m_X8_parts fresh4 v3) fun c5 =>
  mb (mp ((((((42 + ((17 * v3)))) + 1)) + ((4 * c5))))) fun v6 =>
  mb (vc 7 l0 (m_X8_readWord l0 )) fun c7 =>
  if c7 = 0 then
  rZ 0
  else
  if l1 = 2 then
  mb (vc 7 l0 (m_X8_readWord l0 )) fun c19 =>
  m_X8_readPart_J60 l0 l1 v3 v6 c7 c19
  else
  m_X8_readPart_J60 l0 l1 v3 v6 c7 c7
def m_X8_hasNear_J39 (l0 : Nat) (l1 : Int32) (l3 : Int32) (s0 : Int32) (k4 : Int32 × Int32 → Mo Int32) : Mo Int32 :=
  k4 (s0, (l3 + 1))
def m_X8_hasNear_J34 (l0 : Nat) (l1 : Int32) (l3 : Int32) (k4 : Int32 × Int32 → Mo Int32) : Mo Int32 :=
  m_X8_hasNear_J39 l0 l1 l3 1 k4
def m_X8_hasNear_B4 (l0 : Nat) (l1 : Int32)  (k4 : Int32 × Int32 → Mo Int32) (l2 : Int32) (l3 : Int32) : Mo Int32 :=
  mb (gR 7 9 l0) fun fresh1 =>
  mb (m_X8_parts fresh1 l1) fun c2 =>
  if c2 ≤ l3 then
  rZ l2
  else
  if l2 = 0 then
  mb (gR 7 9 l0) fun fresh3 =>
  mb (m_X8_of fresh3 l1 l3 0) fun c4 =>
  if c4 = 2 then
  m_X8_hasNear_J34 l0 l1 l3 k4
  else
  m_X8_hasNear_J39 l0 l1 l3 0 k4
  else
  m_X8_hasNear_J34 l0 l1 l3 k4
def m_X8_hasNear (l0 : Nat) (l1 : Int32) : Mo Int32 :=
  lp (fun k s => m_X8_hasNear_B4 l0 l1 k s.1 s.2) FU (0, 0)
def m_X8_isWhole_J33   : Mo Int32 :=
  rZ 1
def m_X8_isWhole (l0 : Nat) : Mo Int32 :=
  mb (gR 7 9 l0) fun fresh1 =>
  mb (aI fresh1 0) fun x2 =>
  mb (gR 7 8 l0) fun now3 =>
  mb (aI now3 0) fun x4 =>
  if x2 = x4 then
  m_X8_isWhole_J33 
  else
  mb (gR 7 9 l0) fun fresh5 =>
  mb (gR 7 9 l0) fun fresh6 =>
  mb (aI fresh6 0) fun x7 =>
  mb (m_X8_parts fresh5 ((x7 - 1))) fun c8 =>
  if c8 ≤ 0 then
  rZ 0
  else
  m_X8_isWhole_J33 
def m_X8_readItem_J174 (l0 : Nat) (l1 : Int32)  : Mo Int32 :=
  mb (vc 7 l0 (m_X8_readPart l0 l1)) fun c14 =>
  if c14 = 0 then
  rZ 0
  else
  rZ 1
def m_X8_readItem_J116 (l0 : Nat) (s0 : Int32)  : Mo Int32 :=
  if s0 = ((-9)) then
  rZ 0
  else
  mb (gR 7 9 l0) fun fresh5 =>
  mb (aI fresh5 0) fun x6 =>
  mb (gR 7 8 l0) fun now7 =>
  mb (aI now7 0) fun x8 =>
  if x6 = x8 then
  rZ 0
  else
  mb (gR 7 9 l0) fun fresh9 =>
  mb (aI fresh9 0) fun x10 =>
  mb (mp ((x10 - 1))) fun v11 =>
  mb (gR 7 9 l0) fun fresh12 =>
  mb (m_X8_parts fresh12 v11) fun c13 =>
  if 4 ≤ c13 then
  rZ 0
  else
  if s0 = 2 then
  mb (vc 7 l0 (m_X8_hasNear l0 v11)) fun c15 =>
  if c15 = 0 then
  m_X8_readItem_J174 l0 s0
  else
  rZ 0
  else
  m_X8_readItem_J174 l0 s0
def m_X8_readItem_B31 (l0 : Nat)  (k31 : Int32 → Mo Int32) (l1 : Int32) : Mo Int32 :=
  if 17 ≤ l1 then
  mb (gR 7 9 l0) fun fresh19 =>
  mb (aI fresh19 0) fun x20 =>
  mb (tI fresh19 0 ((x20 + 1))) fun _ =>
  rZ 1
  else
  mb (gR 7 9 l0) fun fresh21 =>
  mb (gR 7 9 l0) fun fresh22 =>
  mb (aI fresh22 0) fun x23 =>
  mb (tI fresh21 ((((42 + ((17 * x23)))) + l1)) 0) fun _ =>
  k31 ((l1 + 1))
def m_X8_readItem (l0 : Nat) : Mo Int32 :=
  mb (vc 7 l0 (m_X8_isName l0 113)) fun c1 =>
  if c1 = 0 then
  mb (vc 7 l0 (m_X8_isName l0 104)) fun c2 =>
  if c2 = 0 then
  mb (vc 7 l0 (m_X8_isName l0 110)) fun c3 =>
  if c3 = 0 then
  mb (vc 7 l0 (m_X8_isName l0 112)) fun c4 =>
  if c4 = 0 then
  m_X8_readItem_J116 l0 ((-9))
  else
  m_X8_readItem_J116 l0 2
  else
  m_X8_readItem_J116 l0 1
  else
  m_X8_readItem_J116 l0 0
  else
  mb (vc 7 l0 (m_X8_isWhole l0 )) fun c16 =>
  if c16 = 0 then
  rZ 0
  else
  mb (gR 7 9 l0) fun fresh17 =>
  mb (aI fresh17 0) fun x18 =>
  if x18 = 8 then
  rZ 0
  else
  lp (fun k s => m_X8_readItem_B31 l0 k s) FU 0
def m_X8_keepAct_B52 (l0 : Nat)  (k52 : Int32 → Mo Unit) (l1 : Int32) : Mo Unit :=
  if 178 ≤ l1 then
  mb (gI 7 11 l0) fun acts2 =>
  mb (sI 7 11 l0 ((acts2 + 1))) fun _ =>
  mp ()
  else
  mb (gR 7 10 l0) fun was3 =>
  mb (gI 7 11 l0) fun acts4 =>
  mb (gR 7 8 l0) fun now5 =>
  mb (aI now5 l1) fun x6 =>
  mb (tI was3 ((((178 * acts4)) + l1)) x6) fun _ =>
  k52 ((l1 + 1))
def m_X8_keepAct_J50 (l0 : Nat)  : Mo Unit :=
  lp (fun k s => m_X8_keepAct_B52 l0 k s) FU 0
def m_X8_keepAct_B11 (l0 : Nat)  (k11 : Int32 → Mo Unit) (l1 : Int32) : Mo Unit :=
  if 1602 ≤ l1 then
  mb (gI 7 11 l0) fun acts7 =>
  mb (sI 7 11 l0 ((acts7 - 1))) fun _ =>
  m_X8_keepAct_J50 l0
  else
  mb (gR 7 10 l0) fun was8 =>
  mb (gR 7 10 l0) fun was9 =>
  mb (aI was9 ((l1 + 178))) fun x10 =>
  mb (tI was8 l1 x10) fun _ =>
  k11 ((l1 + 1))
def m_X8_keepAct (l0 : Nat) : Mo Unit :=
  mb (gI 7 11 l0) fun acts1 =>
  if acts1 = 10 then
  lp (fun k s => m_X8_keepAct_B11 l0 k s) FU 0
  else
  m_X8_keepAct_J50 l0
def m_X8_adds_J67 (l0 : Nat) (l1 : Int32) (k33 : Unit → Mo Int32) : Mo Int32 :=
  if l1 = 0 then
  mb (gI 7 4 l0) fun start15 =>
  mb (vc 7 l0 (m_X8_make l0 )) fun _ =>
  mp ((((-10)) - start15))
  else
  mb (vc 7 l0 (m_X8_step l0 )) fun _ =>
  k33 ()
def m_X8_adds_J66 (l0 : Nat) (s0 : Int32) (k33 : Unit → Mo Int32) : Mo Int32 :=
  m_X8_adds_J67 l0 s0 k33
def m_X8_adds_B33 (l0 : Nat)  (k33 : Unit → Mo Int32)  : Mo Int32 :=
  mb (gI 7 5 l0) fun token4 =>
  if token4 = 0 then
  mb (vc 7 l0 (m_X8_isWhole l0 )) fun c5 =>
  if c5 = 0 then
  mb (vc 7 l0 (m_X8_make l0 )) fun _ =>
  mb (gI 7 2 l0) fun typed13 =>
  mp ((((-10)) - typed13))
  else
  mb (sI 7 2 l0 0) fun _ =>
  mb (vc 7 l0 (m_X8_keepAct l0 )) fun _ =>
  mb (gR 7 9 l0) fun fresh6 =>
  mb (aI fresh6 0) fun x7 =>
  mb (gR 7 8 l0) fun now8 =>
  mb (aI now8 0) fun x9 =>
  mb (mp ((x7 - x9))) fun v10 =>
  mb (gR 7 9 l0) fun fresh11 =>
  mb (gR 7 8 l0) fun now12 =>
  mb (m_X8_copyAll fresh11 now12) fun _ =>
  mb (vc 7 l0 (m_X8_make l0 )) fun _ =>
  mp v10
  else
  mb (vc 7 l0 (m_X8_readItem l0 )) fun c14 =>
  if c14 = 0 then
  m_X8_adds_J67 l0 c14 k33
  else
  mb (vc 7 l0 (m_X8_step l0 )) fun _ =>
  mb (gI 7 5 l0) fun token16 =>
  if token16 = 3 then
  m_X8_adds_J66 l0 1 k33
  else
  m_X8_adds_J66 l0 0 k33
def m_X8_adds (l0 : Nat) : Mo Int32 :=
  mb (sI 7 0 l0 0) fun _ =>
  mb (sI 7 3 l0 0) fun _ =>
  mb (gR 7 8 l0) fun now1 =>
  mb (gR 7 9 l0) fun fresh2 =>
  mb (m_X8_copyAll now1 fresh2) fun _ =>
  mb (gR 7 8 l0) fun now3 =>
  mb (vc 7 l0 (m_X8_layWords l0 now3)) fun _ =>
  mb (vc 7 l0 (m_X8_step l0 )) fun _ =>
  lp (fun k s => m_X8_adds_B33 l0 k ) FU ()
def m_X8_isQuery (l0 : Nat) (l1 : Int32) : Mo Int32 :=
  mb (gR 7 8 l0) fun now1 =>
  mb (aI now1 0) fun x2 =>
  mb (m_X8_in (((l1 : Int32).toInt64)) 0 ((((x2 - 1) : Int32).toInt64))) fun c3 =>
  rZ c3
def m_X8_drops_B76 (l0 : Nat)  (k76 : Int32 → Mo Int32) (l2 : Int32) : Mo Int32 :=
  if 17 ≤ l2 then
  mb (vc 7 l0 (m_X8_make l0 )) fun _ =>
  mb (gR 7 8 l0) fun now7 =>
  mb (aI now7 0) fun x8 =>
  mp x8
  else
  mb (gR 7 8 l0) fun now9 =>
  mb (gR 7 8 l0) fun now10 =>
  mb (aI now10 0) fun x11 =>
  mb (tI now9 ((((42 + ((17 * x11)))) + l2)) 0) fun _ =>
  k76 ((l2 + 1))
def m_X8_drops_B37 (l0 : Nat)  (k37 : Int32 → Mo Int32) (l2 : Int32) : Mo Int32 :=
  mb (gR 7 8 l0) fun now5 =>
  mb (aI now5 0) fun x6 =>
  if ((42 + ((17 * x6)))) ≤ l2 then
  lp (fun k s => m_X8_drops_B76 l0 k s) FU 0
  else
  mb (gR 7 8 l0) fun now12 =>
  mb (gR 7 8 l0) fun now13 =>
  mb (aI now13 ((l2 + 17))) fun x14 =>
  mb (tI now12 l2 x14) fun _ =>
  k37 ((l2 + 1))
def m_X8_drops (l0 : Nat) (l1 : Int32) : Mo Int32 :=
  mb (sI 7 0 l0 0) fun _ =>
  mb (vc 7 l0 (m_X8_isQuery l0 l1)) fun c1 =>
  if c1 = 0 then
  mp ((-1))
  else
  mb (vc 7 l0 (m_X8_keepAct l0 )) fun _ =>
  mb (gR 7 8 l0) fun now2 =>
  mb (aI now2 0) fun x3 =>
  mb (tI now2 0 ((x3 - 1))) fun _ =>
  mb (mp ((42 + ((17 * l1))))) fun v4 =>
  lp (fun k s => m_X8_drops_B37 l0 k s) FU v4
def m_X8_nodeAt_B4 (l0 : Nat) (l1 : Int32)  (k4 : Int32 × Int32 → Mo Int32) (l2 : Int32) (l3 : Int32) : Mo Int32 :=
  if l1 ≤ l3 then
  mp l2
  else
  mb (gR 7 20 l0) fun nexts1 =>
  mb (gR 7 8 l0) fun now2 =>
  mb (aI now2 ((2 + l3))) fun x3 =>
  mb (aI nexts1 ((((8 * l2)) + x3))) fun x4 =>
  k4 (x4, (l3 + 1))
def m_X8_nodeAt (l0 : Nat) (l1 : Int32) : Mo Int32 :=
  lp (fun k s => m_X8_nodeAt_B4 l0 l1 k s.1 s.2) FU (0, 0)
def m_X8_feeds (l0 : Nat) (l1 : Int32) : Mo Int32 :=
  mb (sI 7 0 l0 0) fun _ =>
  mb (m_X8_in (((l1 : Int32).toInt64)) 97 104) fun c1 =>
  if c1 = 0 then
  mp ((-1))
  else
  mb (gR 7 8 l0) fun now2 =>
  mb (aI now2 1) fun x3 =>
  if x3 = 40 then
  mp ((-3))
  else
  mb (vc 7 l0 (m_X8_keepAct l0 )) fun _ =>
  mb (gR 7 8 l0) fun now4 =>
  mb (gR 7 8 l0) fun now5 =>
  mb (aI now5 1) fun x6 =>
  mb (tI now4 ((2 + x6)) ((l1 - 97))) fun _ =>
  mb (gR 7 8 l0) fun now7 =>
  mb (aI now7 1) fun x8 =>
  mb (tI now7 1 ((x8 + 1))) fun _ =>
  mb (gR 7 8 l0) fun now9 =>
  mb (aI now9 1) fun x10 =>
  mb (vc 7 l0 (m_X8_nodeAt l0 x10)) fun c11 =>
  mp c11
def m_X8_cuts (l0 : Nat) : Mo Int32 :=
  mb (sI 7 0 l0 0) fun _ =>
  mb (gR 7 8 l0) fun now1 =>
  mb (aI now1 1) fun x2 =>
  if x2 = 0 then
  mp ((-2))
  else
  mb (vc 7 l0 (m_X8_keepAct l0 )) fun _ =>
  mb (gR 7 8 l0) fun now3 =>
  mb (aI now3 1) fun x4 =>
  mb (tI now3 1 ((x4 - 1))) fun _ =>
  mb (gR 7 8 l0) fun now5 =>
  mb (gR 7 8 l0) fun now6 =>
  mb (aI now6 1) fun x7 =>
  mb (aI now5 ((2 + x7))) fun x8 =>
  mb (gR 7 8 l0) fun now9 =>
  mb (gR 7 8 l0) fun now10 =>
  mb (aI now10 1) fun x11 =>
  mb (tI now9 ((2 + x11)) 0) fun _ =>
  mp ((97 + x8))
def m_X8_undo_B27 (l0 : Nat)  (k27 : Int32 → Mo Int32) (l1 : Int32) : Mo Int32 :=
  if 178 ≤ l1 then
  mb (vc 7 l0 (m_X8_make l0 )) fun _ =>
  mb (gI 7 11 l0) fun acts3 =>
  mp acts3
  else
  mb (gR 7 8 l0) fun now4 =>
  mb (gR 7 10 l0) fun was5 =>
  mb (gI 7 11 l0) fun acts6 =>
  mb (aI was5 ((((178 * acts6)) + l1))) fun x7 =>
  mb (tI now4 l1 x7) fun _ =>
  k27 ((l1 + 1))
def m_X8_undo (l0 : Nat) : Mo Int32 :=
  mb (sI 7 0 l0 0) fun _ =>
  mb (gI 7 11 l0) fun acts1 =>
  if acts1 = 0 then
  mp ((-2))
  else
  mb (gI 7 11 l0) fun acts2 =>
  mb (sI 7 11 l0 ((acts2 - 1))) fun _ =>
  lp (fun k s => m_X8_undo_B27 l0 k s) FU 0
def m_X8_has (l0 : Int32) (l1 : Int32) : Mo Int32 :=
  if ((((l0 >>> (l1 &&& 31))) &&& 1)) = 1 then
  rZ 1
  else
  rZ 0
def m_X8_layEnds_B4 (l0 : Nat)  (k4 : Int32 × Int32 → Mo Unit) (l1 : Int32) (l2 : Int32) : Mo Unit :=
  mb (gR 7 8 l0) fun now1 =>
  mb (aI now1 1) fun x2 =>
  if x2 ≤ l2 then
  mp ()
  else
  mb (gR 7 20 l0) fun nexts3 =>
  mb (gR 7 8 l0) fun now4 =>
  mb (aI now4 ((2 + l2))) fun x5 =>
  mb (aI nexts3 ((((8 * l1)) + x5))) fun x6 =>
  mb (gR 7 21 l0) fun ended7 =>
  mb (gR 7 19 l0) fun ends8 =>
  mb (aI ends8 x6) fun x9 =>
  mb (tI ended7 l2 x9) fun _ =>
  k4 (x6, (l2 + 1))
def m_X8_layEnds (l0 : Nat) : Mo Unit :=
  lp (fun k s => m_X8_layEnds_B4 l0 k s.1 s.2) FU (0, 0)
def m_X8_hits_J31 (l0 : Nat) (l1 : Int32) (l2 : Int32) (l4 : Int32) (s0 : Int32) (s1 : Int32) (k5 : Int32 × Int32 → Mo Int32) : Mo Int32 :=
  mb (mp ((s1 + s0))) fun v4 =>
  k5 (v4, (l4 + 1))
def m_X8_hits_B5 (l0 : Nat) (l1 : Int32) (l2 : Int32)  (k5 : Int32 × Int32 → Mo Int32) (l3 : Int32) (l4 : Int32) : Mo Int32 :=
  if l2 ≤ l4 then
  mp l3
  else
  mb (gR 7 21 l0) fun ended1 =>
  mb (aI ended1 l4) fun x2 =>
  mb (m_X8_has x2 l1) fun c3 =>
  if c3 = 0 then
  m_X8_hits_J31 l0 l1 l2 l4 0 l3 k5
  else
  m_X8_hits_J31 l0 l1 l2 l4 1 l3 k5
def m_X8_hits (l0 : Nat) (l1 : Int32) (l2 : Int32) : Mo Int32 :=
  lp (fun k s => m_X8_hits_B5 l0 l1 l2 k s.1 s.2) FU (0, 0)
def m_X8_holds_J172 (l0 : Nat) (l1 : Int32) (l2 : Int32) (l3 : Int32) (l4 : Int32) (l6 : Int32) (l7 : Int32) (l8 : Int32) (k90 : Int32 × Int32 → Mo Int32) : Mo Int32 :=
  k90 (l7, (l8 + 1))
def m_X8_holds_J164 (l0 : Nat) (l1 : Int32) (l2 : Int32) (l3 : Int32) (l4 : Int32) (l6 : Int32) (l8 : Int32) (l9 : Int32) (s0 : Int32) (k90 : Int32 × Int32 → Mo Int32) (k99 : Int32 × Int32 → Mo Int32) : Mo Int32 :=
  k99 (s0, (l9 + 1))
def m_X8_holds_J159 (l0 : Nat) (l1 : Int32) (l2 : Int32) (l3 : Int32) (l4 : Int32) (l6 : Int32) (l8 : Int32) (l9 : Int32) (k90 : Int32 × Int32 → Mo Int32) (k99 : Int32 × Int32 → Mo Int32) : Mo Int32 :=
  m_X8_holds_J164 l0 l1 l2 l3 l4 l6 l8 l9 1 k90 k99
def m_X8_holds_B99 (l0 : Nat) (l1 : Int32) (l2 : Int32) (l3 : Int32) (l4 : Int32) (l6 : Int32) (l8 : Int32) (k90 : Int32 × Int32 → Mo Int32) (k99 : Int32 × Int32 → Mo Int32) (l7 : Int32) (l9 : Int32) : Mo Int32 :=
  mb (gR 7 8 l0) fun now9 =>
  mb (m_X8_of now9 l1 l2 3) fun c10 =>
  if c10 < l9 then
  m_X8_holds_J172 l0 l1 l2 l3 l4 l6 l7 l8 k90
  else
  if l8 < l9 then
  m_X8_holds_J172 l0 l1 l2 l3 l4 l6 l7 l8 k90
  else
  mb (gR 7 21 l0) fun ended11 =>
  mb (aI ended11 l8) fun x12 =>
  mb (m_X8_has x12 l4) fun c13 =>
  if c13 = 0 then
  m_X8_holds_J172 l0 l1 l2 l3 l4 l6 l7 l8 k90
  else
  if l7 = 0 then
  mb (gR 7 21 l0) fun ended14 =>
  mb (aI ended14 ((l8 - l9))) fun x15 =>
  mb (m_X8_has x15 l6) fun c16 =>
  if c16 = 0 then
  m_X8_holds_J164 l0 l1 l2 l3 l4 l6 l8 l9 0 k90 k99
  else
  m_X8_holds_J159 l0 l1 l2 l3 l4 l6 l8 l9 k90 k99
  else
  m_X8_holds_J159 l0 l1 l2 l3 l4 l6 l8 l9 k90 k99
def m_X8_holds_B90 (l0 : Nat) (l1 : Int32) (l2 : Int32) (l3 : Int32) (l4 : Int32) (l6 : Int32)  (k90 : Int32 × Int32 → Mo Int32) (l7 : Int32) (l8 : Int32) : Mo Int32 :=
  if l3 ≤ l8 then
  rZ l7
  else
  lp (fun k s => m_X8_holds_B99 l0 l1 l2 l3 l4 l6 l8 k90 k s.1 s.2) FU (l7, 1)
def m_X8_holds_J59 (s0 : Int32) (s1 : Int32)  : Mo Int32 :=
  if s1 = s0 then
  rZ 1
  else
  rZ 0
def m_X8_holds_J44 (l0 : Nat) (l3 : Int32) (l4 : Int32) (s0 : Int32)  : Mo Int32 :=
  mb (vc 7 l0 (m_X8_hits l0 l4 l3)) fun c17 =>
  if c17 ≤ 0 then
  m_X8_holds_J59 0 s0
  else
  m_X8_holds_J59 1 s0
def m_X8_holds (l0 : Nat) (l1 : Int32) (l2 : Int32) (l3 : Int32) : Mo Int32 :=
  mb (gR 7 8 l0) fun now1 =>
  mb (m_X8_of now1 l1 l2 1) fun c2 =>
  mb (vc 7 l0 (m_X8_numberOf l0 c2)) fun c3 =>
  mb (gR 7 8 l0) fun now4 =>
  mb (m_X8_of now4 l1 l2 0) fun c5 =>
  if c5 = 2 then
  mb (gR 7 8 l0) fun now6 =>
  mb (m_X8_of now6 l1 l2 2) fun c7 =>
  mb (vc 7 l0 (m_X8_numberOf l0 c7)) fun c8 =>
  lp (fun k s => m_X8_holds_B90 l0 l1 l2 l3 c3 c8 k s.1 s.2) FU (0, 0)
  else
  if c5 = 0 then
  m_X8_holds_J44 l0 l3 c3 1
  else
  m_X8_holds_J44 l0 l3 c3 0
def m_X8_matches_J38 (l0 : Nat) (l1 : Int32) (l2 : Int32) (l4 : Int32) (s0 : Int32) (k5 : Int32 × Int32 → Mo Int32) : Mo Int32 :=
  k5 (s0, (l4 + 1))
def m_X8_matches_J37 (l0 : Nat) (l1 : Int32) (l2 : Int32) (l4 : Int32) (k5 : Int32 × Int32 → Mo Int32) : Mo Int32 :=
  m_X8_matches_J38 l0 l1 l2 l4 0 k5
def m_X8_matches_B5 (l0 : Nat) (l1 : Int32) (l2 : Int32)  (k5 : Int32 × Int32 → Mo Int32) (l3 : Int32) (l4 : Int32) : Mo Int32 :=
  mb (gR 7 8 l0) fun now1 =>
  mb (m_X8_parts now1 l1) fun c2 =>
  if c2 ≤ l4 then
  rZ l3
  else
  if l3 = 0 then
  m_X8_matches_J37 l0 l1 l2 l4 k5
  else
  mb (vc 7 l0 (m_X8_holds l0 l1 l4 l2)) fun c3 =>
  if c3 = 0 then
  m_X8_matches_J37 l0 l1 l2 l4 k5
  else
  m_X8_matches_J38 l0 l1 l2 l4 1 k5
def m_X8_matches (l0 : Nat) (l1 : Int32) (l2 : Int32) : Mo Int32 :=
  lp (fun k s => m_X8_matches_B5 l0 l1 l2 k s.1 s.2) FU (1, 0)
def m_X8_since_B19 (l0 : Nat) (l1 : Int32)  (k19 : Int32 → Mo Int32) (l2 : Int32) : Mo Int32 :=
  if l2 ≤ 0 then
  mp l2
  else
  mb (vc 7 l0 (m_X8_matches l0 l1 ((l2 - 1)))) fun c4 =>
  if c4 = 0 then
  mp l2
  else
  k19 ((l2 + (-1)))
def m_X8_since (l0 : Nat) (l1 : Int32) : Mo Int32 :=
  mb (gR 7 8 l0) fun now1 =>
  mb (aI now1 1) fun x2 =>
  mb (vc 7 l0 (m_X8_matches l0 l1 x2)) fun c3 =>
  if c3 = 0 then
  mp ((-9))
  else
  lp (fun k s => m_X8_since_B19 l0 l1 k s) FU x2
def m_X8_key_J101 (l0 : Nat) (l1 : Int32) (l2 : Int32) (l3 : Int32) (k5 : Int32 × Int32 → Mo Int32) : Mo Int32 :=
  k5 (l2, (l3 + 1))
def m_X8_key_J100 (l0 : Nat) (l1 : Int32) (l3 : Int32) (s0 : Int32) (k5 : Int32 × Int32 → Mo Int32) : Mo Int32 :=
  m_X8_key_J101 l0 l1 s0 l3 k5
def m_X8_key_J94 (l0 : Nat) (l1 : Int32) (l3 : Int32) (l4 : Int32) (k5 : Int32 × Int32 → Mo Int32) : Mo Int32 :=
  m_X8_key_J100 l0 l1 l3 l4 k5
def m_X8_key_J99 (l0 : Nat) (l1 : Int32) (l2 : Int32) (l3 : Int32) (k5 : Int32 × Int32 → Mo Int32) : Mo Int32 :=
  m_X8_key_J100 l0 l1 l3 l2 k5
def m_X8_key_J76 (l0 : Nat) (l1 : Int32) (l2 : Int32) (l3 : Int32) (l4 : Int32) (s0 : Int32) (k5 : Int32 × Int32 → Mo Int32) : Mo Int32 :=
  if 0 < s0 then
  m_X8_key_J94 l0 l1 l3 l4 k5
  else
  if s0 = 0 then
  if l2 ≤ l4 then
  m_X8_key_J99 l0 l1 l2 l3 k5
  else
  m_X8_key_J94 l0 l1 l3 l4 k5
  else
  m_X8_key_J99 l0 l1 l2 l3 k5
def m_X8_key_B5 (l0 : Nat) (l1 : Int32)  (k5 : Int32 × Int32 → Mo Int32) (l2 : Int32) (l3 : Int32) : Mo Int32 :=
  mb (gR 7 8 l0) fun now1 =>
  mb (m_X8_parts now1 l1) fun c2 =>
  if c2 ≤ l3 then
  mp l2
  else
  mb (gR 7 8 l0) fun now3 =>
  mb (m_X8_of now3 l1 l3 0) fun c4 =>
  if c4 = 0 then
  mb (gR 7 8 l0) fun now5 =>
  mb (m_X8_of now5 l1 l3 1) fun c6 =>
  mb (vc 7 l0 (m_X8_numberOf l0 c6)) fun c7 =>
  if l2 = ((-9)) then
  m_X8_key_J76 l0 l1 l2 l3 c7 1 k5
  else
  mb (gR 7 14 l0) fun words8 =>
  mb (aI words8 c7) fun x9 =>
  mb (gR 7 14 l0) fun words10 =>
  mb (aI words10 l2) fun x11 =>
  m_X8_key_J76 l0 l1 l2 l3 c7 ((((x9 / 1048576)) - ((x11 / 1048576)))) k5
  else
  m_X8_key_J101 l0 l1 l2 l3 k5
def m_X8_key (l0 : Nat) (l1 : Int32) : Mo Int32 :=
  lp (fun k s => m_X8_key_B5 l0 l1 k s.1 s.2) FU ((-9), 0)
def m_X8_isAsked_J26   : Mo Int32 :=
  rZ 1
def m_X8_isAsked (l0 : Nat) (l1 : Int32) : Mo Int32 :=
  mb (vc 7 l0 (m_X8_key l0 l1)) fun c1 =>
  if c1 = ((-9)) then
  m_X8_isAsked_J26 
  else
  mb (gR 7 8 l0) fun now2 =>
  mb (aI now2 1) fun x3 =>
  mb (vc 7 l0 (m_X8_hits l0 c1 x3)) fun c4 =>
  if c4 ≤ 0 then
  rZ 0
  else
  m_X8_isAsked_J26 
def m_X8_query (l0 : Nat) (l1 : Int32) (l2 : Int32) : Mo Int32 :=
  mb (sI 7 0 l0 0) fun _ =>
  mb (vc 7 l0 (m_X8_isQuery l0 l1)) fun c1 =>
  if c1 = 0 then
  mp ((-1))
  else
  mb (vc 7 l0 (m_X8_layEnds l0 )) fun _ =>
  if l2 = 0 then
  mb (gR 7 8 l0) fun now2 =>
  mb (m_X8_parts now2 l1) fun c3 =>
  mp c3
  else if l2 = 1 then
  mb (gR 7 8 l0) fun now4 =>
  mb (aI now4 1) fun x5 =>
  mb (vc 7 l0 (m_X8_matches l0 l1 x5)) fun c6 =>
  if c6 = 0 then
  mp 0
  else
  mp 1
  else if l2 = 2 then
  mb (vc 7 l0 (m_X8_since l0 l1)) fun c7 =>
  mp c7
  else if l2 = 3 then
  mb (vc 7 l0 (m_X8_key l0 l1)) fun c8 =>
  mp c8
  else if l2 = 4 then
  mb (vc 7 l0 (m_X8_isAsked l0 l1)) fun c9 =>
  if c9 = 0 then
  mp 0
  else
  mp 1
  else 
  mp ((-1))
def m_X8_part_J54 (l0 : Nat) (l1 : Int32) (l2 : Int32) (l3 : Int32) (s0 : Int32)  : Mo Int32 :=
  mb (vc 7 l0 (m_X8_layEnds l0 )) fun _ =>
  if l3 = 0 then
  mb (gR 7 8 l0) fun now7 =>
  mb (m_X8_of now7 l1 l2 0) fun c8 =>
  mp c8
  else if l3 = 1 then
  mb (gR 7 8 l0) fun now9 =>
  mb (m_X8_of now9 l1 l2 1) fun c10 =>
  mb (vc 7 l0 (m_X8_numberOf l0 c10)) fun c11 =>
  mp c11
  else if l3 = 2 then
  if s0 = 0 then
  mp ((-9))
  else
  mb (gR 7 8 l0) fun now12 =>
  mb (m_X8_of now12 l1 l2 2) fun c13 =>
  mb (vc 7 l0 (m_X8_numberOf l0 c13)) fun c14 =>
  mp c14
  else if l3 = 3 then
  if s0 = 0 then
  mp ((-9))
  else
  mb (gR 7 8 l0) fun now15 =>
  mb (m_X8_of now15 l1 l2 3) fun c16 =>
  mp c16
  else if l3 = 4 then
  mb (gR 7 8 l0) fun now17 =>
  mb (aI now17 1) fun x18 =>
  mb (vc 7 l0 (m_X8_holds l0 l1 l2 x18)) fun c19 =>
  if c19 = 0 then
  mp 0
  else
  mp 1
  else 
  mp ((-1))
def m_X8_part (l0 : Nat) (l1 : Int32) (l2 : Int32) (l3 : Int32) : Mo Int32 :=
  mb (sI 7 0 l0 0) fun _ =>
  mb (vc 7 l0 (m_X8_isQuery l0 l1)) fun c1 =>
  if c1 = 0 then
  mp ((-1))
  else
  mb (gR 7 8 l0) fun now2 =>
  mb (m_X8_parts now2 l1) fun c3 =>
  mb (m_X8_in (((l2 : Int32).toInt64)) 0 ((((c3 - 1) : Int32).toInt64))) fun c4 =>
  if c4 = 0 then
  mp ((-1))
  else
  mb (gR 7 8 l0) fun now5 =>
  mb (m_X8_of now5 l1 l2 0) fun c6 =>
  if c6 = 2 then
  m_X8_part_J54 l0 l1 l2 l3 1
  else
  m_X8_part_J54 l0 l1 l2 l3 0
def m_X8_takes_J149 (l0 : Nat) (l1 : Int32) (l2 : Int32) (k18 : Int32 → Mo Unit) : Mo Unit :=
  k18 ((l2 + 1))
def m_X8_takes_J97 (l0 : Nat) (l1 : Int32) (l2 : Int32) (l3 : Int32) (l4 : Int32) (s0 : Int32) (s1 : Int32) (s2 : Nat) (k18 : Int32 → Mo Unit) : Mo Unit :=
  mb (sI 7 23 s2 ((s1 ||| s0))) fun _ =>
  if l4 = 2 then
  mb (sI 7 24 l0 l2) fun _ =>
  mb (sI 7 25 l0 l3) fun _ =>
  mb (gR 7 8 l0) fun now10 =>
  mb (m_X8_of now10 l1 l2 2) fun c11 =>
  mb (vc 7 l0 (m_X8_numberOf l0 c11)) fun c12 =>
  mb (sI 7 26 l0 c12) fun _ =>
  mb (gR 7 8 l0) fun now13 =>
  mb (m_X8_of now13 l1 l2 3) fun c14 =>
  mb (sI 7 27 l0 c14) fun _ =>
  m_X8_takes_J149 l0 l1 l2 k18
  else
  m_X8_takes_J149 l0 l1 l2 k18
def m_X8_takes_J75 (l0 : Nat) (l1 : Int32) (l2 : Int32) (l3 : Int32) (l4 : Int32) (s0 : Int32) (s1 : Int32) (s2 : Nat) (k18 : Int32 → Mo Unit) : Mo Unit :=
  mb (sI 7 22 s2 ((s1 ||| s0))) fun _ =>
  mb (gI 7 23 l0) fun due9 =>
  if l4 = 1 then
  m_X8_takes_J97 l0 l1 l2 l3 l4 0 due9 l0 k18
  else
  m_X8_takes_J97 l0 l1 l2 l3 l4 (((1 : Int32) <<< (l2 &&& 31))) due9 l0 k18
def m_X8_takes_B18 (l0 : Nat) (l1 : Int32)  (k18 : Int32 → Mo Unit) (l2 : Int32) : Mo Unit :=
  mb (gR 7 8 l0) fun now1 =>
  mb (m_X8_parts now1 l1) fun c2 =>
  if c2 ≤ l2 then
  mp ()
  else
  mb (gR 7 8 l0) fun now3 =>
  mb (m_X8_of now3 l1 l2 1) fun c4 =>
  mb (vc 7 l0 (m_X8_numberOf l0 c4)) fun c5 =>
  mb (gR 7 8 l0) fun now6 =>
  mb (m_X8_of now6 l1 l2 0) fun c7 =>
  mb (gI 7 22 l0) fun lacks8 =>
  if c7 = 1 then
  m_X8_takes_J75 l0 l1 l2 c5 c7 (((1 : Int32) <<< (c5 &&& 31))) lacks8 l0 k18
  else
  m_X8_takes_J75 l0 l1 l2 c5 c7 0 lacks8 l0 k18
def m_X8_takes (l0 : Nat) (l1 : Int32) : Mo Unit :=
  mb (sI 7 22 l0 0) fun _ =>
  mb (sI 7 23 l0 0) fun _ =>
  mb (sI 7 24 l0 ((-9))) fun _ =>
  lp (fun k s => m_X8_takes_B18 l0 l1 k s) FU 0
def m_X8_stateOf (l0 : Int32) (l1 : Int32) (l2 : Int32) : Mo Int32 :=
  mp ((((((((l0 * 16)) + l1)) * 10)) + l2))
def m_X8_begins (l0 : Nat) : Mo Int32 :=
  mb (m_X8_stateOf 0 0 9) fun c1 =>
  mp c1
def m_X8_isDone (l0 : Nat) (l1 : Int32) : Mo Int32 :=
  if l1 < 0 then
  rZ 0
  else
  mb (gI 7 23 l0) fun due1 =>
  if ((((l1 / 10)) &&& 15)) = due1 then
  rZ 1
  else
  rZ 0
def m_X8_behind_J285 (l4 : Int32) (l5 : Int32) (s0 : Int32)  : Mo Int32 :=
  mb (m_X8_stateOf l4 l5 s0) fun c19 =>
  mp c19
def m_X8_behind_J283 (l4 : Int32) (l5 : Int32)  : Mo Int32 :=
  m_X8_behind_J285 l4 l5 9
def m_X8_behind_J217 (l0 : Nat) (l2 : Int32) (l4 : Int32) (l5 : Int32) (l6 : Int32)  : Mo Int32 :=
  mb (gI 7 24 l0) fun nearPart12 =>
  mb (m_X8_has l5 nearPart12) fun c13 =>
  if c13 = 0 then
  mb (gR 7 19 l0) fun ends14 =>
  mb (aI ends14 l4) fun x15 =>
  mb (gI 7 26 l0) fun nearOther16 =>
  mb (m_X8_has x15 nearOther16) fun c17 =>
  if c17 = 0 then
  mb (gI 7 27 l0) fun nearBy18 =>
  if nearBy18 ≤ l6 then
  m_X8_behind_J283 l4 l5
  else
  if ((l2 - l2 / 10 * 10)) = 9 then
  m_X8_behind_J283 l4 l5
  else
  m_X8_behind_J285 l4 l5 l6
  else
  m_X8_behind_J285 l4 l5 0
  else
  mb (m_X8_stateOf l4 l5 9) fun c20 =>
  mp c20
def m_X8_behind_J162 (l0 : Nat) (l2 : Int32) (l4 : Int32) (l5 : Int32) (s0 : Int32)  : Mo Int32 :=
  mb (gI 7 27 l0) fun nearBy11 =>
  if nearBy11 < s0 then
  m_X8_behind_J217 l0 l2 l4 l5 s0
  else
  if 9 < s0 then
  m_X8_behind_J217 l0 l2 l4 l5 s0
  else
  if ((l2 - l2 / 10 * 10)) = 9 then
  m_X8_behind_J217 l0 l2 l4 l5 s0
  else
  mb (gR 7 19 l0) fun ends21 =>
  mb (aI ends21 l4) fun x22 =>
  mb (gI 7 25 l0) fun nearWord23 =>
  mb (m_X8_has x22 nearWord23) fun c24 =>
  if c24 = 0 then
  m_X8_behind_J217 l0 l2 l4 l5 s0
  else
  mb (gI 7 24 l0) fun nearPart25 =>
  mb (mp ((l5 ||| (((1 : Int32) <<< (nearPart25 &&& 31)))))) fun v26 =>
  m_X8_behind_J217 l0 l2 l4 v26 s0
def m_X8_behind_J118 (l0 : Nat) (l1 : Int32) (l2 : Int32) (l4 : Int32) (l6 : Int32) (l7 : Int32) (s0 : Int32) (s1 : Int32) (k53 : Int32 × Int32 → Mo Int32) : Mo Int32 :=
  mb (mp ((s1 ||| s0))) fun v30 =>
  k53 (v30, (l7 + 1))
def m_X8_behind_J117 (l0 : Nat) (l1 : Int32) (l2 : Int32) (l4 : Int32) (l6 : Int32) (l7 : Int32) (s0 : Int32) (k53 : Int32 × Int32 → Mo Int32) : Mo Int32 :=
  m_X8_behind_J118 l0 l1 l2 l4 l6 l7 0 s0 k53
def m_X8_behind_B53 (l0 : Nat) (l1 : Int32) (l2 : Int32) (l4 : Int32) (l6 : Int32)  (k53 : Int32 × Int32 → Mo Int32) (l5 : Int32) (l7 : Int32) : Mo Int32 :=
  mb (gR 7 8 l0) fun now8 =>
  mb (m_X8_parts now8 l1) fun c9 =>
  if c9 ≤ l7 then
  mb (gI 7 24 l0) fun nearPart10 =>
  if nearPart10 = ((-9)) then
  mb (m_X8_stateOf l4 l5 9) fun c27 =>
  mp c27
  else
  if 9 ≤ l6 then
  m_X8_behind_J162 l0 l2 l4 l5 9
  else
  m_X8_behind_J162 l0 l2 l4 l5 ((l6 + 1))
  else
  mb (gR 7 8 l0) fun now28 =>
  mb (m_X8_of now28 l1 l7 0) fun c29 =>
  if c29 = 0 then
  mb (gR 7 19 l0) fun ends31 =>
  mb (aI ends31 l4) fun x32 =>
  mb (gR 7 8 l0) fun now33 =>
  mb (m_X8_of now33 l1 l7 1) fun c34 =>
  mb (vc 7 l0 (m_X8_numberOf l0 c34)) fun c35 =>
  mb (m_X8_has x32 c35) fun c36 =>
  if c36 = 0 then
  m_X8_behind_J117 l0 l1 l2 l4 l6 l7 l5 k53
  else
  m_X8_behind_J118 l0 l1 l2 l4 l6 l7 (((1 : Int32) <<< (l7 &&& 31))) l5 k53
  else
  m_X8_behind_J117 l0 l1 l2 l4 l6 l7 l5 k53
def m_X8_behind (l0 : Nat) (l1 : Int32) (l2 : Int32) (l3 : Int32) : Mo Int32 :=
  mb (gR 7 20 l0) fun nexts1 =>
  mb (aI nexts1 ((((8 * ((l2 / 160)))) + l3))) fun x2 =>
  mb (mp ((((l2 / 10)) &&& 15))) fun v3 =>
  mb (mp ((l2 - l2 / 10 * 10))) fun v4 =>
  mb (gR 7 19 l0) fun ends5 =>
  mb (aI ends5 x2) fun x6 =>
  mb (gI 7 22 l0) fun lacks7 =>
  if ((x6 &&& lacks7)) = 0 then
  lp (fun k s => m_X8_behind_B53 l0 l1 l2 x2 v4 k s.1 s.2) FU (v3, 0)
  else
  mp ((-9))
def m_X8_nearest_J189 (l0 : Nat) (l1 : Int32) (l3 : Int32) (l4 : Int32) (l5 : Int32) (l6 : Int32) (l7 : Int32) (k59 : Int32 × Int32 → Mo Int32) (k88 : Int32 × Int32 → Mo Int32) (k109 : Int32 × Int32 → Mo Int32) : Mo Int32 :=
  k109 (l4, (l7 + 1))
def m_X8_nearest_B109 (l0 : Nat) (l1 : Int32) (l3 : Int32) (l5 : Int32) (l6 : Int32) (k59 : Int32 × Int32 → Mo Int32) (k88 : Int32 × Int32 → Mo Int32) (k109 : Int32 × Int32 → Mo Int32) (l4 : Int32) (l7 : Int32) : Mo Int32 :=
  if 8 ≤ l7 then
  k88 (l3, l4)
  else
  mb (vc 7 l0 (m_X8_behind l0 l1 l6 l7)) fun c9 =>
  if c9 = ((-9)) then
  m_X8_nearest_J189 l0 l1 l3 l4 l5 l6 l7 k59 k88 k109
  else
  mb (gR 7 29 l0) fun came10 =>
  mb (aJ came10 c9) fun x11 =>
  if 0 ≤ ((lg_cmp x11 0)) then
  m_X8_nearest_J189 l0 l1 l3 l4 l5 l6 l7 k59 k88 k109
  else
  mb (gR 7 29 l0) fun came12 =>
  mb (tJ came12 c9 ((((10 * (((l6 : Int32).toInt64)))) + (((l7 : Int32).toInt64))))) fun _ =>
  mb (gR 7 28 l0) fun queue13 =>
  mb (tJ queue13 l4 (((c9 : Int32).toInt64))) fun _ =>
  mb (vc 7 l0 (m_X8_isDone l0 c9)) fun c14 =>
  if c14 = 0 then
  m_X8_nearest_J189 l0 l1 l3 ((l4 + 1)) l5 l6 l7 k59 k88 k109
  else
  mp c9
def m_X8_nearest_B88 (l0 : Nat) (l1 : Int32) (l5 : Int32) (k59 : Int32 × Int32 → Mo Int32) (k88 : Int32 × Int32 → Mo Int32) (l3 : Int32) (l4 : Int32) : Mo Int32 :=
  if l5 ≤ l3 then
  k59 (l3, l4)
  else
  mb (gR 7 28 l0) fun queue6 =>
  mb (aJ queue6 l3) fun x7 =>
  mb (mp (((x7 : Int64).toInt32))) fun v8 =>
  lp (fun k s => m_X8_nearest_B109 l0 l1 ((l3 + 1)) l5 v8 k59 k88 k s.1 s.2) FU (l4, 0)
def m_X8_nearest_B59 (l0 : Nat) (l1 : Int32)  (k59 : Int32 × Int32 → Mo Int32) (l3 : Int32) (l4 : Int32) : Mo Int32 :=
  if l4 ≤ l3 then
  mp ((-9))
  else
  mb (gI 7 30 l0) fun depth4 =>
  if 60 ≤ depth4 then
  mp ((-9))
  else
  mb (gI 7 30 l0) fun depth5 =>
  mb (sI 7 30 l0 ((depth5 + 1))) fun _ =>
  lp (fun k s => m_X8_nearest_B88 l0 l1 l4 k59 k s.1 s.2) FU (l3, l4)
def m_X8_nearest_B17 (l0 : Nat) (l1 : Int32) (l2 : Int32)  (k17 : Int32 → Mo Int32) (l3 : Int32) : Mo Int32 :=
  if 15520 ≤ l3 then
  mb (gR 7 28 l0) fun queue2 =>
  mb (tJ queue2 0 (((l2 : Int32).toInt64))) fun _ =>
  mb (gR 7 29 l0) fun came3 =>
  mb (tJ came3 l2 0) fun _ =>
  lp (fun k s => m_X8_nearest_B59 l0 l1 k s.1 s.2) FU (0, 1)
  else
  mb (gR 7 29 l0) fun came15 =>
  mb (tJ came15 l3 ((-9))) fun _ =>
  k17 ((l3 + 1))
def m_X8_nearest (l0 : Nat) (l1 : Int32) (l2 : Int32) : Mo Int32 :=
  mb (sI 7 30 l0 0) fun _ =>
  mb (vc 7 l0 (m_X8_isDone l0 l2)) fun c1 =>
  if c1 = 0 then
  lp (fun k s => m_X8_nearest_B17 l0 l1 l2 k s) FU 0
  else
  mp l2
def m_X8_shortest_J57 (l0 : Nat) (l2 : Int32)  : Mo Int32 :=
  if l2 = ((-1)) then
  mb (gI 7 30 l0) fun depth4 =>
  mp depth4
  else
  mp ((-9))
def m_X8_shortest_B80 (l0 : Nat) (l2 : Int32)  (k80 : Int32 × Int32 → Mo Int32) (l3 : Int32) (l4 : Int32) : Mo Int32 :=
  if l4 ≤ l2 then
  mb (gR 7 29 l0) fun came8 =>
  mb (aJ came8 l3) fun x9 =>
  mp ((97 + ((((x9 - x9 / 10 * 10) : Int64).toInt32))))
  else
  mb (gR 7 29 l0) fun came10 =>
  mb (aJ came10 l3) fun x11 =>
  mb (mp ((((x11 / 10) : Int64).toInt32))) fun v12 =>
  k80 (v12, (l4 + (-1)))
def m_X8_shortest (l0 : Nat) (l1 : Int32) (l2 : Int32) : Mo Int32 :=
  mb (sI 7 0 l0 0) fun _ =>
  mb (vc 7 l0 (m_X8_isQuery l0 l1)) fun c1 =>
  if c1 = 0 then
  mp ((-1))
  else
  if ((-1)) ≤ l2 then
  mb (vc 7 l0 (m_X8_takes l0 l1)) fun _ =>
  mb (vc 7 l0 (m_X8_begins l0 )) fun c2 =>
  mb (vc 7 l0 (m_X8_nearest l0 l1 c2)) fun c3 =>
  if c3 = ((-9)) then
  mp ((-9))
  else
  if l2 = ((-1)) then
  m_X8_shortest_J57 l0 l2
  else
  mb (gI 7 30 l0) fun depth5 =>
  if l2 < depth5 then
  mb (gI 7 30 l0) fun depth6 =>
  mb (mp ((depth6 - 1))) fun v7 =>
  lp (fun k s => m_X8_shortest_B80 l0 l2 k s.1 s.2) FU (c3, v7)
  else
  m_X8_shortest_J57 l0 l2
  else
  mp ((-1))
def m_X8_more_J64 (l0 : Nat) (l1 : Int32) (l2 : Int32)  : Mo Int32 :=
  if l2 = ((-9)) then
  mp ((-9))
  else
  mb (vc 7 l0 (m_X8_nearest l0 l1 l2)) fun c5 =>
  if c5 = ((-9)) then
  mp ((-9))
  else
  mb (gI 7 30 l0) fun depth6 =>
  mp depth6
def m_X8_more_B27 (l0 : Nat) (l1 : Int32)  (k27 : Int32 × Int32 → Mo Int32) (l2 : Int32) (l3 : Int32) : Mo Int32 :=
  mb (gR 7 8 l0) fun now3 =>
  mb (aI now3 1) fun x4 =>
  if x4 ≤ l3 then
  m_X8_more_J64 l0 l1 l2
  else
  if l2 = ((-9)) then
  m_X8_more_J64 l0 l1 l2
  else
  mb (gR 7 8 l0) fun now7 =>
  mb (aI now7 ((2 + l3))) fun x8 =>
  mb (vc 7 l0 (m_X8_behind l0 l1 l2 x8)) fun c9 =>
  k27 (c9, (l3 + 1))
def m_X8_more (l0 : Nat) (l1 : Int32) : Mo Int32 :=
  mb (sI 7 0 l0 0) fun _ =>
  mb (vc 7 l0 (m_X8_isQuery l0 l1)) fun c1 =>
  if c1 = 0 then
  mp ((-1))
  else
  mb (vc 7 l0 (m_X8_takes l0 l1)) fun _ =>
  mb (vc 7 l0 (m_X8_begins l0 )) fun c2 =>
  lp (fun k s => m_X8_more_B27 l0 l1 k s.1 s.2) FU (c2, 0)
def m_X8_many_J25   : Mo Int64 :=
  mp ((-1))
def m_X8_many_J259 (l0 : Nat) (l5 : Int32) (s0 : Int64) (s1 : Int64) (k225 : Int64 × Int32 → Mo Int64) : Mo Int64 :=
  mb (mp ((s1 + s0))) fun v7 =>
  k225 (v7, (l5 + 1))
def m_X8_many_B225 (l0 : Nat)  (k225 : Int64 × Int32 → Mo Int64) (l3 : Int64) (l5 : Int32) : Mo Int64 :=
  mb (gI 7 17 l0) fun nodeMany5 =>
  if ((160 * nodeMany5)) ≤ l5 then
  mp l3
  else
  mb (vc 7 l0 (m_X8_isDone l0 l5)) fun c6 =>
  if c6 = 0 then
  m_X8_many_J259 l0 l5 0 l3 k225
  else
  mb (gR 7 28 l0) fun queue8 =>
  mb (aJ queue8 l5) fun x9 =>
  m_X8_many_J259 l0 l5 x9 l3 k225
def m_X8_many_B186 (l0 : Nat) (l1 : Int32) (l2 : Int32) (l3 : Int32) (k68 : Int32 → Mo Int64) (k186 : Int32 → Mo Int64) (l4 : Int32) : Mo Int64 :=
  if 15520 ≤ l4 then
  k68 ((l3 + 1))
  else
  mb (gR 7 28 l0) fun queue11 =>
  mb (gR 7 29 l0) fun came12 =>
  mb (aJ came12 l4) fun x13 =>
  mb (tJ queue11 l4 x13) fun _ =>
  k186 ((l4 + 1))
def m_X8_many_J177 (l0 : Nat) (l1 : Int32) (l2 : Int32) (l3 : Int32) (l4 : Int32) (k68 : Int32 → Mo Int64) (k101 : Int32 → Mo Int64) : Mo Int64 :=
  k101 ((l4 + 1))
def m_X8_many_J171 (l0 : Nat) (l1 : Int32) (l2 : Int32) (l3 : Int32) (l4 : Int32) (l5 : Int32) (k68 : Int32 → Mo Int64) (k101 : Int32 → Mo Int64) (k117 : Int32 → Mo Int64) : Mo Int64 :=
  k117 ((l5 + 1))
def m_X8_many_B117 (l0 : Nat) (l1 : Int32) (l2 : Int32) (l3 : Int32) (l4 : Int32) (k68 : Int32 → Mo Int64) (k101 : Int32 → Mo Int64) (k117 : Int32 → Mo Int64) (l5 : Int32) : Mo Int64 :=
  if 8 ≤ l5 then
  m_X8_many_J177 l0 l1 l2 l3 l4 k68 k101
  else
  mb (gR 7 28 l0) fun queue14 =>
  mb (aJ queue14 l4) fun x15 =>
  if ((lg_cmp x15 0)) ≤ 0 then
  m_X8_many_J177 l0 l1 l2 l3 l4 k68 k101
  else
  mb (vc 7 l0 (m_X8_behind l0 l1 l4 l5)) fun c16 =>
  if c16 = ((-9)) then
  m_X8_many_J171 l0 l1 l2 l3 l4 l5 k68 k101 k117
  else
  mb (gR 7 29 l0) fun came17 =>
  mb (aJ came17 c16) fun x18 =>
  mb (gR 7 28 l0) fun queue19 =>
  mb (aJ queue19 l4) fun x20 =>
  mb (tJ came17 c16 ((x18 + x20))) fun _ =>
  m_X8_many_J171 l0 l1 l2 l3 l4 l5 k68 k101 k117
def m_X8_many_B101 (l0 : Nat) (l1 : Int32) (l2 : Int32) (l3 : Int32) (k68 : Int32 → Mo Int64) (k101 : Int32 → Mo Int64) (l4 : Int32) : Mo Int64 :=
  mb (gI 7 17 l0) fun nodeMany10 =>
  if ((160 * nodeMany10)) ≤ l4 then
  lp (fun k s => m_X8_many_B186 l0 l1 l2 l3 k68 k s) FU 0
  else
  lp (fun k s => m_X8_many_B117 l0 l1 l2 l3 l4 k68 k101 k s) FU 0
def m_X8_many_B76 (l0 : Nat) (l1 : Int32) (l2 : Int32) (l3 : Int32) (k68 : Int32 → Mo Int64) (k76 : Int32 → Mo Int64) (l4 : Int32) : Mo Int64 :=
  if 15520 ≤ l4 then
  lp (fun k s => m_X8_many_B101 l0 l1 l2 l3 k68 k s) FU 0
  else
  mb (gR 7 29 l0) fun came21 =>
  mb (tJ came21 l4 0) fun _ =>
  k76 ((l4 + 1))
def m_X8_many_B68 (l0 : Nat) (l1 : Int32) (l2 : Int32)  (k68 : Int32 → Mo Int64) (l3 : Int32) : Mo Int64 :=
  if l2 ≤ l3 then
  lp (fun k s => m_X8_many_B225 l0 k s.1 s.2) FU (0, 0)
  else
  lp (fun k s => m_X8_many_B76 l0 l1 l2 l3 k68 k s) FU 0
def m_X8_many_B36 (l0 : Nat) (l1 : Int32) (l2 : Int32)  (k36 : Int32 → Mo Int64) (l3 : Int32) : Mo Int64 :=
  if 15520 ≤ l3 then
  mb (gR 7 28 l0) fun queue3 =>
  mb (vc 7 l0 (m_X8_begins l0 )) fun c4 =>
  mb (tJ queue3 c4 1) fun _ =>
  lp (fun k s => m_X8_many_B68 l0 l1 l2 k s) FU 0
  else
  mb (gR 7 28 l0) fun queue22 =>
  mb (tJ queue22 l3 0) fun _ =>
  k36 ((l3 + 1))
def m_X8_many (l0 : Nat) (l1 : Int32) (l2 : Int32) : Mo Int64 :=
  mb (sI 7 0 l0 0) fun _ =>
  mb (vc 7 l0 (m_X8_isQuery l0 l1)) fun c1 =>
  if c1 = 0 then
  m_X8_many_J25 
  else
  mb (m_X8_in (((l2 : Int32).toInt64)) 0 12) fun c2 =>
  if c2 = 0 then
  m_X8_many_J25 
  else
  mb (vc 7 l0 (m_X8_takes l0 l1)) fun _ =>
  lp (fun k s => m_X8_many_B36 l0 l1 l2 k s) FU 0
def m_X8_word (l0 : Nat) (l1 : Int32) (l2 : Int32) : Mo Int32 :=
  mb (sI 7 0 l0 0) fun _ =>
  mb (gI 7 15 l0) fun wordMany1 =>
  mb (m_X8_in (((l1 : Int32).toInt64)) 0 ((((wordMany1 - 1) : Int32).toInt64))) fun c2 =>
  if c2 = 0 then
  mp ((-1))
  else
  if ((-1)) ≤ l2 then
  mb (gR 7 14 l0) fun words3 =>
  mb (aI words3 l1) fun x4 =>
  mb (mp ((x4 / 1048576))) fun v5 =>
  if l2 = ((-1)) then
  mp v5
  else
  if v5 ≤ l2 then
  mp ((-9))
  else
  mb (gR 7 14 l0) fun words6 =>
  mb (aI words6 l1) fun x7 =>
  mb (m_X8_letterOf x7 l2) fun c8 =>
  mp ((97 + c8))
  else
  mp ((-1))
def m_X8_hit_J89 (l0 : Nat) (l1 : Int32) (l3 : Int32) (l4 : Int32) (k54 : Int32 × Int32 → Mo Int32) : Mo Int32 :=
  k54 (l3, (l4 + 1))
def m_X8_hit_B54 (l0 : Nat) (l1 : Int32)  (k54 : Int32 × Int32 → Mo Int32) (l3 : Int32) (l4 : Int32) : Mo Int32 :=
  mb (gR 7 8 l0) fun now3 =>
  mb (aI now3 1) fun x4 =>
  if x4 ≤ l4 then
  mp ((-9))
  else
  mb (gR 7 21 l0) fun ended5 =>
  mb (aI ended5 l4) fun x6 =>
  mb (m_X8_has x6 l1) fun c7 =>
  if c7 = 0 then
  m_X8_hit_J89 l0 l1 l3 l4 k54
  else
  if l3 = 0 then
  mp l4
  else
  m_X8_hit_J89 l0 l1 ((l3 + (-1))) l4 k54
def m_X8_hit (l0 : Nat) (l1 : Int32) (l2 : Int32) : Mo Int32 :=
  mb (sI 7 0 l0 0) fun _ =>
  mb (gI 7 15 l0) fun wordMany1 =>
  mb (m_X8_in (((l1 : Int32).toInt64)) 0 ((((wordMany1 - 1) : Int32).toInt64))) fun c2 =>
  if c2 = 0 then
  mp ((-1))
  else
  if ((-1)) ≤ l2 then
  mb (vc 7 l0 (m_X8_layEnds l0 )) fun _ =>
  if l2 = ((-1)) then
  mb (gR 7 8 l0) fun now8 =>
  mb (aI now8 1) fun x9 =>
  mb (vc 7 l0 (m_X8_hits l0 l1 x9)) fun c10 =>
  mp c10
  else
  lp (fun k s => m_X8_hit_B54 l0 l1 k s.1 s.2) FU (l2, 0)
  else
  mp ((-1))
def m_X8_node (l0 : Nat) (l1 : Int32) (l2 : Int32) : Mo Int32 :=
  mb (sI 7 0 l0 0) fun _ =>
  mb (gI 7 17 l0) fun nodeMany1 =>
  mb (m_X8_in (((l1 : Int32).toInt64)) 0 ((((nodeMany1 - 1) : Int32).toInt64))) fun c2 =>
  if c2 = 0 then
  mp ((-1))
  else
  mb (gR 7 16 l0) fun nodes3 =>
  mb (aI nodes3 l1) fun x4 =>
  mb (mp ((x4 / 1048576))) fun v5 =>
  if l2 = 0 then
  mp v5
  else if l2 = 1 then
  if v5 = 0 then
  mp ((-9))
  else
  mb (gR 7 16 l0) fun nodes6 =>
  mb (aI nodes6 l1) fun x7 =>
  mp ((97 + ((x7 &&& 7))))
  else if l2 = 2 then
  if v5 = 0 then
  mp ((-9))
  else
  mb (gR 7 16 l0) fun nodes8 =>
  mb (aI nodes8 l1) fun x9 =>
  mb (m_X8_firsts x9 ((v5 - 1))) fun c10 =>
  mb (vc 7 l0 (m_X8_nodeOf l0 c10)) fun c11 =>
  mp c11
  else if l2 = 3 then
  mb (gR 7 18 l0) fun fails12 =>
  mb (aI fails12 l1) fun x13 =>
  mp x13
  else if l2 = 4 then
  mb (gR 7 19 l0) fun ends14 =>
  mb (aI ends14 l1) fun x15 =>
  mp x15
  else 
  mp ((-1))
def m_X8_next (l0 : Nat) (l1 : Int32) (l2 : Int32) : Mo Int32 :=
  mb (sI 7 0 l0 0) fun _ =>
  mb (gI 7 17 l0) fun nodeMany1 =>
  mb (m_X8_in (((l1 : Int32).toInt64)) 0 ((((nodeMany1 - 1) : Int32).toInt64))) fun c2 =>
  if c2 = 0 then
  mp ((-1))
  else
  mb (m_X8_in (((l2 : Int32).toInt64)) 97 104) fun c3 =>
  if c3 = 0 then
  mp ((-1))
  else
  mb (gR 7 20 l0) fun nexts4 =>
  mb (aI nexts4 ((((((8 * l1)) + l2)) - 97))) fun x5 =>
  mp x5
def m_X8_letter (l0 : Nat) (l1 : Int32) : Mo Int32 :=
  mb (sI 7 0 l0 0) fun _ =>
  mb (gR 7 8 l0) fun now1 =>
  mb (aI now1 1) fun x2 =>
  mb (m_X8_in (((l1 : Int32).toInt64)) 0 ((((x2 - 1) : Int32).toInt64))) fun c3 =>
  if c3 = 0 then
  mp ((-1))
  else
  mb (gR 7 8 l0) fun now4 =>
  mb (aI now4 ((2 + l1))) fun x5 =>
  mp ((97 + x5))
def m_X8_allHits_B4 (l0 : Nat)  (k4 : Int32 × Int32 → Mo Int32) (l1 : Int32) (l2 : Int32) : Mo Int32 :=
  mb (gI 7 15 l0) fun wordMany1 =>
  if wordMany1 ≤ l2 then
  mp l1
  else
  mb (gR 7 8 l0) fun now2 =>
  mb (aI now2 1) fun x3 =>
  mb (vc 7 l0 (m_X8_hits l0 l2 x3)) fun c4 =>
  mb (mp ((l1 + c4))) fun v5 =>
  k4 (v5, (l2 + 1))
def m_X8_allHits (l0 : Nat) : Mo Int32 :=
  lp (fun k s => m_X8_allHits_B4 l0 k s.1 s.2) FU (0, 0)
def m_X8_now_J32 (l0 : Nat) (l1 : Int32)  : Mo Int32 :=
  if l1 = 0 then
  mb (gR 7 8 l0) fun now3 =>
  mb (aI now3 1) fun x4 =>
  mb (vc 7 l0 (m_X8_nodeAt l0 x4)) fun c5 =>
  mp c5
  else
  mb (vc 7 l0 (m_X8_allHits l0 )) fun c2 =>
  mp c2
def m_X8_now_J186 (l0 : Nat) (l1 : Int32) (l3 : Int32) (s0 : Int32) (s1 : Int32) (k58 : Int32 × Int32 → Mo Int32) : Mo Int32 :=
  mb (mp ((s1 ||| s0))) fun v17 =>
  k58 (v17, (l3 + 1))
def m_X8_now_J171 (l0 : Nat) (l1 : Int32) (l2 : Int32) (l3 : Int32) (s0 : Int32) (k58 : Int32 × Int32 → Mo Int32) : Mo Int32 :=
  if s0 = 0 then
  m_X8_now_J186 l0 l1 l3 0 l2 k58
  else
  m_X8_now_J186 l0 l1 l3 (((1 : Int32) <<< (l3 &&& 31))) l2 k58
def m_X8_now_J162 (l0 : Nat) (l1 : Int32) (l2 : Int32) (l3 : Int32) (k58 : Int32 × Int32 → Mo Int32) : Mo Int32 :=
  m_X8_now_J171 l0 l1 l2 l3 0 k58
def m_X8_now_J139 (l0 : Nat) (l1 : Int32) (l2 : Int32) (l3 : Int32) (k58 : Int32 × Int32 → Mo Int32) : Mo Int32 :=
  m_X8_now_J171 l0 l1 l2 l3 0 k58
def m_X8_now_J108 (l0 : Nat) (l1 : Int32) (l2 : Int32) (l3 : Int32) (l4 : Int32) (s0 : Int32) (k58 : Int32 × Int32 → Mo Int32) : Mo Int32 :=
  if l1 = 1 then
  m_X8_now_J171 l0 l1 l2 l3 l4 k58
  else
  if l1 = 2 then
  if l4 = 0 then
  m_X8_now_J139 l0 l1 l2 l3 k58
  else
  if s0 = 0 then
  m_X8_now_J171 l0 l1 l2 l3 1 k58
  else
  m_X8_now_J139 l0 l1 l2 l3 k58
  else
  if l1 = 3 then
  if s0 = 0 then
  m_X8_now_J162 l0 l1 l2 l3 k58
  else
  if l4 = 0 then
  m_X8_now_J171 l0 l1 l2 l3 1 k58
  else
  m_X8_now_J162 l0 l1 l2 l3 k58
  else
  mb (vc 7 l0 (m_X8_isAsked l0 l3)) fun c16 =>
  m_X8_now_J171 l0 l1 l2 l3 c16 k58
def m_X8_now_B58 (l0 : Nat) (l1 : Int32)  (k58 : Int32 × Int32 → Mo Int32) (l2 : Int32) (l3 : Int32) : Mo Int32 :=
  mb (gR 7 8 l0) fun now6 =>
  mb (aI now6 0) fun x7 =>
  if x7 ≤ l3 then
  mp l2
  else
  mb (gR 7 8 l0) fun now8 =>
  mb (aI now8 1) fun x9 =>
  mb (vc 7 l0 (m_X8_matches l0 l3 x9)) fun c10 =>
  mb (gR 7 8 l0) fun now11 =>
  mb (aI now11 1) fun x12 =>
  if x12 = 0 then
  m_X8_now_J108 l0 l1 l2 l3 c10 c10 k58
  else
  mb (gR 7 8 l0) fun now13 =>
  mb (aI now13 1) fun x14 =>
  mb (vc 7 l0 (m_X8_matches l0 l3 ((x14 - 1)))) fun c15 =>
  m_X8_now_J108 l0 l1 l2 l3 c10 c15 k58
def m_X8_now (l0 : Nat) (l1 : Int32) : Mo Int32 :=
  mb (sI 7 0 l0 0) fun _ =>
  mb (m_X8_in (((l1 : Int32).toInt64)) 0 5) fun c1 =>
  if c1 = 0 then
  mp ((-1))
  else
  mb (vc 7 l0 (m_X8_layEnds l0 )) fun _ =>
  if l1 = 0 then
  m_X8_now_J32 l0 l1
  else
  if l1 = 5 then
  m_X8_now_J32 l0 l1
  else
  lp (fun k s => m_X8_now_B58 l0 l1 k s.1 s.2) FU (0, 0)
def m_X8_keep_B19 (l0 : Nat) (l1 : Int32)  (k19 : Int32 → Mo Int32) (l2 : Int32) : Mo Int32 :=
  if 178 ≤ l2 then
  mb (gR 7 12 l0) fun isKept2 =>
  mb (tZ isKept2 l1 1) fun _ =>
  mb (gR 7 8 l0) fun now3 =>
  mb (aI now3 0) fun x4 =>
  mp x4
  else
  mb (gR 7 13 l0) fun kept5 =>
  mb (gR 7 8 l0) fun now6 =>
  mb (aI now6 l2) fun x7 =>
  mb (tI kept5 ((((178 * l1)) + l2)) x7) fun _ =>
  k19 ((l2 + 1))
def m_X8_keep (l0 : Nat) (l1 : Int32) : Mo Int32 :=
  mb (sI 7 0 l0 0) fun _ =>
  mb (m_X8_in (((l1 : Int32).toInt64)) 0 1) fun c1 =>
  if c1 = 0 then
  mp ((-1))
  else
  lp (fun k s => m_X8_keep_B19 l0 l1 k s) FU 0
def m_X8_back_B31 (l0 : Nat) (l1 : Int32)  (k31 : Int32 → Mo Int32) (l2 : Int32) : Mo Int32 :=
  if 178 ≤ l2 then
  mb (sI 7 11 l0 0) fun _ =>
  mb (vc 7 l0 (m_X8_make l0 )) fun _ =>
  mb (gR 7 8 l0) fun now4 =>
  mb (aI now4 0) fun x5 =>
  mp x5
  else
  mb (gR 7 8 l0) fun now6 =>
  mb (gR 7 13 l0) fun kept7 =>
  mb (aI kept7 ((((178 * l1)) + l2))) fun x8 =>
  mb (tI now6 l2 x8) fun _ =>
  k31 ((l2 + 1))
def m_X8_back (l0 : Nat) (l1 : Int32) : Mo Int32 :=
  mb (sI 7 0 l0 0) fun _ =>
  mb (m_X8_in (((l1 : Int32).toInt64)) 0 1) fun c1 =>
  if c1 = 0 then
  mp ((-1))
  else
  mb (gR 7 12 l0) fun isKept2 =>
  mb (aZ isKept2 l1) fun x3 =>
  if x3 = 0 then
  mp ((-2))
  else
  lp (fun k s => m_X8_back_B31 l0 l1 k s) FU 0
def m_X8_count (l0 : Nat) (l1 : Int32) : Mo Int32 :=
  mb (sI 7 0 l0 0) fun _ =>
  if l1 = 0 then
  mb (gR 7 8 l0) fun now1 =>
  mb (aI now1 0) fun x2 =>
  mp x2
  else if l1 = 1 then
  mb (gI 7 15 l0) fun wordMany3 =>
  mp wordMany3
  else if l1 = 2 then
  mb (gI 7 17 l0) fun nodeMany4 =>
  mp nodeMany4
  else if l1 = 3 then
  mb (gR 7 8 l0) fun now5 =>
  mb (aI now5 1) fun x6 =>
  mp x6
  else if l1 = 4 then
  mb (gI 7 11 l0) fun acts7 =>
  mp acts7
  else if l1 = 5 then
  mb (gI 7 2 l0) fun typed8 =>
  mp typed8
  else 
  mp ((-1))
end
section
/-! ===== links: what each place of a constant pool names, out of the tables ===== -/
theorem u_in_X0 : ∀ w ∈ u_ws RX0 TX0 8, w ∈ TB := by
  intro w hw
  obtain ⟨k, hk, rfl⟩ := List.mem_map.mp hw
  have hk := List.mem_range.mp hk
  match k, hk with
  | 0, _ => exact tb_mem 240 (by decide +kernel) (by decide +kernel)
  | 1, _ => exact tb_mem 242 (by decide +kernel) (by decide +kernel)
  | 2, _ => exact tb_mem 244 (by decide +kernel) (by decide +kernel)
  | 3, _ => exact tb_mem 246 (by decide +kernel) (by decide +kernel)
  | 4, _ => exact tb_mem 248 (by decide +kernel) (by decide +kernel)
  | 5, _ => exact tb_mem 250 (by decide +kernel) (by decide +kernel)
  | 6, _ => exact tb_mem 252 (by decide +kernel) (by decide +kernel)
  | 7, _ => exact tb_mem 254 (by decide +kernel) (by decide +kernel)
  | k + 8, h => exact absurd h (by omega)
theorem u_in_X1 : ∀ w ∈ u_ws RX1 TX1 8, w ∈ TB := by
  intro w hw
  obtain ⟨k, hk, rfl⟩ := List.mem_map.mp hw
  have hk := List.mem_range.mp hk
  match k, hk with
  | 0, _ => exact tb_mem 131 (by decide +kernel) (by decide +kernel)
  | 1, _ => exact tb_mem 133 (by decide +kernel) (by decide +kernel)
  | 2, _ => exact tb_mem 135 (by decide +kernel) (by decide +kernel)
  | 3, _ => exact tb_mem 137 (by decide +kernel) (by decide +kernel)
  | 4, _ => exact tb_mem 139 (by decide +kernel) (by decide +kernel)
  | 5, _ => exact tb_mem 141 (by decide +kernel) (by decide +kernel)
  | 6, _ => exact tb_mem 143 (by decide +kernel) (by decide +kernel)
  | 7, _ => exact tb_mem 145 (by decide +kernel) (by decide +kernel)
  | k + 8, h => exact absurd h (by omega)
theorem u_in_X2 : ∀ w ∈ u_ws RX2 TX2 3, w ∈ TB := by
  intro w hw
  obtain ⟨k, hk, rfl⟩ := List.mem_map.mp hw
  have hk := List.mem_range.mp hk
  match k, hk with
  | 0, _ => exact tb_mem 207 (by decide +kernel) (by decide +kernel)
  | 1, _ => exact tb_mem 209 (by decide +kernel) (by decide +kernel)
  | 2, _ => exact tb_mem 211 (by decide +kernel) (by decide +kernel)
  | k + 3, h => exact absurd h (by omega)
theorem u_in_X4 : ∀ w ∈ u_ws RX4 TX4 13, w ∈ TB := by
  intro w hw
  obtain ⟨k, hk, rfl⟩ := List.mem_map.mp hw
  have hk := List.mem_range.mp hk
  match k, hk with
  | 0, _ => exact tb_mem 562 (by decide +kernel) (by decide +kernel)
  | 1, _ => exact tb_mem 564 (by decide +kernel) (by decide +kernel)
  | 2, _ => exact tb_mem 566 (by decide +kernel) (by decide +kernel)
  | 3, _ => exact tb_mem 568 (by decide +kernel) (by decide +kernel)
  | 4, _ => exact tb_mem 570 (by decide +kernel) (by decide +kernel)
  | 5, _ => exact tb_mem 572 (by decide +kernel) (by decide +kernel)
  | 6, _ => exact tb_mem 574 (by decide +kernel) (by decide +kernel)
  | 7, _ => exact tb_mem 576 (by decide +kernel) (by decide +kernel)
  | 8, _ => exact tb_mem 578 (by decide +kernel) (by decide +kernel)
  | 9, _ => exact tb_mem 580 (by decide +kernel) (by decide +kernel)
  | 10, _ => exact tb_mem 582 (by decide +kernel) (by decide +kernel)
  | 11, _ => exact tb_mem 584 (by decide +kernel) (by decide +kernel)
  | 12, _ => exact tb_mem 586 (by decide +kernel) (by decide +kernel)
  | k + 13, h => exact absurd h (by omega)
theorem u_in_X5 : ∀ w ∈ u_ws RX5 TX5 8, w ∈ TB := by
  intro w hw
  obtain ⟨k, hk, rfl⟩ := List.mem_map.mp hw
  have hk := List.mem_range.mp hk
  match k, hk with
  | 0, _ => exact tb_mem 176 (by decide +kernel) (by decide +kernel)
  | 1, _ => exact tb_mem 178 (by decide +kernel) (by decide +kernel)
  | 2, _ => exact tb_mem 180 (by decide +kernel) (by decide +kernel)
  | 3, _ => exact tb_mem 182 (by decide +kernel) (by decide +kernel)
  | 4, _ => exact tb_mem 184 (by decide +kernel) (by decide +kernel)
  | 5, _ => exact tb_mem 186 (by decide +kernel) (by decide +kernel)
  | 6, _ => exact tb_mem 188 (by decide +kernel) (by decide +kernel)
  | 7, _ => exact tb_mem 190 (by decide +kernel) (by decide +kernel)
  | k + 8, h => exact absurd h (by omega)
theorem u_in_X6 : ∀ w ∈ u_ws RX6 TX6 2, w ∈ TB := by
  intro w hw
  obtain ⟨k, hk, rfl⟩ := List.mem_map.mp hw
  have hk := List.mem_range.mp hk
  match k, hk with
  | 0, _ => exact tb_mem 161 (by decide +kernel) (by decide +kernel)
  | 1, _ => exact tb_mem 163 (by decide +kernel) (by decide +kernel)
  | k + 2, h => exact absurd h (by omega)
theorem u_in_X7 : ∀ w ∈ u_ws RX7 TX7 9, w ∈ TB := by
  intro w hw
  obtain ⟨k, hk, rfl⟩ := List.mem_map.mp hw
  have hk := List.mem_range.mp hk
  match k, hk with
  | 0, _ => exact tb_mem 266 (by decide +kernel) (by decide +kernel)
  | 1, _ => exact tb_mem 268 (by decide +kernel) (by decide +kernel)
  | 2, _ => exact tb_mem 270 (by decide +kernel) (by decide +kernel)
  | 3, _ => exact tb_mem 272 (by decide +kernel) (by decide +kernel)
  | 4, _ => exact tb_mem 274 (by decide +kernel) (by decide +kernel)
  | 5, _ => exact tb_mem 276 (by decide +kernel) (by decide +kernel)
  | 6, _ => exact tb_mem 278 (by decide +kernel) (by decide +kernel)
  | 7, _ => exact tb_mem 280 (by decide +kernel) (by decide +kernel)
  | 8, _ => exact tb_mem 282 (by decide +kernel) (by decide +kernel)
  | k + 9, h => exact absurd h (by omega)
theorem u_in_X8 : ∀ w ∈ u_ws RX8 TX8 31, w ∈ TB := by
  intro w hw
  obtain ⟨k, hk, rfl⟩ := List.mem_map.mp hw
  have hk := List.mem_range.mp hk
  match k, hk with
  | 0, _ => exact tb_mem 824 (by decide +kernel) (by decide +kernel)
  | 1, _ => exact tb_mem 826 (by decide +kernel) (by decide +kernel)
  | 2, _ => exact tb_mem 828 (by decide +kernel) (by decide +kernel)
  | 3, _ => exact tb_mem 830 (by decide +kernel) (by decide +kernel)
  | 4, _ => exact tb_mem 832 (by decide +kernel) (by decide +kernel)
  | 5, _ => exact tb_mem 834 (by decide +kernel) (by decide +kernel)
  | 6, _ => exact tb_mem 836 (by decide +kernel) (by decide +kernel)
  | 7, _ => exact tb_mem 838 (by decide +kernel) (by decide +kernel)
  | 8, _ => exact tb_mem 840 (by decide +kernel) (by decide +kernel)
  | 9, _ => exact tb_mem 842 (by decide +kernel) (by decide +kernel)
  | 10, _ => exact tb_mem 844 (by decide +kernel) (by decide +kernel)
  | 11, _ => exact tb_mem 846 (by decide +kernel) (by decide +kernel)
  | 12, _ => exact tb_mem 848 (by decide +kernel) (by decide +kernel)
  | 13, _ => exact tb_mem 850 (by decide +kernel) (by decide +kernel)
  | 14, _ => exact tb_mem 852 (by decide +kernel) (by decide +kernel)
  | 15, _ => exact tb_mem 854 (by decide +kernel) (by decide +kernel)
  | 16, _ => exact tb_mem 856 (by decide +kernel) (by decide +kernel)
  | 17, _ => exact tb_mem 858 (by decide +kernel) (by decide +kernel)
  | 18, _ => exact tb_mem 860 (by decide +kernel) (by decide +kernel)
  | 19, _ => exact tb_mem 862 (by decide +kernel) (by decide +kernel)
  | 20, _ => exact tb_mem 864 (by decide +kernel) (by decide +kernel)
  | 21, _ => exact tb_mem 866 (by decide +kernel) (by decide +kernel)
  | 22, _ => exact tb_mem 868 (by decide +kernel) (by decide +kernel)
  | 23, _ => exact tb_mem 870 (by decide +kernel) (by decide +kernel)
  | 24, _ => exact tb_mem 872 (by decide +kernel) (by decide +kernel)
  | 25, _ => exact tb_mem 874 (by decide +kernel) (by decide +kernel)
  | 26, _ => exact tb_mem 876 (by decide +kernel) (by decide +kernel)
  | 27, _ => exact tb_mem 878 (by decide +kernel) (by decide +kernel)
  | 28, _ => exact tb_mem 880 (by decide +kernel) (by decide +kernel)
  | 29, _ => exact tb_mem 882 (by decide +kernel) (by decide +kernel)
  | 30, _ => exact tb_mem 884 (by decide +kernel) (by decide +kernel)
  | k + 31, h => exact absurd h (by omega)
theorem f_X0_9 : FL RX0 9 0 0 false := ⟨RX0, TX0, tyX0, rfl, u_in_X0, by decide, tb_mem 222 (by decide +kernel) (by decide +kernel), rfl, tyX0_ok, nmX0, fun h => absurd h (by decide), fun _ => rfl, rfl⟩
theorem f_X0_15 : FL RX0 15 0 1 true := ⟨RX0, TX0, tyX0, rfl, u_in_X0, by decide, tb_mem 225 (by decide +kernel) (by decide +kernel), rfl, tyX0_ok, nmX0, fun _ => Or.inr ⟨_, rfl⟩, fun h => absurd h (by decide), rfl⟩
theorem f_X0_19 : FL RX0 19 0 2 true := ⟨RX0, TX0, tyX0, rfl, u_in_X0, by decide, tb_mem 227 (by decide +kernel) (by decide +kernel), rfl, tyX0_ok, nmX0, fun _ => Or.inr ⟨_, rfl⟩, fun h => absurd h (by decide), rfl⟩
theorem f_X0_22 : FL RX0 22 0 3 true := ⟨RX0, TX0, tyX0, rfl, u_in_X0, by decide, tb_mem 229 (by decide +kernel) (by decide +kernel), rfl, tyX0_ok, nmX0, fun _ => Or.inr ⟨_, rfl⟩, fun h => absurd h (by decide), rfl⟩
theorem f_X0_25 : FL RX0 25 0 4 true := ⟨RX0, TX0, tyX0, rfl, u_in_X0, by decide, tb_mem 231 (by decide +kernel) (by decide +kernel), rfl, tyX0_ok, nmX0, fun _ => Or.inr ⟨_, rfl⟩, fun h => absurd h (by decide), rfl⟩
theorem f_X0_28 : FL RX0 28 0 5 true := ⟨RX0, TX0, tyX0, rfl, u_in_X0, by decide, tb_mem 233 (by decide +kernel) (by decide +kernel), rfl, tyX0_ok, nmX0, fun _ => Or.inr ⟨_, rfl⟩, fun h => absurd h (by decide), rfl⟩
theorem f_X0_31 : FL RX0 31 0 6 true := ⟨RX0, TX0, tyX0, rfl, u_in_X0, by decide, tb_mem 236 (by decide +kernel) (by decide +kernel), rfl, tyX0_ok, nmX0, fun _ => Or.inr ⟨_, rfl⟩, fun h => absurd h (by decide), rfl⟩
theorem f_X0_34 : FL RX0 34 0 7 true := ⟨RX0, TX0, tyX0, rfl, u_in_X0, by decide, tb_mem 239 (by decide +kernel) (by decide +kernel), rfl, tyX0_ok, nmX0, fun _ => Or.inr ⟨_, rfl⟩, fun h => absurd h (by decide), rfl⟩
theorem f_X0_52 : FL RX0 52 5 1 false := ⟨RX6, TX6, tyX6, rfl, u_in_X6, by decide, tb_mem 159 (by decide +kernel) (by decide +kernel), rfl, tyX6_ok, nmX6, fun h => absurd h (by decide), fun _ => rfl, rfl⟩
theorem f_X0_57 : FL RX0 57 5 0 true := ⟨RX6, TX6, tyX6, rfl, u_in_X6, by decide, tb_mem 156 (by decide +kernel) (by decide +kernel), rfl, tyX6_ok, nmX6, fun _ => Or.inr ⟨_, rfl⟩, fun h => absurd h (by decide), rfl⟩
theorem f_X1_9 : FL RX1 9 1 2 true := ⟨RX1, TX1, tyX1, rfl, u_in_X1, by decide, tb_mem 109 (by decide +kernel) (by decide +kernel), rfl, tyX1_ok, nmX1, fun _ => Or.inr ⟨_, rfl⟩, fun h => absurd h (by decide), rfl⟩
theorem f_X1_15 : FL RX1 15 1 3 true := ⟨RX1, TX1, tyX1, rfl, u_in_X1, by decide, tb_mem 113 (by decide +kernel) (by decide +kernel), rfl, tyX1_ok, nmX1, fun _ => Or.inr ⟨_, rfl⟩, fun h => absurd h (by decide), rfl⟩
theorem f_X1_18 : FL RX1 18 1 4 true := ⟨RX1, TX1, tyX1, rfl, u_in_X1, by decide, tb_mem 117 (by decide +kernel) (by decide +kernel), rfl, tyX1_ok, nmX1, fun _ => Or.inr ⟨_, rfl⟩, fun h => absurd h (by decide), rfl⟩
theorem f_X1_21 : FL RX1 21 1 5 true := ⟨RX1, TX1, tyX1, rfl, u_in_X1, by decide, tb_mem 121 (by decide +kernel) (by decide +kernel), rfl, tyX1_ok, nmX1, fun _ => Or.inr ⟨_, rfl⟩, fun h => absurd h (by decide), rfl⟩
theorem f_X1_24 : FL RX1 24 1 6 true := ⟨RX1, TX1, tyX1, rfl, u_in_X1, by decide, tb_mem 125 (by decide +kernel) (by decide +kernel), rfl, tyX1_ok, nmX1, fun _ => Or.inr ⟨_, rfl⟩, fun h => absurd h (by decide), rfl⟩
theorem f_X1_27 : FL RX1 27 1 7 true := ⟨RX1, TX1, tyX1, rfl, u_in_X1, by decide, tb_mem 128 (by decide +kernel) (by decide +kernel), rfl, tyX1_ok, nmX1, fun _ => Or.inr ⟨_, rfl⟩, fun h => absurd h (by decide), rfl⟩
theorem f_X1_30 : FL RX1 30 1 0 false := ⟨RX1, TX1, tyX1, rfl, u_in_X1, by decide, tb_mem 102 (by decide +kernel) (by decide +kernel), rfl, tyX1_ok, nmX1, fun h => absurd h (by decide), fun _ => rfl, rfl⟩
theorem f_X1_34 : FL RX1 34 1 1 false := ⟨RX1, TX1, tyX1, rfl, u_in_X1, by decide, tb_mem 106 (by decide +kernel) (by decide +kernel), rfl, tyX1_ok, nmX1, fun h => absurd h (by decide), fun _ => rfl, rfl⟩
theorem f_X2_11 : FL RX2 11 2 0 true := ⟨RX2, TX2, tyX2, rfl, u_in_X2, by decide, tb_mem 203 (by decide +kernel) (by decide +kernel), rfl, tyX2_ok, nmX2, fun _ => Or.inr ⟨_, rfl⟩, fun h => absurd h (by decide), rfl⟩
theorem f_X2_17 : FL RX2 17 2 1 false := ⟨RX2, TX2, tyX2, rfl, u_in_X2, by decide, tb_mem 204 (by decide +kernel) (by decide +kernel), rfl, tyX2_ok, nmX2, fun h => absurd h (by decide), fun _ => rfl, rfl⟩
theorem f_X2_26 : FL RX2 26 2 2 false := ⟨RX2, TX2, tyX2, rfl, u_in_X2, by decide, tb_mem 205 (by decide +kernel) (by decide +kernel), rfl, tyX2_ok, nmX2, fun h => absurd h (by decide), fun _ => rfl, rfl⟩
theorem f_X4_16 : FL RX4 16 3 0 true := ⟨RX4, TX4, tyX4, rfl, u_in_X4, by decide, tb_mem 549 (by decide +kernel) (by decide +kernel), rfl, tyX4_ok, nmX4, fun _ => Or.inl ⟨_, rfl⟩, fun h => absurd h (by decide), rfl⟩
theorem f_X4_23 : FL RX4 23 3 1 true := ⟨RX4, TX4, tyX4, rfl, u_in_X4, by decide, tb_mem 550 (by decide +kernel) (by decide +kernel), rfl, tyX4_ok, nmX4, fun _ => Or.inl ⟨_, rfl⟩, fun h => absurd h (by decide), rfl⟩
theorem f_X4_27 : FL RX4 27 3 2 true := ⟨RX4, TX4, tyX4, rfl, u_in_X4, by decide, tb_mem 551 (by decide +kernel) (by decide +kernel), rfl, tyX4_ok, nmX4, fun _ => Or.inr ⟨_, rfl⟩, fun h => absurd h (by decide), rfl⟩
theorem f_X4_31 : FL RX4 31 3 3 true := ⟨RX4, TX4, tyX4, rfl, u_in_X4, by decide, tb_mem 552 (by decide +kernel) (by decide +kernel), rfl, tyX4_ok, nmX4, fun _ => Or.inr ⟨_, rfl⟩, fun h => absurd h (by decide), rfl⟩
theorem f_X4_34 : FL RX4 34 3 4 true := ⟨RX4, TX4, tyX4, rfl, u_in_X4, by decide, tb_mem 553 (by decide +kernel) (by decide +kernel), rfl, tyX4_ok, nmX4, fun _ => Or.inr ⟨_, rfl⟩, fun h => absurd h (by decide), rfl⟩
theorem f_X4_37 : FL RX4 37 3 5 false := ⟨RX4, TX4, tyX4, rfl, u_in_X4, by decide, tb_mem 554 (by decide +kernel) (by decide +kernel), rfl, tyX4_ok, nmX4, fun _ => Or.inr ⟨_, rfl⟩, fun h => absurd h (by decide), rfl⟩
theorem f_X4_41 : FL RX4 41 3 6 false := ⟨RX4, TX4, tyX4, rfl, u_in_X4, by decide, tb_mem 555 (by decide +kernel) (by decide +kernel), rfl, tyX4_ok, nmX4, fun _ => Or.inr ⟨_, rfl⟩, fun h => absurd h (by decide), rfl⟩
theorem f_X4_58 : FL RX4 58 3 7 false := ⟨RX4, TX4, tyX4, rfl, u_in_X4, by decide, tb_mem 556 (by decide +kernel) (by decide +kernel), rfl, tyX4_ok, nmX4, fun h => absurd h (by decide), fun _ => rfl, rfl⟩
theorem f_X4_62 : FL RX4 62 3 8 false := ⟨RX4, TX4, tyX4, rfl, u_in_X4, by decide, tb_mem 557 (by decide +kernel) (by decide +kernel), rfl, tyX4_ok, nmX4, fun h => absurd h (by decide), fun _ => rfl, rfl⟩
theorem f_X4_65 : FL RX4 65 1 2 true := ⟨RX1, TX1, tyX1, rfl, u_in_X1, by decide, tb_mem 110 (by decide +kernel) (by decide +kernel), rfl, tyX1_ok, nmX1, fun _ => Or.inr ⟨_, rfl⟩, fun h => absurd h (by decide), rfl⟩
theorem f_X4_74 : FL RX4 74 1 3 true := ⟨RX1, TX1, tyX1, rfl, u_in_X1, by decide, tb_mem 114 (by decide +kernel) (by decide +kernel), rfl, tyX1_ok, nmX1, fun _ => Or.inr ⟨_, rfl⟩, fun h => absurd h (by decide), rfl⟩
theorem f_X4_77 : FL RX4 77 1 4 true := ⟨RX1, TX1, tyX1, rfl, u_in_X1, by decide, tb_mem 118 (by decide +kernel) (by decide +kernel), rfl, tyX1_ok, nmX1, fun _ => Or.inr ⟨_, rfl⟩, fun h => absurd h (by decide), rfl⟩
theorem f_X4_84 : FL RX4 84 1 5 true := ⟨RX1, TX1, tyX1, rfl, u_in_X1, by decide, tb_mem 122 (by decide +kernel) (by decide +kernel), rfl, tyX1_ok, nmX1, fun _ => Or.inr ⟨_, rfl⟩, fun h => absurd h (by decide), rfl⟩
theorem f_X4_87 : FL RX4 87 1 6 true := ⟨RX1, TX1, tyX1, rfl, u_in_X1, by decide, tb_mem 126 (by decide +kernel) (by decide +kernel), rfl, tyX1_ok, nmX1, fun _ => Or.inr ⟨_, rfl⟩, fun h => absurd h (by decide), rfl⟩
theorem f_X4_89 : FL RX4 89 3 9 false := ⟨RX4, TX4, tyX4, rfl, u_in_X4, by decide, tb_mem 558 (by decide +kernel) (by decide +kernel), rfl, tyX4_ok, nmX4, fun h => absurd h (by decide), fun _ => rfl, rfl⟩
theorem f_X4_92 : FL RX4 92 3 10 false := ⟨RX4, TX4, tyX4, rfl, u_in_X4, by decide, tb_mem 559 (by decide +kernel) (by decide +kernel), rfl, tyX4_ok, nmX4, fun h => absurd h (by decide), fun _ => rfl, rfl⟩
theorem f_X4_95 : FL RX4 95 0 0 false := ⟨RX0, TX0, tyX0, rfl, u_in_X0, by decide, tb_mem 223 (by decide +kernel) (by decide +kernel), rfl, tyX0_ok, nmX0, fun h => absurd h (by decide), fun _ => rfl, rfl⟩
theorem f_X4_103 : FL RX4 103 3 11 false := ⟨RX4, TX4, tyX4, rfl, u_in_X4, by decide, tb_mem 560 (by decide +kernel) (by decide +kernel), rfl, tyX4_ok, nmX4, fun h => absurd h (by decide), fun _ => rfl, rfl⟩
theorem f_X4_110 : FL RX4 110 0 5 true := ⟨RX0, TX0, tyX0, rfl, u_in_X0, by decide, tb_mem 234 (by decide +kernel) (by decide +kernel), rfl, tyX0_ok, nmX0, fun _ => Or.inr ⟨_, rfl⟩, fun h => absurd h (by decide), rfl⟩
theorem f_X4_113 : FL RX4 113 0 6 true := ⟨RX0, TX0, tyX0, rfl, u_in_X0, by decide, tb_mem 237 (by decide +kernel) (by decide +kernel), rfl, tyX0_ok, nmX0, fun _ => Or.inr ⟨_, rfl⟩, fun h => absurd h (by decide), rfl⟩
theorem f_X4_119 : FL RX4 119 1 1 false := ⟨RX1, TX1, tyX1, rfl, u_in_X1, by decide, tb_mem 108 (by decide +kernel) (by decide +kernel), rfl, tyX1_ok, nmX1, fun h => absurd h (by decide), fun _ => rfl, rfl⟩
theorem f_X4_122 : FL RX4 122 1 7 true := ⟨RX1, TX1, tyX1, rfl, u_in_X1, by decide, tb_mem 130 (by decide +kernel) (by decide +kernel), rfl, tyX1_ok, nmX1, fun _ => Or.inr ⟨_, rfl⟩, fun h => absurd h (by decide), rfl⟩
theorem f_X4_128 : FL RX4 128 3 12 false := ⟨RX4, TX4, tyX4, rfl, u_in_X4, by decide, tb_mem 561 (by decide +kernel) (by decide +kernel), rfl, tyX4_ok, nmX4, fun h => absurd h (by decide), fun _ => rfl, rfl⟩
theorem f_X5_9 : FL RX5 9 4 0 true := ⟨RX5, TX5, tyX5, rfl, u_in_X5, by decide, tb_mem 166 (by decide +kernel) (by decide +kernel), rfl, tyX5_ok, nmX5, fun _ => Or.inr ⟨_, rfl⟩, fun h => absurd h (by decide), rfl⟩
theorem f_X5_18 : FL RX5 18 4 2 true := ⟨RX5, TX5, tyX5, rfl, u_in_X5, by decide, tb_mem 169 (by decide +kernel) (by decide +kernel), rfl, tyX5_ok, nmX5, fun _ => Or.inl ⟨_, rfl⟩, fun h => absurd h (by decide), rfl⟩
theorem f_X5_27 : FL RX5 27 4 3 true := ⟨RX5, TX5, tyX5, rfl, u_in_X5, by decide, tb_mem 171 (by decide +kernel) (by decide +kernel), rfl, tyX5_ok, nmX5, fun _ => Or.inl ⟨_, rfl⟩, fun h => absurd h (by decide), rfl⟩
theorem f_X5_31 : FL RX5 31 4 1 false := ⟨RX5, TX5, tyX5, rfl, u_in_X5, by decide, tb_mem 167 (by decide +kernel) (by decide +kernel), rfl, tyX5_ok, nmX5, fun h => absurd h (by decide), fun _ => rfl, rfl⟩
theorem f_X5_39 : FL RX5 39 1 0 false := ⟨RX1, TX1, tyX1, rfl, u_in_X1, by decide, tb_mem 103 (by decide +kernel) (by decide +kernel), rfl, tyX1_ok, nmX1, fun h => absurd h (by decide), fun _ => rfl, rfl⟩
theorem f_X5_42 : FL RX5 42 4 7 false := ⟨RX5, TX5, tyX5, rfl, u_in_X5, by decide, tb_mem 175 (by decide +kernel) (by decide +kernel), rfl, tyX5_ok, nmX5, fun h => absurd h (by decide), fun _ => rfl, rfl⟩
theorem f_X5_48 : FL RX5 48 4 5 false := ⟨RX5, TX5, tyX5, rfl, u_in_X5, by decide, tb_mem 173 (by decide +kernel) (by decide +kernel), rfl, tyX5_ok, nmX5, fun h => absurd h (by decide), fun _ => rfl, rfl⟩
theorem f_X5_54 : FL RX5 54 4 6 false := ⟨RX5, TX5, tyX5, rfl, u_in_X5, by decide, tb_mem 174 (by decide +kernel) (by decide +kernel), rfl, tyX5_ok, nmX5, fun h => absurd h (by decide), fun _ => rfl, rfl⟩
theorem f_X5_61 : FL RX5 61 4 4 false := ⟨RX5, TX5, tyX5, rfl, u_in_X5, by decide, tb_mem 172 (by decide +kernel) (by decide +kernel), rfl, tyX5_ok, nmX5, fun h => absurd h (by decide), fun _ => rfl, rfl⟩
theorem f_X6_9 : FL RX6 9 5 0 true := ⟨RX6, TX6, tyX6, rfl, u_in_X6, by decide, tb_mem 155 (by decide +kernel) (by decide +kernel), rfl, tyX6_ok, nmX6, fun _ => Or.inr ⟨_, rfl⟩, fun h => absurd h (by decide), rfl⟩
theorem f_X6_15 : FL RX6 15 5 1 false := ⟨RX6, TX6, tyX6, rfl, u_in_X6, by decide, tb_mem 158 (by decide +kernel) (by decide +kernel), rfl, tyX6_ok, nmX6, fun h => absurd h (by decide), fun _ => rfl, rfl⟩
theorem f_X6_23 : FL RX6 23 1 0 false := ⟨RX1, TX1, tyX1, rfl, u_in_X1, by decide, tb_mem 104 (by decide +kernel) (by decide +kernel), rfl, tyX1_ok, nmX1, fun h => absurd h (by decide), fun _ => rfl, rfl⟩
theorem f_X6_32 : FL RX6 32 1 2 true := ⟨RX1, TX1, tyX1, rfl, u_in_X1, by decide, tb_mem 111 (by decide +kernel) (by decide +kernel), rfl, tyX1_ok, nmX1, fun _ => Or.inr ⟨_, rfl⟩, fun h => absurd h (by decide), rfl⟩
theorem f_X6_39 : FL RX6 39 1 4 true := ⟨RX1, TX1, tyX1, rfl, u_in_X1, by decide, tb_mem 119 (by decide +kernel) (by decide +kernel), rfl, tyX1_ok, nmX1, fun _ => Or.inr ⟨_, rfl⟩, fun h => absurd h (by decide), rfl⟩
theorem f_X6_46 : FL RX6 46 1 3 true := ⟨RX1, TX1, tyX1, rfl, u_in_X1, by decide, tb_mem 115 (by decide +kernel) (by decide +kernel), rfl, tyX1_ok, nmX1, fun _ => Or.inr ⟨_, rfl⟩, fun h => absurd h (by decide), rfl⟩
theorem f_X6_49 : FL RX6 49 1 5 true := ⟨RX1, TX1, tyX1, rfl, u_in_X1, by decide, tb_mem 123 (by decide +kernel) (by decide +kernel), rfl, tyX1_ok, nmX1, fun _ => Or.inr ⟨_, rfl⟩, fun h => absurd h (by decide), rfl⟩
theorem f_X7_10 : FL RX7 10 6 0 true := ⟨RX7, TX7, tyX7, rfl, u_in_X7, by decide, tb_mem 257 (by decide +kernel) (by decide +kernel), rfl, tyX7_ok, nmX7, fun _ => Or.inl ⟨_, rfl⟩, fun h => absurd h (by decide), rfl⟩
theorem f_X7_19 : FL RX7 19 6 1 true := ⟨RX7, TX7, tyX7, rfl, u_in_X7, by decide, tb_mem 258 (by decide +kernel) (by decide +kernel), rfl, tyX7_ok, nmX7, fun _ => Or.inl ⟨_, rfl⟩, fun h => absurd h (by decide), rfl⟩
theorem f_X7_26 : FL RX7 26 6 2 true := ⟨RX7, TX7, tyX7, rfl, u_in_X7, by decide, tb_mem 259 (by decide +kernel) (by decide +kernel), rfl, tyX7_ok, nmX7, fun _ => Or.inl ⟨_, rfl⟩, fun h => absurd h (by decide), rfl⟩
theorem f_X7_30 : FL RX7 30 6 3 true := ⟨RX7, TX7, tyX7, rfl, u_in_X7, by decide, tb_mem 260 (by decide +kernel) (by decide +kernel), rfl, tyX7_ok, nmX7, fun _ => Or.inr ⟨_, rfl⟩, fun h => absurd h (by decide), rfl⟩
theorem f_X7_39 : FL RX7 39 6 4 true := ⟨RX7, TX7, tyX7, rfl, u_in_X7, by decide, tb_mem 261 (by decide +kernel) (by decide +kernel), rfl, tyX7_ok, nmX7, fun _ => Or.inl ⟨_, rfl⟩, fun h => absurd h (by decide), rfl⟩
theorem f_X7_46 : FL RX7 46 6 5 true := ⟨RX7, TX7, tyX7, rfl, u_in_X7, by decide, tb_mem 262 (by decide +kernel) (by decide +kernel), rfl, tyX7_ok, nmX7, fun _ => Or.inl ⟨_, rfl⟩, fun h => absurd h (by decide), rfl⟩
theorem f_X7_50 : FL RX7 50 6 6 true := ⟨RX7, TX7, tyX7, rfl, u_in_X7, by decide, tb_mem 263 (by decide +kernel) (by decide +kernel), rfl, tyX7_ok, nmX7, fun _ => Or.inr ⟨_, rfl⟩, fun h => absurd h (by decide), rfl⟩
theorem f_X7_58 : FL RX7 58 4 1 false := ⟨RX5, TX5, tyX5, rfl, u_in_X5, by decide, tb_mem 168 (by decide +kernel) (by decide +kernel), rfl, tyX5_ok, nmX5, fun h => absurd h (by decide), fun _ => rfl, rfl⟩
theorem f_X7_66 : FL RX7 66 4 2 true := ⟨RX5, TX5, tyX5, rfl, u_in_X5, by decide, tb_mem 170 (by decide +kernel) (by decide +kernel), rfl, tyX5_ok, nmX5, fun _ => Or.inl ⟨_, rfl⟩, fun h => absurd h (by decide), rfl⟩
theorem f_X7_69 : FL RX7 69 1 0 false := ⟨RX1, TX1, tyX1, rfl, u_in_X1, by decide, tb_mem 105 (by decide +kernel) (by decide +kernel), rfl, tyX1_ok, nmX1, fun h => absurd h (by decide), fun _ => rfl, rfl⟩
theorem f_X7_91 : FL RX7 91 1 1 false := ⟨RX1, TX1, tyX1, rfl, u_in_X1, by decide, tb_mem 107 (by decide +kernel) (by decide +kernel), rfl, tyX1_ok, nmX1, fun h => absurd h (by decide), fun _ => rfl, rfl⟩
theorem f_X7_94 : FL RX7 94 1 7 true := ⟨RX1, TX1, tyX1, rfl, u_in_X1, by decide, tb_mem 129 (by decide +kernel) (by decide +kernel), rfl, tyX1_ok, nmX1, fun _ => Or.inr ⟨_, rfl⟩, fun h => absurd h (by decide), rfl⟩
theorem f_X7_101 : FL RX7 101 6 7 false := ⟨RX7, TX7, tyX7, rfl, u_in_X7, by decide, tb_mem 264 (by decide +kernel) (by decide +kernel), rfl, tyX7_ok, nmX7, fun h => absurd h (by decide), fun _ => rfl, rfl⟩
theorem f_X7_108 : FL RX7 108 2 2 false := ⟨RX2, TX2, tyX2, rfl, u_in_X2, by decide, tb_mem 206 (by decide +kernel) (by decide +kernel), rfl, tyX2_ok, nmX2, fun h => absurd h (by decide), fun _ => rfl, rfl⟩
theorem f_X7_111 : FL RX7 111 1 2 true := ⟨RX1, TX1, tyX1, rfl, u_in_X1, by decide, tb_mem 112 (by decide +kernel) (by decide +kernel), rfl, tyX1_ok, nmX1, fun _ => Or.inr ⟨_, rfl⟩, fun h => absurd h (by decide), rfl⟩
theorem f_X7_135 : FL RX7 135 1 3 true := ⟨RX1, TX1, tyX1, rfl, u_in_X1, by decide, tb_mem 116 (by decide +kernel) (by decide +kernel), rfl, tyX1_ok, nmX1, fun _ => Or.inr ⟨_, rfl⟩, fun h => absurd h (by decide), rfl⟩
theorem f_X7_138 : FL RX7 138 1 4 true := ⟨RX1, TX1, tyX1, rfl, u_in_X1, by decide, tb_mem 120 (by decide +kernel) (by decide +kernel), rfl, tyX1_ok, nmX1, fun _ => Or.inr ⟨_, rfl⟩, fun h => absurd h (by decide), rfl⟩
theorem f_X7_141 : FL RX7 141 1 5 true := ⟨RX1, TX1, tyX1, rfl, u_in_X1, by decide, tb_mem 124 (by decide +kernel) (by decide +kernel), rfl, tyX1_ok, nmX1, fun _ => Or.inr ⟨_, rfl⟩, fun h => absurd h (by decide), rfl⟩
theorem f_X7_144 : FL RX7 144 1 6 true := ⟨RX1, TX1, tyX1, rfl, u_in_X1, by decide, tb_mem 127 (by decide +kernel) (by decide +kernel), rfl, tyX1_ok, nmX1, fun _ => Or.inr ⟨_, rfl⟩, fun h => absurd h (by decide), rfl⟩
theorem f_X7_174 : FL RX7 174 5 0 true := ⟨RX6, TX6, tyX6, rfl, u_in_X6, by decide, tb_mem 157 (by decide +kernel) (by decide +kernel), rfl, tyX6_ok, nmX6, fun _ => Or.inr ⟨_, rfl⟩, fun h => absurd h (by decide), rfl⟩
theorem f_X7_198 : FL RX7 198 0 1 true := ⟨RX0, TX0, tyX0, rfl, u_in_X0, by decide, tb_mem 226 (by decide +kernel) (by decide +kernel), rfl, tyX0_ok, nmX0, fun _ => Or.inr ⟨_, rfl⟩, fun h => absurd h (by decide), rfl⟩
theorem f_X7_200 : FL RX7 200 0 2 true := ⟨RX0, TX0, tyX0, rfl, u_in_X0, by decide, tb_mem 228 (by decide +kernel) (by decide +kernel), rfl, tyX0_ok, nmX0, fun _ => Or.inr ⟨_, rfl⟩, fun h => absurd h (by decide), rfl⟩
theorem f_X7_203 : FL RX7 203 0 3 true := ⟨RX0, TX0, tyX0, rfl, u_in_X0, by decide, tb_mem 230 (by decide +kernel) (by decide +kernel), rfl, tyX0_ok, nmX0, fun _ => Or.inr ⟨_, rfl⟩, fun h => absurd h (by decide), rfl⟩
theorem f_X7_206 : FL RX7 206 0 4 true := ⟨RX0, TX0, tyX0, rfl, u_in_X0, by decide, tb_mem 232 (by decide +kernel) (by decide +kernel), rfl, tyX0_ok, nmX0, fun _ => Or.inr ⟨_, rfl⟩, fun h => absurd h (by decide), rfl⟩
theorem f_X7_209 : FL RX7 209 0 5 true := ⟨RX0, TX0, tyX0, rfl, u_in_X0, by decide, tb_mem 235 (by decide +kernel) (by decide +kernel), rfl, tyX0_ok, nmX0, fun _ => Or.inr ⟨_, rfl⟩, fun h => absurd h (by decide), rfl⟩
theorem f_X7_212 : FL RX7 212 0 6 true := ⟨RX0, TX0, tyX0, rfl, u_in_X0, by decide, tb_mem 238 (by decide +kernel) (by decide +kernel), rfl, tyX0_ok, nmX0, fun _ => Or.inr ⟨_, rfl⟩, fun h => absurd h (by decide), rfl⟩
theorem f_X7_231 : FL RX7 231 5 1 false := ⟨RX6, TX6, tyX6, rfl, u_in_X6, by decide, tb_mem 160 (by decide +kernel) (by decide +kernel), rfl, tyX6_ok, nmX6, fun h => absurd h (by decide), fun _ => rfl, rfl⟩
theorem f_X7_234 : FL RX7 234 0 0 false := ⟨RX0, TX0, tyX0, rfl, u_in_X0, by decide, tb_mem 224 (by decide +kernel) (by decide +kernel), rfl, tyX0_ok, nmX0, fun h => absurd h (by decide), fun _ => rfl, rfl⟩
theorem f_X7_265 : FL RX7 265 6 8 false := ⟨RX7, TX7, tyX7, rfl, u_in_X7, by decide, tb_mem 265 (by decide +kernel) (by decide +kernel), rfl, tyX7_ok, nmX7, fun _ => Or.inl ⟨_, rfl⟩, fun h => absurd h (by decide), rfl⟩
theorem f_X8_1 : FL RX8 1 7 0 false := ⟨RX8, TX8, tyX8, rfl, u_in_X8, by decide, tb_mem 793 (by decide +kernel) (by decide +kernel), rfl, tyX8_ok, nmX8, fun h => absurd h (by decide), fun _ => rfl, rfl⟩
theorem f_X8_13 : FL RX8 13 7 2 false := ⟨RX8, TX8, tyX8, rfl, u_in_X8, by decide, tb_mem 795 (by decide +kernel) (by decide +kernel), rfl, tyX8_ok, nmX8, fun h => absurd h (by decide), fun _ => rfl, rfl⟩
theorem f_X8_16 : FL RX8 16 7 1 true := ⟨RX8, TX8, tyX8, rfl, u_in_X8, by decide, tb_mem 794 (by decide +kernel) (by decide +kernel), rfl, tyX8_ok, nmX8, fun _ => Or.inr ⟨_, rfl⟩, fun h => absurd h (by decide), rfl⟩
theorem f_X8_20 : FL RX8 20 7 3 false := ⟨RX8, TX8, tyX8, rfl, u_in_X8, by decide, tb_mem 796 (by decide +kernel) (by decide +kernel), rfl, tyX8_ok, nmX8, fun h => absurd h (by decide), fun _ => rfl, rfl⟩
theorem f_X8_27 : FL RX8 27 7 4 false := ⟨RX8, TX8, tyX8, rfl, u_in_X8, by decide, tb_mem 797 (by decide +kernel) (by decide +kernel), rfl, tyX8_ok, nmX8, fun h => absurd h (by decide), fun _ => rfl, rfl⟩
theorem f_X8_30 : FL RX8 30 7 6 false := ⟨RX8, TX8, tyX8, rfl, u_in_X8, by decide, tb_mem 799 (by decide +kernel) (by decide +kernel), rfl, tyX8_ok, nmX8, fun h => absurd h (by decide), fun _ => rfl, rfl⟩
theorem f_X8_37 : FL RX8 37 7 5 false := ⟨RX8, TX8, tyX8, rfl, u_in_X8, by decide, tb_mem 798 (by decide +kernel) (by decide +kernel), rfl, tyX8_ok, nmX8, fun h => absurd h (by decide), fun _ => rfl, rfl⟩
theorem f_X8_44 : FL RX8 44 7 7 false := ⟨RX8, TX8, tyX8, rfl, u_in_X8, by decide, tb_mem 800 (by decide +kernel) (by decide +kernel), rfl, tyX8_ok, nmX8, fun h => absurd h (by decide), fun _ => rfl, rfl⟩
theorem f_X8_52 : FL RX8 52 7 15 false := ⟨RX8, TX8, tyX8, rfl, u_in_X8, by decide, tb_mem 808 (by decide +kernel) (by decide +kernel), rfl, tyX8_ok, nmX8, fun h => absurd h (by decide), fun _ => rfl, rfl⟩
theorem f_X8_55 : FL RX8 55 7 14 true := ⟨RX8, TX8, tyX8, rfl, u_in_X8, by decide, tb_mem 807 (by decide +kernel) (by decide +kernel), rfl, tyX8_ok, nmX8, fun _ => Or.inr ⟨_, rfl⟩, fun h => absurd h (by decide), rfl⟩
theorem f_X8_73 : FL RX8 73 7 17 false := ⟨RX8, TX8, tyX8, rfl, u_in_X8, by decide, tb_mem 810 (by decide +kernel) (by decide +kernel), rfl, tyX8_ok, nmX8, fun h => absurd h (by decide), fun _ => rfl, rfl⟩
theorem f_X8_76 : FL RX8 76 7 16 true := ⟨RX8, TX8, tyX8, rfl, u_in_X8, by decide, tb_mem 809 (by decide +kernel) (by decide +kernel), rfl, tyX8_ok, nmX8, fun _ => Or.inr ⟨_, rfl⟩, fun h => absurd h (by decide), rfl⟩
theorem f_X8_87 : FL RX8 87 7 8 true := ⟨RX8, TX8, tyX8, rfl, u_in_X8, by decide, tb_mem 801 (by decide +kernel) (by decide +kernel), rfl, tyX8_ok, nmX8, fun _ => Or.inr ⟨_, rfl⟩, fun h => absurd h (by decide), rfl⟩
theorem f_X8_100 : FL RX8 100 7 18 true := ⟨RX8, TX8, tyX8, rfl, u_in_X8, by decide, tb_mem 811 (by decide +kernel) (by decide +kernel), rfl, tyX8_ok, nmX8, fun _ => Or.inr ⟨_, rfl⟩, fun h => absurd h (by decide), rfl⟩
theorem f_X8_106 : FL RX8 106 7 19 true := ⟨RX8, TX8, tyX8, rfl, u_in_X8, by decide, tb_mem 812 (by decide +kernel) (by decide +kernel), rfl, tyX8_ok, nmX8, fun _ => Or.inr ⟨_, rfl⟩, fun h => absurd h (by decide), rfl⟩
theorem f_X8_109 : FL RX8 109 7 20 true := ⟨RX8, TX8, tyX8, rfl, u_in_X8, by decide, tb_mem 813 (by decide +kernel) (by decide +kernel), rfl, tyX8_ok, nmX8, fun _ => Or.inr ⟨_, rfl⟩, fun h => absurd h (by decide), rfl⟩
theorem f_X8_121 : FL RX8 121 7 9 true := ⟨RX8, TX8, tyX8, rfl, u_in_X8, by decide, tb_mem 802 (by decide +kernel) (by decide +kernel), rfl, tyX8_ok, nmX8, fun _ => Or.inr ⟨_, rfl⟩, fun h => absurd h (by decide), rfl⟩
theorem f_X8_124 : FL RX8 124 7 10 true := ⟨RX8, TX8, tyX8, rfl, u_in_X8, by decide, tb_mem 803 (by decide +kernel) (by decide +kernel), rfl, tyX8_ok, nmX8, fun _ => Or.inr ⟨_, rfl⟩, fun h => absurd h (by decide), rfl⟩
theorem f_X8_127 : FL RX8 127 7 12 true := ⟨RX8, TX8, tyX8, rfl, u_in_X8, by decide, tb_mem 805 (by decide +kernel) (by decide +kernel), rfl, tyX8_ok, nmX8, fun _ => Or.inr ⟨_, rfl⟩, fun h => absurd h (by decide), rfl⟩
theorem f_X8_131 : FL RX8 131 7 13 true := ⟨RX8, TX8, tyX8, rfl, u_in_X8, by decide, tb_mem 806 (by decide +kernel) (by decide +kernel), rfl, tyX8_ok, nmX8, fun _ => Or.inr ⟨_, rfl⟩, fun h => absurd h (by decide), rfl⟩
theorem f_X8_134 : FL RX8 134 7 21 true := ⟨RX8, TX8, tyX8, rfl, u_in_X8, by decide, tb_mem 814 (by decide +kernel) (by decide +kernel), rfl, tyX8_ok, nmX8, fun _ => Or.inr ⟨_, rfl⟩, fun h => absurd h (by decide), rfl⟩
theorem f_X8_137 : FL RX8 137 7 28 true := ⟨RX8, TX8, tyX8, rfl, u_in_X8, by decide, tb_mem 821 (by decide +kernel) (by decide +kernel), rfl, tyX8_ok, nmX8, fun _ => Or.inr ⟨_, rfl⟩, fun h => absurd h (by decide), rfl⟩
theorem f_X8_141 : FL RX8 141 7 29 true := ⟨RX8, TX8, tyX8, rfl, u_in_X8, by decide, tb_mem 822 (by decide +kernel) (by decide +kernel), rfl, tyX8_ok, nmX8, fun _ => Or.inr ⟨_, rfl⟩, fun h => absurd h (by decide), rfl⟩
theorem f_X8_180 : FL RX8 180 7 11 false := ⟨RX8, TX8, tyX8, rfl, u_in_X8, by decide, tb_mem 804 (by decide +kernel) (by decide +kernel), rfl, tyX8_ok, nmX8, fun h => absurd h (by decide), fun _ => rfl, rfl⟩
theorem f_X8_220 : FL RX8 220 7 22 false := ⟨RX8, TX8, tyX8, rfl, u_in_X8, by decide, tb_mem 815 (by decide +kernel) (by decide +kernel), rfl, tyX8_ok, nmX8, fun h => absurd h (by decide), fun _ => rfl, rfl⟩
theorem f_X8_223 : FL RX8 223 7 23 false := ⟨RX8, TX8, tyX8, rfl, u_in_X8, by decide, tb_mem 816 (by decide +kernel) (by decide +kernel), rfl, tyX8_ok, nmX8, fun h => absurd h (by decide), fun _ => rfl, rfl⟩
theorem f_X8_226 : FL RX8 226 7 24 false := ⟨RX8, TX8, tyX8, rfl, u_in_X8, by decide, tb_mem 817 (by decide +kernel) (by decide +kernel), rfl, tyX8_ok, nmX8, fun h => absurd h (by decide), fun _ => rfl, rfl⟩
theorem f_X8_229 : FL RX8 229 7 25 false := ⟨RX8, TX8, tyX8, rfl, u_in_X8, by decide, tb_mem 818 (by decide +kernel) (by decide +kernel), rfl, tyX8_ok, nmX8, fun h => absurd h (by decide), fun _ => rfl, rfl⟩
theorem f_X8_232 : FL RX8 232 7 26 false := ⟨RX8, TX8, tyX8, rfl, u_in_X8, by decide, tb_mem 819 (by decide +kernel) (by decide +kernel), rfl, tyX8_ok, nmX8, fun h => absurd h (by decide), fun _ => rfl, rfl⟩
theorem f_X8_235 : FL RX8 235 7 27 false := ⟨RX8, TX8, tyX8, rfl, u_in_X8, by decide, tb_mem 820 (by decide +kernel) (by decide +kernel), rfl, tyX8_ok, nmX8, fun h => absurd h (by decide), fun _ => rfl, rfl⟩
theorem f_X8_242 : FL RX8 242 7 30 false := ⟨RX8, TX8, tyX8, rfl, u_in_X8, by decide, tb_mem 823 (by decide +kernel) (by decide +kernel), rfl, tyX8_ok, nmX8, fun h => absurd h (by decide), fun _ => rfl, rfl⟩
theorem iz_J13 : Cond.initialized RJ13 ∈ TB := tb_mem 81 (by decide +kernel) (by decide +kernel)
theorem iz_J7 : Cond.initialized RJ7 ∈ TB := tb_mem 79 (by decide +kernel) (by decide +kernel)
theorem iz_X0 : Cond.initialized RX0 ∈ TB := tb_mem 74 (by decide +kernel) (by decide +kernel)
theorem iz_X1 : Cond.initialized RX1 ∈ TB := tb_mem 71 (by decide +kernel) (by decide +kernel)
theorem iz_X2 : Cond.initialized RX2 ∈ TB := tb_mem 73 (by decide +kernel) (by decide +kernel)
theorem iz_X3 : Cond.initialized RX3 ∈ TB := tb_mem 77 (by decide +kernel) (by decide +kernel)
theorem iz_X4 : Cond.initialized RX4 ∈ TB := tb_mem 80 (by decide +kernel) (by decide +kernel)
theorem iz_X5 : Cond.initialized RX5 ∈ TB := tb_mem 70 (by decide +kernel) (by decide +kernel)
theorem iz_X6 : Cond.initialized RX6 ∈ TB := tb_mem 72 (by decide +kernel) (by decide +kernel)
theorem iz_X7 : Cond.initialized RX7 ∈ TB := tb_mem 69 (by decide +kernel) (by decide +kernel)
theorem iz_X8 : Cond.initialized RX8 ∈ TB := tb_mem 75 (by decide +kernel) (by decide +kernel)
theorem w_X5_append : Cond.code yX5_append cX5_append 2 (some .boolean) ∈ TB := tb_mem 293 (by decide +kernel) (by decide +kernel)
theorem wi_X5_append : Cond.instanceMethod yX5_append ∈ TB := tb_mem 291 (by decide +kernel) (by decide +kernel)
theorem wx_X5_append : Cond.selects yX5_append.cls yX5_append yX5_append ∈ TB := tb_mem 292 (by decide +kernel) (by decide +kernel)
theorem w_X1_take : Cond.code yX1_take cX1_take 2 none ∈ TB := tb_mem 309 (by decide +kernel) (by decide +kernel)
theorem wi_X1_take : Cond.instanceMethod yX1_take ∈ TB := tb_mem 307 (by decide +kernel) (by decide +kernel)
theorem wx_X1_take : Cond.selects yX1_take.cls yX1_take yX1_take ∈ TB := tb_mem 308 (by decide +kernel) (by decide +kernel)
theorem w_X1_place : Cond.code yX1_place cX1_place 3 (some .int) ∈ TB := tb_mem 324 (by decide +kernel) (by decide +kernel)
theorem wi_X1_place : Cond.instanceMethod yX1_place ∈ TB := tb_mem 322 (by decide +kernel) (by decide +kernel)
theorem wx_X1_place : Cond.selects yX1_place.cls yX1_place yX1_place ∈ TB := tb_mem 323 (by decide +kernel) (by decide +kernel)
theorem w_X6_find : Cond.code yX6_find cX6_find 3 (some .int) ∈ TB := tb_mem 332 (by decide +kernel) (by decide +kernel)
theorem wi_X6_find : Cond.instanceMethod yX6_find ∈ TB := tb_mem 330 (by decide +kernel) (by decide +kernel)
theorem wx_X6_find : Cond.selects yX6_find.cls yX6_find yX6_find ∈ TB := tb_mem 331 (by decide +kernel) (by decide +kernel)
theorem w_X6_put : Cond.code yX6_put cX6_put 3 (some .boolean) ∈ TB := tb_mem 328 (by decide +kernel) (by decide +kernel)
theorem wi_X6_put : Cond.instanceMethod yX6_put ∈ TB := tb_mem 326 (by decide +kernel) (by decide +kernel)
theorem wx_X6_put : Cond.selects yX6_put.cls yX6_put yX6_put ∈ TB := tb_mem 327 (by decide +kernel) (by decide +kernel)
theorem w_X6_putWordsOf : Cond.code yX6_putWordsOf cX6_putWordsOf 5 none ∈ TB := tb_mem 320 (by decide +kernel) (by decide +kernel)
theorem wi_X6_putWordsOf : Cond.instanceMethod yX6_putWordsOf ∈ TB := tb_mem 319 (by decide +kernel) (by decide +kernel)
theorem wx_X6_putWordsOf : Cond.selects yX6_putWordsOf.cls yX6_putWordsOf yX6_putWordsOf ∈ TB := tb_mem 0 (by decide +kernel) (by decide +kernel)
theorem w_X6_gatherAll : Cond.code yX6_gatherAll cX6_gatherAll 3 none ∈ TB := tb_mem 316 (by decide +kernel) (by decide +kernel)
theorem wi_X6_gatherAll : Cond.instanceMethod yX6_gatherAll ∈ TB := tb_mem 314 (by decide +kernel) (by decide +kernel)
theorem wx_X6_gatherAll : Cond.selects yX6_gatherAll.cls yX6_gatherAll yX6_gatherAll ∈ TB := tb_mem 315 (by decide +kernel) (by decide +kernel)
theorem w_X5_advance : Cond.code yX5_advance cX5_advance 1 none ∈ TB := tb_mem 336 (by decide +kernel) (by decide +kernel)
theorem wi_X5_advance : Cond.instanceMethod yX5_advance ∈ TB := tb_mem 335 (by decide +kernel) (by decide +kernel)
theorem wx_X5_advance : Cond.selects yX5_advance.cls yX5_advance yX5_advance ∈ TB := tb_mem 1 (by decide +kernel) (by decide +kernel)
theorem w_X5_hasOpenQuery : Cond.code yX5_hasOpenQuery cX5_hasOpenQuery 1 (some .boolean) ∈ TB := tb_mem 355 (by decide +kernel) (by decide +kernel)
theorem wi_X5_hasOpenQuery : Cond.instanceMethod yX5_hasOpenQuery ∈ TB := tb_mem 354 (by decide +kernel) (by decide +kernel)
theorem wx_X5_hasOpenQuery : Cond.selects yX5_hasOpenQuery.cls yX5_hasOpenQuery yX5_hasOpenQuery ∈ TB := tb_mem 5 (by decide +kernel) (by decide +kernel)
theorem w_X1_partsOfLast : Cond.code yX1_partsOfLast cX1_partsOfLast 1 (some .int) ∈ TB := tb_mem 359 (by decide +kernel) (by decide +kernel)
theorem wi_X1_partsOfLast : Cond.instanceMethod yX1_partsOfLast ∈ TB := tb_mem 357 (by decide +kernel) (by decide +kernel)
theorem wx_X1_partsOfLast : Cond.selects yX1_partsOfLast.cls yX1_partsOfLast yX1_partsOfLast ∈ TB := tb_mem 358 (by decide +kernel) (by decide +kernel)
theorem w_X5_lacksParts : Cond.code yX5_lacksParts cX5_lacksParts 1 (some .boolean) ∈ TB := tb_mem 351 (by decide +kernel) (by decide +kernel)
theorem wi_X5_lacksParts : Cond.instanceMethod yX5_lacksParts ∈ TB := tb_mem 350 (by decide +kernel) (by decide +kernel)
theorem wx_X5_lacksParts : Cond.selects yX5_lacksParts.cls yX5_lacksParts yX5_lacksParts ∈ TB := tb_mem 4 (by decide +kernel) (by decide +kernel)
theorem w_X5_mayHavePart : Cond.code yX5_mayHavePart cX5_mayHavePart 1 (some .boolean) ∈ TB := tb_mem 375 (by decide +kernel) (by decide +kernel)
theorem wi_X5_mayHavePart : Cond.instanceMethod yX5_mayHavePart ∈ TB := tb_mem 374 (by decide +kernel) (by decide +kernel)
theorem wx_X5_mayHavePart : Cond.selects yX5_mayHavePart.cls yX5_mayHavePart yX5_mayHavePart ∈ TB := tb_mem 8 (by decide +kernel) (by decide +kernel)
theorem w_X5_readWord : Cond.code yX5_readWord cX5_readWord 3 (some .int) ∈ TB := tb_mem 379 (by decide +kernel) (by decide +kernel)
theorem wi_X5_readWord : Cond.instanceMethod yX5_readWord ∈ TB := tb_mem 378 (by decide +kernel) (by decide +kernel)
theorem wx_X5_readWord : Cond.selects yX5_readWord.cls yX5_readWord yX5_readWord ∈ TB := tb_mem 9 (by decide +kernel) (by decide +kernel)
theorem w_X1_addPart : Cond.code yX1_addPart cX1_addPart 6 none ∈ TB := tb_mem 393 (by decide +kernel) (by decide +kernel)
theorem wi_X1_addPart : Cond.instanceMethod yX1_addPart ∈ TB := tb_mem 391 (by decide +kernel) (by decide +kernel)
theorem wx_X1_addPart : Cond.selects yX1_addPart.cls yX1_addPart yX1_addPart ∈ TB := tb_mem 392 (by decide +kernel) (by decide +kernel)
theorem w_X5_readStop : Cond.code yX5_readStop cX5_readStop 1 (some .boolean) ∈ TB := tb_mem 367 (by decide +kernel) (by decide +kernel)
theorem wi_X5_readStop : Cond.instanceMethod yX5_readStop ∈ TB := tb_mem 366 (by decide +kernel) (by decide +kernel)
theorem wx_X5_readStop : Cond.selects yX5_readStop.cls yX5_readStop yX5_readStop ∈ TB := tb_mem 6 (by decide +kernel) (by decide +kernel)
theorem w_X5_readPart : Cond.code yX5_readPart cX5_readPart 3 (some .boolean) ∈ TB := tb_mem 371 (by decide +kernel) (by decide +kernel)
theorem wi_X5_readPart : Cond.instanceMethod yX5_readPart ∈ TB := tb_mem 370 (by decide +kernel) (by decide +kernel)
theorem wx_X5_readPart : Cond.selects yX5_readPart.cls yX5_readPart yX5_readPart ∈ TB := tb_mem 7 (by decide +kernel) (by decide +kernel)
theorem w_X1_lastHasNear : Cond.code yX1_lastHasNear cX1_lastHasNear 2 (some .boolean) ∈ TB := tb_mem 403 (by decide +kernel) (by decide +kernel)
theorem wi_X1_lastHasNear : Cond.instanceMethod yX1_lastHasNear ∈ TB := tb_mem 401 (by decide +kernel) (by decide +kernel)
theorem wx_X1_lastHasNear : Cond.selects yX1_lastHasNear.cls yX1_lastHasNear yX1_lastHasNear ∈ TB := tb_mem 402 (by decide +kernel) (by decide +kernel)
theorem w_X5_readNear : Cond.code yX5_readNear cX5_readNear 3 (some .boolean) ∈ TB := tb_mem 399 (by decide +kernel) (by decide +kernel)
theorem wi_X5_readNear : Cond.instanceMethod yX5_readNear ∈ TB := tb_mem 398 (by decide +kernel) (by decide +kernel)
theorem wx_X5_readNear : Cond.selects yX5_readNear.cls yX5_readNear yX5_readNear ∈ TB := tb_mem 10 (by decide +kernel) (by decide +kernel)
theorem w_X1_startQuery : Cond.code yX1_startQuery cX1_startQuery 1 (some .boolean) ∈ TB := tb_mem 363 (by decide +kernel) (by decide +kernel)
theorem wi_X1_startQuery : Cond.instanceMethod yX1_startQuery ∈ TB := tb_mem 361 (by decide +kernel) (by decide +kernel)
theorem wx_X1_startQuery : Cond.selects yX1_startQuery.cls yX1_startQuery yX1_startQuery ∈ TB := tb_mem 362 (by decide +kernel) (by decide +kernel)
theorem w_X5_readQuery : Cond.code yX5_readQuery cX5_readQuery 1 (some .boolean) ∈ TB := tb_mem 347 (by decide +kernel) (by decide +kernel)
theorem wi_X5_readQuery : Cond.instanceMethod yX5_readQuery ∈ TB := tb_mem 346 (by decide +kernel) (by decide +kernel)
theorem wx_X5_readQuery : Cond.selects yX5_readQuery.cls yX5_readQuery yX5_readQuery ∈ TB := tb_mem 3 (by decide +kernel) (by decide +kernel)
theorem w_X5_readItem : Cond.code yX5_readItem cX5_readItem 1 (some .boolean) ∈ TB := tb_mem 343 (by decide +kernel) (by decide +kernel)
theorem wi_X5_readItem : Cond.instanceMethod yX5_readItem ∈ TB := tb_mem 342 (by decide +kernel) (by decide +kernel)
theorem wx_X5_readItem : Cond.selects yX5_readItem.cls yX5_readItem yX5_readItem ∈ TB := tb_mem 2 (by decide +kernel) (by decide +kernel)
theorem w_X5_readBehind : Cond.code yX5_readBehind cX5_readBehind 3 (some .int) ∈ TB := tb_mem 305 (by decide +kernel) (by decide +kernel)
theorem wi_X5_readBehind : Cond.instanceMethod yX5_readBehind ∈ TB := tb_mem 303 (by decide +kernel) (by decide +kernel)
theorem wx_X5_readBehind : Cond.selects yX5_readBehind.cls yX5_readBehind yX5_readBehind ∈ TB := tb_mem 304 (by decide +kernel) (by decide +kernel)
theorem w_X2_push : Cond.code yX2_push cX2_push 3 none ∈ TB := tb_mem 407 (by decide +kernel) (by decide +kernel)
theorem wi_X2_push : Cond.instanceMethod yX2_push ∈ TB := tb_mem 405 (by decide +kernel) (by decide +kernel)
theorem wx_X2_push : Cond.selects yX2_push.cls yX2_push yX2_push ∈ TB := tb_mem 406 (by decide +kernel) (by decide +kernel)
theorem w_X0_link : Cond.code yX0_link cX0_link 5 none ∈ TB := tb_mem 449 (by decide +kernel) (by decide +kernel)
theorem wi_X0_link : Cond.instanceMethod yX0_link ∈ TB := tb_mem 448 (by decide +kernel) (by decide +kernel)
theorem wx_X0_link : Cond.selects yX0_link.cls yX0_link yX0_link ∈ TB := tb_mem 14 (by decide +kernel) (by decide +kernel)
theorem w_X0_addNode : Cond.code yX0_addNode cX0_addNode 4 none ∈ TB := tb_mem 445 (by decide +kernel) (by decide +kernel)
theorem wi_X0_addNode : Cond.instanceMethod yX0_addNode ∈ TB := tb_mem 444 (by decide +kernel) (by decide +kernel)
theorem wx_X0_addNode : Cond.selects yX0_addNode.cls yX0_addNode yX0_addNode ∈ TB := tb_mem 13 (by decide +kernel) (by decide +kernel)
theorem w_X0_growTo : Cond.code yX0_growTo cX0_growTo 7 none ∈ TB := tb_mem 429 (by decide +kernel) (by decide +kernel)
theorem wi_X0_growTo : Cond.instanceMethod yX0_growTo ∈ TB := tb_mem 428 (by decide +kernel) (by decide +kernel)
theorem wx_X0_growTo : Cond.selects yX0_growTo.cls yX0_growTo yX0_growTo ∈ TB := tb_mem 12 (by decide +kernel) (by decide +kernel)
theorem w_X0_build : Cond.code yX0_build cX0_build 3 none ∈ TB := tb_mem 422 (by decide +kernel) (by decide +kernel)
theorem wi_X0_build : Cond.instanceMethod yX0_build ∈ TB := tb_mem 420 (by decide +kernel) (by decide +kernel)
theorem wx_X0_build : Cond.selects yX0_build.cls yX0_build yX0_build ∈ TB := tb_mem 421 (by decide +kernel) (by decide +kernel)
theorem w_X7_walk : Cond.code yX7_walk cX7_walk 4 none ∈ TB := tb_mem 453 (by decide +kernel) (by decide +kernel)
theorem wi_X7_walk : Cond.instanceMethod yX7_walk ∈ TB := tb_mem 452 (by decide +kernel) (by decide +kernel)
theorem wx_X7_walk : Cond.selects yX7_walk.cls yX7_walk yX7_walk ∈ TB := tb_mem 15 (by decide +kernel) (by decide +kernel)
theorem w_X7_rebuild : Cond.code yX7_rebuild cX7_rebuild 1 none ∈ TB := tb_mem 417 (by decide +kernel) (by decide +kernel)
theorem wi_X7_rebuild : Cond.instanceMethod yX7_rebuild ∈ TB := tb_mem 416 (by decide +kernel) (by decide +kernel)
theorem wx_X7_rebuild : Cond.selects yX7_rebuild.cls yX7_rebuild yX7_rebuild ∈ TB := tb_mem 11 (by decide +kernel) (by decide +kernel)
theorem w_X7_isQuery : Cond.code yX7_isQuery cX7_isQuery 2 (some .boolean) ∈ TB := tb_mem 464 (by decide +kernel) (by decide +kernel)
theorem wi_X7_isQuery : Cond.instanceMethod yX7_isQuery ∈ TB := tb_mem 463 (by decide +kernel) (by decide +kernel)
theorem wx_X7_isQuery : Cond.selects yX7_isQuery.cls yX7_isQuery yX7_isQuery ∈ TB := tb_mem 16 (by decide +kernel) (by decide +kernel)
theorem w_X1_movePart : Cond.code yX1_movePart cX1_movePart 3 none ∈ TB := tb_mem 472 (by decide +kernel) (by decide +kernel)
theorem wi_X1_movePart : Cond.instanceMethod yX1_movePart ∈ TB := tb_mem 471 (by decide +kernel) (by decide +kernel)
theorem wx_X1_movePart : Cond.selects yX1_movePart.cls yX1_movePart yX1_movePart ∈ TB := tb_mem 17 (by decide +kernel) (by decide +kernel)
theorem w_X1_dropQuery : Cond.code yX1_dropQuery cX1_dropQuery 4 none ∈ TB := tb_mem 468 (by decide +kernel) (by decide +kernel)
theorem wi_X1_dropQuery : Cond.instanceMethod yX1_dropQuery ∈ TB := tb_mem 466 (by decide +kernel) (by decide +kernel)
theorem wx_X1_dropQuery : Cond.selects yX1_dropQuery.cls yX1_dropQuery yX1_dropQuery ∈ TB := tb_mem 467 (by decide +kernel) (by decide +kernel)
theorem w_X2_popInto : Cond.code yX2_popInto cX2_popInto 3 (some .boolean) ∈ TB := tb_mem 489 (by decide +kernel) (by decide +kernel)
theorem wi_X2_popInto : Cond.instanceMethod yX2_popInto ∈ TB := tb_mem 487 (by decide +kernel) (by decide +kernel)
theorem wx_X2_popInto : Cond.selects yX2_popInto.cls yX2_popInto yX2_popInto ∈ TB := tb_mem 488 (by decide +kernel) (by decide +kernel)
theorem w_X7_hitsOf : Cond.code yX7_hitsOf cX7_hitsOf 3 (some .long) ∈ TB := tb_mem 506 (by decide +kernel) (by decide +kernel)
theorem wi_X7_hitsOf : Cond.instanceMethod yX7_hitsOf ∈ TB := tb_mem 505 (by decide +kernel) (by decide +kernel)
theorem wx_X7_hitsOf : Cond.selects yX7_hitsOf.cls yX7_hitsOf yX7_hitsOf ∈ TB := tb_mem 20 (by decide +kernel) (by decide +kernel)
theorem w_X7_holds : Cond.code yX7_holds cX7_holds 5 (some .boolean) ∈ TB := tb_mem 502 (by decide +kernel) (by decide +kernel)
theorem wi_X7_holds : Cond.instanceMethod yX7_holds ∈ TB := tb_mem 501 (by decide +kernel) (by decide +kernel)
theorem wx_X7_holds : Cond.selects yX7_holds.cls yX7_holds yX7_holds ∈ TB := tb_mem 19 (by decide +kernel) (by decide +kernel)
theorem w_X7_matches : Cond.code yX7_matches cX7_matches 4 (some .boolean) ∈ TB := tb_mem 497 (by decide +kernel) (by decide +kernel)
theorem wi_X7_matches : Cond.instanceMethod yX7_matches ∈ TB := tb_mem 496 (by decide +kernel) (by decide +kernel)
theorem wx_X7_matches : Cond.selects yX7_matches.cls yX7_matches yX7_matches ∈ TB := tb_mem 18 (by decide +kernel) (by decide +kernel)
theorem w_X7_since : Cond.code yX7_since cX7_since 3 (some .int) ∈ TB := tb_mem 514 (by decide +kernel) (by decide +kernel)
theorem wi_X7_since : Cond.instanceMethod yX7_since ∈ TB := tb_mem 513 (by decide +kernel) (by decide +kernel)
theorem wx_X7_since : Cond.selects yX7_since.cls yX7_since yX7_since ∈ TB := tb_mem 21 (by decide +kernel) (by decide +kernel)
theorem w_X7_keyOf : Cond.code yX7_keyOf cX7_keyOf 5 (some .int) ∈ TB := tb_mem 518 (by decide +kernel) (by decide +kernel)
theorem wi_X7_keyOf : Cond.instanceMethod yX7_keyOf ∈ TB := tb_mem 517 (by decide +kernel) (by decide +kernel)
theorem wx_X7_keyOf : Cond.selects yX7_keyOf.cls yX7_keyOf yX7_keyOf ∈ TB := tb_mem 22 (by decide +kernel) (by decide +kernel)
theorem w_X7_isAsked : Cond.code yX7_isAsked cX7_isAsked 3 (some .boolean) ∈ TB := tb_mem 526 (by decide +kernel) (by decide +kernel)
theorem wi_X7_isAsked : Cond.instanceMethod yX7_isAsked ∈ TB := tb_mem 525 (by decide +kernel) (by decide +kernel)
theorem wx_X7_isAsked : Cond.selects yX7_isAsked.cls yX7_isAsked yX7_isAsked ∈ TB := tb_mem 23 (by decide +kernel) (by decide +kernel)
theorem w_X6_gatherOne : Cond.code yX6_gatherOne cX6_gatherOne 3 none ∈ TB := tb_mem 596 (by decide +kernel) (by decide +kernel)
theorem wi_X6_gatherOne : Cond.instanceMethod yX6_gatherOne ∈ TB := tb_mem 594 (by decide +kernel) (by decide +kernel)
theorem wx_X6_gatherOne : Cond.selects yX6_gatherOne.cls yX6_gatherOne yX6_gatherOne ∈ TB := tb_mem 595 (by decide +kernel) (by decide +kernel)
theorem w_X4_markNodes : Cond.code yX4_markNodes cX4_markNodes 5 none ∈ TB := tb_mem 603 (by decide +kernel) (by decide +kernel)
theorem wi_X4_markNodes : Cond.instanceMethod yX4_markNodes ∈ TB := tb_mem 602 (by decide +kernel) (by decide +kernel)
theorem wx_X4_markNodes : Cond.selects yX4_markNodes.cls yX4_markNodes yX4_markNodes ∈ TB := tb_mem 25 (by decide +kernel) (by decide +kernel)
theorem w_X4_prepare : Cond.code yX4_prepare cX4_prepare 6 none ∈ TB := tb_mem 592 (by decide +kernel) (by decide +kernel)
theorem wi_X4_prepare : Cond.instanceMethod yX4_prepare ∈ TB := tb_mem 590 (by decide +kernel) (by decide +kernel)
theorem wx_X4_prepare : Cond.selects yX4_prepare.cls yX4_prepare yX4_prepare ∈ TB := tb_mem 591 (by decide +kernel) (by decide +kernel)
theorem w_X7_searchFor : Cond.code yX7_searchFor cX7_searchFor 3 (some (.object RX4)) ∈ TB := tb_mem 538 (by decide +kernel) (by decide +kernel)
theorem wi_X7_searchFor : Cond.instanceMethod yX7_searchFor ∈ TB := tb_mem 537 (by decide +kernel) (by decide +kernel)
theorem wx_X7_searchFor : Cond.selects yX7_searchFor.cls yX7_searchFor yX7_searchFor ∈ TB := tb_mem 24 (by decide +kernel) (by decide +kernel)
theorem w_X4_isMatch : Cond.code yX4_isMatch cX4_isMatch 2 (some .boolean) ∈ TB := tb_mem 613 (by decide +kernel) (by decide +kernel)
theorem wi_X4_isMatch : Cond.instanceMethod yX4_isMatch ∈ TB := tb_mem 612 (by decide +kernel) (by decide +kernel)
theorem wx_X4_isMatch : Cond.selects yX4_isMatch.cls yX4_isMatch yX4_isMatch ∈ TB := tb_mem 26 (by decide +kernel) (by decide +kernel)
theorem w_X4_stepNear : Cond.code yX4_stepNear cX4_stepNear 3 (some .int) ∈ TB := tb_mem 625 (by decide +kernel) (by decide +kernel)
theorem wi_X4_stepNear : Cond.instanceMethod yX4_stepNear ∈ TB := tb_mem 624 (by decide +kernel) (by decide +kernel)
theorem wx_X4_stepNear : Cond.selects yX4_stepNear.cls yX4_stepNear yX4_stepNear ∈ TB := tb_mem 29 (by decide +kernel) (by decide +kernel)
theorem w_X4_step : Cond.code yX4_step cX4_step 8 (some .int) ∈ TB := tb_mem 621 (by decide +kernel) (by decide +kernel)
theorem wi_X4_step : Cond.instanceMethod yX4_step ∈ TB := tb_mem 620 (by decide +kernel) (by decide +kernel)
theorem wx_X4_step : Cond.selects yX4_step.cls yX4_step yX4_step ∈ TB := tb_mem 28 (by decide +kernel) (by decide +kernel)
theorem w_X4_spread : Cond.code yX4_spread cX4_spread 6 (some .int) ∈ TB := tb_mem 617 (by decide +kernel) (by decide +kernel)
theorem wi_X4_spread : Cond.instanceMethod yX4_spread ∈ TB := tb_mem 616 (by decide +kernel) (by decide +kernel)
theorem wx_X4_spread : Cond.selects yX4_spread.cls yX4_spread yX4_spread ∈ TB := tb_mem 27 (by decide +kernel) (by decide +kernel)
theorem w_X4_fewestFrom : Cond.code yX4_fewestFrom cX4_fewestFrom 6 (some .int) ∈ TB := tb_mem 609 (by decide +kernel) (by decide +kernel)
theorem wi_X4_fewestFrom : Cond.instanceMethod yX4_fewestFrom ∈ TB := tb_mem 607 (by decide +kernel) (by decide +kernel)
theorem wx_X4_fewestFrom : Cond.selects yX4_fewestFrom.cls yX4_fewestFrom yX4_fewestFrom ∈ TB := tb_mem 608 (by decide +kernel) (by decide +kernel)
theorem w_X4_letterOfRow : Cond.code yX4_letterOfRow cX4_letterOfRow 5 (some .int) ∈ TB := tb_mem 629 (by decide +kernel) (by decide +kernel)
theorem wi_X4_letterOfRow : Cond.instanceMethod yX4_letterOfRow ∈ TB := tb_mem 627 (by decide +kernel) (by decide +kernel)
theorem wx_X4_letterOfRow : Cond.selects yX4_letterOfRow.cls yX4_letterOfRow yX4_letterOfRow ∈ TB := tb_mem 628 (by decide +kernel) (by decide +kernel)
theorem w_X4_stateBehind : Cond.code yX4_stateBehind cX4_stateBehind 4 (some .int) ∈ TB := tb_mem 638 (by decide +kernel) (by decide +kernel)
theorem wi_X4_stateBehind : Cond.instanceMethod yX4_stateBehind ∈ TB := tb_mem 636 (by decide +kernel) (by decide +kernel)
theorem wx_X4_stateBehind : Cond.selects yX4_stateBehind.cls yX4_stateBehind yX4_stateBehind ∈ TB := tb_mem 637 (by decide +kernel) (by decide +kernel)
theorem w_X4_lengthenRows : Cond.code yX4_lengthenRows cX4_lengthenRows 4 none ∈ TB := tb_mem 651 (by decide +kernel) (by decide +kernel)
theorem wi_X4_lengthenRows : Cond.instanceMethod yX4_lengthenRows ∈ TB := tb_mem 650 (by decide +kernel) (by decide +kernel)
theorem wx_X4_lengthenRows : Cond.selects yX4_lengthenRows.cls yX4_lengthenRows yX4_lengthenRows ∈ TB := tb_mem 30 (by decide +kernel) (by decide +kernel)
theorem w_X4_rowsOf : Cond.code yX4_rowsOf cX4_rowsOf 5 (some .long) ∈ TB := tb_mem 647 (by decide +kernel) (by decide +kernel)
theorem wi_X4_rowsOf : Cond.instanceMethod yX4_rowsOf ∈ TB := tb_mem 645 (by decide +kernel) (by decide +kernel)
theorem wx_X4_rowsOf : Cond.selects yX4_rowsOf.cls yX4_rowsOf yX4_rowsOf ∈ TB := tb_mem 646 (by decide +kernel) (by decide +kernel)
theorem w_X7_isWord : Cond.code yX7_isWord cX7_isWord 2 (some .boolean) ∈ TB := tb_mem 659 (by decide +kernel) (by decide +kernel)
theorem wi_X7_isWord : Cond.instanceMethod yX7_isWord ∈ TB := tb_mem 658 (by decide +kernel) (by decide +kernel)
theorem wx_X7_isWord : Cond.selects yX7_isWord.cls yX7_isWord yX7_isWord ∈ TB := tb_mem 31 (by decide +kernel) (by decide +kernel)
theorem w_X7_isNode : Cond.code yX7_isNode cX7_isNode 2 (some .boolean) ∈ TB := tb_mem 681 (by decide +kernel) (by decide +kernel)
theorem wi_X7_isNode : Cond.instanceMethod yX7_isNode ∈ TB := tb_mem 680 (by decide +kernel) (by decide +kernel)
theorem wx_X7_isNode : Cond.selects yX7_isNode.cls yX7_isNode yX7_isNode ∈ TB := tb_mem 32 (by decide +kernel) (by decide +kernel)
theorem w_X7_matching : Cond.code yX7_matching cX7_matching 4 (some .int) ∈ TB := tb_mem 697 (by decide +kernel) (by decide +kernel)
theorem wi_X7_matching : Cond.instanceMethod yX7_matching ∈ TB := tb_mem 696 (by decide +kernel) (by decide +kernel)
theorem wx_X7_matching : Cond.selects yX7_matching.cls yX7_matching yX7_matching ∈ TB := tb_mem 33 (by decide +kernel) (by decide +kernel)
theorem w_X7_withoutLast : Cond.code yX7_withoutLast cX7_withoutLast 1 (some .int) ∈ TB := tb_mem 701 (by decide +kernel) (by decide +kernel)
theorem wi_X7_withoutLast : Cond.instanceMethod yX7_withoutLast ∈ TB := tb_mem 700 (by decide +kernel) (by decide +kernel)
theorem wx_X7_withoutLast : Cond.selects yX7_withoutLast.cls yX7_withoutLast yX7_withoutLast ∈ TB := tb_mem 34 (by decide +kernel) (by decide +kernel)
theorem w_X7_asked : Cond.code yX7_asked cX7_asked 3 (some .int) ∈ TB := tb_mem 706 (by decide +kernel) (by decide +kernel)
theorem wi_X7_asked : Cond.instanceMethod yX7_asked ∈ TB := tb_mem 705 (by decide +kernel) (by decide +kernel)
theorem wx_X7_asked : Cond.selects yX7_asked.cls yX7_asked yX7_asked ∈ TB := tb_mem 35 (by decide +kernel) (by decide +kernel)
theorem w_X7_allHits : Cond.code yX7_allHits cX7_allHits 3 (some .int) ∈ TB := tb_mem 710 (by decide +kernel) (by decide +kernel)
theorem wi_X7_allHits : Cond.instanceMethod yX7_allHits ∈ TB := tb_mem 709 (by decide +kernel) (by decide +kernel)
theorem wx_X7_allHits : Cond.selects yX7_allHits.cls yX7_allHits yX7_allHits ∈ TB := tb_mem 36 (by decide +kernel) (by decide +kernel)
theorem w_X2_forget : Cond.code yX2_forget cX2_forget 1 none ∈ TB := tb_mem 722 (by decide +kernel) (by decide +kernel)
theorem wi_X2_forget : Cond.instanceMethod yX2_forget ∈ TB := tb_mem 720 (by decide +kernel) (by decide +kernel)
theorem wx_X2_forget : Cond.selects yX2_forget.cls yX2_forget yX2_forget ∈ TB := tb_mem 721 (by decide +kernel) (by decide +kernel)
theorem w_X8_byteAt : Cond.code yX8_byteAt cX8_byteAt 2 (some .int) ∈ TB := tb_mem 902 (by decide +kernel) (by decide +kernel)
theorem wi_X8_byteAt : Cond.instanceMethod yX8_byteAt ∈ TB := tb_mem 901 (by decide +kernel) (by decide +kernel)
theorem wx_X8_byteAt : Cond.selects yX8_byteAt.cls yX8_byteAt yX8_byteAt ∈ TB := tb_mem 44 (by decide +kernel) (by decide +kernel)
theorem w_X8_addWord : Cond.code yX8_addWord cX8_addWord 4 none ∈ TB := tb_mem 762 (by decide +kernel) (by decide +kernel)
theorem wi_X8_addWord : Cond.instanceMethod yX8_addWord ∈ TB := tb_mem 761 (by decide +kernel) (by decide +kernel)
theorem wx_X8_addWord : Cond.selects yX8_addWord.cls yX8_addWord yX8_addWord ∈ TB := tb_mem 39 (by decide +kernel) (by decide +kernel)
theorem w_X8_nodeOf : Cond.code yX8_nodeOf cX8_nodeOf 3 (some .int) ∈ TB := tb_mem 788 (by decide +kernel) (by decide +kernel)
theorem wi_X8_nodeOf : Cond.instanceMethod yX8_nodeOf ∈ TB := tb_mem 787 (by decide +kernel) (by decide +kernel)
theorem wx_X8_nodeOf : Cond.selects yX8_nodeOf.cls yX8_nodeOf yX8_nodeOf ∈ TB := tb_mem 42 (by decide +kernel) (by decide +kernel)
theorem w_X8_layWords : Cond.code yX8_layWords cX8_layWords 4 none ∈ TB := tb_mem 752 (by decide +kernel) (by decide +kernel)
theorem wi_X8_layWords : Cond.instanceMethod yX8_layWords ∈ TB := tb_mem 751 (by decide +kernel) (by decide +kernel)
theorem wx_X8_layWords : Cond.selects yX8_layWords.cls yX8_layWords yX8_layWords ∈ TB := tb_mem 38 (by decide +kernel) (by decide +kernel)
theorem w_X8_addNode : Cond.code yX8_addNode cX8_addNode 4 none ∈ TB := tb_mem 773 (by decide +kernel) (by decide +kernel)
theorem wi_X8_addNode : Cond.instanceMethod yX8_addNode ∈ TB := tb_mem 772 (by decide +kernel) (by decide +kernel)
theorem wx_X8_addNode : Cond.selects yX8_addNode.cls yX8_addNode yX8_addNode ∈ TB := tb_mem 40 (by decide +kernel) (by decide +kernel)
theorem w_X8_longest : Cond.code yX8_longest cX8_longest 5 (some .int) ∈ TB := tb_mem 781 (by decide +kernel) (by decide +kernel)
theorem wi_X8_longest : Cond.instanceMethod yX8_longest ∈ TB := tb_mem 780 (by decide +kernel) (by decide +kernel)
theorem wx_X8_longest : Cond.selects yX8_longest.cls yX8_longest yX8_longest ∈ TB := tb_mem 41 (by decide +kernel) (by decide +kernel)
theorem w_X8_make : Cond.code yX8_make cX8_make 5 none ∈ TB := tb_mem 748 (by decide +kernel) (by decide +kernel)
theorem wi_X8_make : Cond.instanceMethod yX8_make ∈ TB := tb_mem 747 (by decide +kernel) (by decide +kernel)
theorem wx_X8_make : Cond.selects yX8_make.cls yX8_make yX8_make ∈ TB := tb_mem 37 (by decide +kernel) (by decide +kernel)
theorem w_X8_step : Cond.code yX8_step cX8_step 2 none ∈ TB := tb_mem 898 (by decide +kernel) (by decide +kernel)
theorem wi_X8_step : Cond.instanceMethod yX8_step ∈ TB := tb_mem 897 (by decide +kernel) (by decide +kernel)
theorem wx_X8_step : Cond.selects yX8_step.cls yX8_step yX8_step ∈ TB := tb_mem 43 (by decide +kernel) (by decide +kernel)
theorem w_X8_readWord : Cond.code yX8_readWord cX8_readWord 4 (some .int) ∈ TB := tb_mem 930 (by decide +kernel) (by decide +kernel)
theorem wi_X8_readWord : Cond.instanceMethod yX8_readWord ∈ TB := tb_mem 929 (by decide +kernel) (by decide +kernel)
theorem wx_X8_readWord : Cond.selects yX8_readWord.cls yX8_readWord yX8_readWord ∈ TB := tb_mem 50 (by decide +kernel) (by decide +kernel)
theorem w_X8_isName : Cond.code yX8_isName cX8_isName 2 (some .boolean) ∈ TB := tb_mem 914 (by decide +kernel) (by decide +kernel)
theorem wi_X8_isName : Cond.instanceMethod yX8_isName ∈ TB := tb_mem 913 (by decide +kernel) (by decide +kernel)
theorem wx_X8_isName : Cond.selects yX8_isName.cls yX8_isName yX8_isName ∈ TB := tb_mem 46 (by decide +kernel) (by decide +kernel)
theorem w_X8_readPart : Cond.code yX8_readPart cX8_readPart 7 (some .boolean) ∈ TB := tb_mem 926 (by decide +kernel) (by decide +kernel)
theorem wi_X8_readPart : Cond.instanceMethod yX8_readPart ∈ TB := tb_mem 925 (by decide +kernel) (by decide +kernel)
theorem wx_X8_readPart : Cond.selects yX8_readPart.cls yX8_readPart yX8_readPart ∈ TB := tb_mem 49 (by decide +kernel) (by decide +kernel)
theorem w_X8_hasNear : Cond.code yX8_hasNear cX8_hasNear 4 (some .boolean) ∈ TB := tb_mem 922 (by decide +kernel) (by decide +kernel)
theorem wi_X8_hasNear : Cond.instanceMethod yX8_hasNear ∈ TB := tb_mem 921 (by decide +kernel) (by decide +kernel)
theorem wx_X8_hasNear : Cond.selects yX8_hasNear.cls yX8_hasNear yX8_hasNear ∈ TB := tb_mem 48 (by decide +kernel) (by decide +kernel)
theorem w_X8_isWhole : Cond.code yX8_isWhole cX8_isWhole 1 (some .boolean) ∈ TB := tb_mem 918 (by decide +kernel) (by decide +kernel)
theorem wi_X8_isWhole : Cond.instanceMethod yX8_isWhole ∈ TB := tb_mem 917 (by decide +kernel) (by decide +kernel)
theorem wx_X8_isWhole : Cond.selects yX8_isWhole.cls yX8_isWhole yX8_isWhole ∈ TB := tb_mem 47 (by decide +kernel) (by decide +kernel)
theorem w_X8_keepAct : Cond.code yX8_keepAct cX8_keepAct 2 none ∈ TB := tb_mem 935 (by decide +kernel) (by decide +kernel)
theorem wi_X8_keepAct : Cond.instanceMethod yX8_keepAct ∈ TB := tb_mem 934 (by decide +kernel) (by decide +kernel)
theorem wx_X8_keepAct : Cond.selects yX8_keepAct.cls yX8_keepAct yX8_keepAct ∈ TB := tb_mem 51 (by decide +kernel) (by decide +kernel)
theorem w_X8_readItem : Cond.code yX8_readItem cX8_readItem 3 (some .boolean) ∈ TB := tb_mem 910 (by decide +kernel) (by decide +kernel)
theorem wi_X8_readItem : Cond.instanceMethod yX8_readItem ∈ TB := tb_mem 909 (by decide +kernel) (by decide +kernel)
theorem wx_X8_readItem : Cond.selects yX8_readItem.cls yX8_readItem yX8_readItem ∈ TB := tb_mem 45 (by decide +kernel) (by decide +kernel)
theorem w_X8_isQuery : Cond.code yX8_isQuery cX8_isQuery 2 (some .boolean) ∈ TB := tb_mem 943 (by decide +kernel) (by decide +kernel)
theorem wi_X8_isQuery : Cond.instanceMethod yX8_isQuery ∈ TB := tb_mem 942 (by decide +kernel) (by decide +kernel)
theorem wx_X8_isQuery : Cond.selects yX8_isQuery.cls yX8_isQuery yX8_isQuery ∈ TB := tb_mem 52 (by decide +kernel) (by decide +kernel)
theorem w_X8_nodeAt : Cond.code yX8_nodeAt cX8_nodeAt 4 (some .int) ∈ TB := tb_mem 952 (by decide +kernel) (by decide +kernel)
theorem wi_X8_nodeAt : Cond.instanceMethod yX8_nodeAt ∈ TB := tb_mem 951 (by decide +kernel) (by decide +kernel)
theorem wx_X8_nodeAt : Cond.selects yX8_nodeAt.cls yX8_nodeAt yX8_nodeAt ∈ TB := tb_mem 53 (by decide +kernel) (by decide +kernel)
theorem w_X8_numberOf : Cond.code yX8_numberOf cX8_numberOf 3 (some .int) ∈ TB := tb_mem 980 (by decide +kernel) (by decide +kernel)
theorem wi_X8_numberOf : Cond.instanceMethod yX8_numberOf ∈ TB := tb_mem 979 (by decide +kernel) (by decide +kernel)
theorem wx_X8_numberOf : Cond.selects yX8_numberOf.cls yX8_numberOf yX8_numberOf ∈ TB := tb_mem 57 (by decide +kernel) (by decide +kernel)
theorem w_X8_hits : Cond.code yX8_hits cX8_hits 5 (some .int) ∈ TB := tb_mem 984 (by decide +kernel) (by decide +kernel)
theorem wi_X8_hits : Cond.instanceMethod yX8_hits ∈ TB := tb_mem 983 (by decide +kernel) (by decide +kernel)
theorem wx_X8_hits : Cond.selects yX8_hits.cls yX8_hits yX8_hits ∈ TB := tb_mem 58 (by decide +kernel) (by decide +kernel)
theorem w_X8_holds : Cond.code yX8_holds cX8_holds 10 (some .boolean) ∈ TB := tb_mem 976 (by decide +kernel) (by decide +kernel)
theorem wi_X8_holds : Cond.instanceMethod yX8_holds ∈ TB := tb_mem 975 (by decide +kernel) (by decide +kernel)
theorem wx_X8_holds : Cond.selects yX8_holds.cls yX8_holds yX8_holds ∈ TB := tb_mem 56 (by decide +kernel) (by decide +kernel)
theorem w_X8_matches : Cond.code yX8_matches cX8_matches 5 (some .boolean) ∈ TB := tb_mem 972 (by decide +kernel) (by decide +kernel)
theorem wi_X8_matches : Cond.instanceMethod yX8_matches ∈ TB := tb_mem 971 (by decide +kernel) (by decide +kernel)
theorem wx_X8_matches : Cond.selects yX8_matches.cls yX8_matches yX8_matches ∈ TB := tb_mem 55 (by decide +kernel) (by decide +kernel)
theorem w_X8_key : Cond.code yX8_key cX8_key 6 (some .int) ∈ TB := tb_mem 995 (by decide +kernel) (by decide +kernel)
theorem wi_X8_key : Cond.instanceMethod yX8_key ∈ TB := tb_mem 994 (by decide +kernel) (by decide +kernel)
theorem wx_X8_key : Cond.selects yX8_key.cls yX8_key yX8_key ∈ TB := tb_mem 60 (by decide +kernel) (by decide +kernel)
theorem w_X8_layEnds : Cond.code yX8_layEnds cX8_layEnds 3 none ∈ TB := tb_mem 968 (by decide +kernel) (by decide +kernel)
theorem wi_X8_layEnds : Cond.instanceMethod yX8_layEnds ∈ TB := tb_mem 967 (by decide +kernel) (by decide +kernel)
theorem wx_X8_layEnds : Cond.selects yX8_layEnds.cls yX8_layEnds yX8_layEnds ∈ TB := tb_mem 54 (by decide +kernel) (by decide +kernel)
theorem w_X8_since : Cond.code yX8_since cX8_since 3 (some .int) ∈ TB := tb_mem 991 (by decide +kernel) (by decide +kernel)
theorem wi_X8_since : Cond.instanceMethod yX8_since ∈ TB := tb_mem 990 (by decide +kernel) (by decide +kernel)
theorem wx_X8_since : Cond.selects yX8_since.cls yX8_since yX8_since ∈ TB := tb_mem 59 (by decide +kernel) (by decide +kernel)
theorem w_X8_isAsked : Cond.code yX8_isAsked cX8_isAsked 3 (some .boolean) ∈ TB := tb_mem 999 (by decide +kernel) (by decide +kernel)
theorem wi_X8_isAsked : Cond.instanceMethod yX8_isAsked ∈ TB := tb_mem 998 (by decide +kernel) (by decide +kernel)
theorem wx_X8_isAsked : Cond.selects yX8_isAsked.cls yX8_isAsked yX8_isAsked ∈ TB := tb_mem 61 (by decide +kernel) (by decide +kernel)
theorem w_X8_isDone : Cond.code yX8_isDone cX8_isDone 2 (some .boolean) ∈ TB := tb_mem 1026 (by decide +kernel) (by decide +kernel)
theorem wi_X8_isDone : Cond.instanceMethod yX8_isDone ∈ TB := tb_mem 1025 (by decide +kernel) (by decide +kernel)
theorem wx_X8_isDone : Cond.selects yX8_isDone.cls yX8_isDone yX8_isDone ∈ TB := tb_mem 65 (by decide +kernel) (by decide +kernel)
theorem w_X8_behind : Cond.code yX8_behind cX8_behind 8 (some .int) ∈ TB := tb_mem 1031 (by decide +kernel) (by decide +kernel)
theorem wi_X8_behind : Cond.instanceMethod yX8_behind ∈ TB := tb_mem 1030 (by decide +kernel) (by decide +kernel)
theorem wx_X8_behind : Cond.selects yX8_behind.cls yX8_behind yX8_behind ∈ TB := tb_mem 66 (by decide +kernel) (by decide +kernel)
theorem w_X8_takes : Cond.code yX8_takes cX8_takes 5 none ∈ TB := tb_mem 1011 (by decide +kernel) (by decide +kernel)
theorem wi_X8_takes : Cond.instanceMethod yX8_takes ∈ TB := tb_mem 1010 (by decide +kernel) (by decide +kernel)
theorem wx_X8_takes : Cond.selects yX8_takes.cls yX8_takes yX8_takes ∈ TB := tb_mem 62 (by decide +kernel) (by decide +kernel)
theorem w_X8_begins : Cond.code yX8_begins cX8_begins 1 (some .int) ∈ TB := tb_mem 1015 (by decide +kernel) (by decide +kernel)
theorem wi_X8_begins : Cond.instanceMethod yX8_begins ∈ TB := tb_mem 1014 (by decide +kernel) (by decide +kernel)
theorem wx_X8_begins : Cond.selects yX8_begins.cls yX8_begins yX8_begins ∈ TB := tb_mem 63 (by decide +kernel) (by decide +kernel)
theorem w_X8_nearest : Cond.code yX8_nearest cX8_nearest 9 (some .int) ∈ TB := tb_mem 1022 (by decide +kernel) (by decide +kernel)
theorem wi_X8_nearest : Cond.instanceMethod yX8_nearest ∈ TB := tb_mem 1021 (by decide +kernel) (by decide +kernel)
theorem wx_X8_nearest : Cond.selects yX8_nearest.cls yX8_nearest yX8_nearest ∈ TB := tb_mem 64 (by decide +kernel) (by decide +kernel)
theorem w_X8_allHits : Cond.code yX8_allHits cX8_allHits 3 (some .int) ∈ TB := tb_mem 1071 (by decide +kernel) (by decide +kernel)
theorem wi_X8_allHits : Cond.instanceMethod yX8_allHits ∈ TB := tb_mem 1070 (by decide +kernel) (by decide +kernel)
theorem wx_X8_allHits : Cond.selects yX8_allHits.cls yX8_allHits yX8_allHits ∈ TB := tb_mem 67 (by decide +kernel) (by decide +kernel)
theorem w_X5_kindOf : Cond.code yX5_kindOf cX5_kindOf 1 (some .int) ∈ TB := tb_mem 339 (by decide +kernel) (by decide +kernel)
theorem ws_X5_kindOf : Cond.static yX5_kindOf ∈ TB := tb_mem 338 (by decide +kernel) (by decide +kernel)
theorem w_X7_isLetter : Cond.code yX7_isLetter cX7_isLetter 1 (some .boolean) ∈ TB := tb_mem 382 (by decide +kernel) (by decide +kernel)
theorem ws_X7_isLetter : Cond.static yX7_isLetter ∈ TB := tb_mem 381 (by decide +kernel) (by decide +kernel)
theorem w_X3_shiftOf : Cond.code yX3_shiftOf cX3_shiftOf 1 (some .int) ∈ TB := tb_mem 388 (by decide +kernel) (by decide +kernel)
theorem ws_X3_shiftOf : Cond.static yX3_shiftOf ∈ TB := tb_mem 387 (by decide +kernel) (by decide +kernel)
theorem w_X3_withLetter : Cond.code yX3_withLetter cX3_withLetter 3 (some .int) ∈ TB := tb_mem 385 (by decide +kernel) (by decide +kernel)
theorem ws_X3_withLetter : Cond.static yX3_withLetter ∈ TB := tb_mem 384 (by decide +kernel) (by decide +kernel)
theorem w_J7_fill_53178 : Cond.code yJ7_fill_53178 cJ7_fill_53178 4 none ∈ TB := tb_mem 425 (by decide +kernel) (by decide +kernel)
theorem ws_J7_fill_53178 : Cond.static yJ7_fill_53178 ∈ TB := tb_mem 424 (by decide +kernel) (by decide +kernel)
theorem w_X3_sizeOf : Cond.code yX3_sizeOf cX3_sizeOf 3 (some .int) ∈ TB := tb_mem 432 (by decide +kernel) (by decide +kernel)
theorem ws_X3_sizeOf : Cond.static yX3_sizeOf ∈ TB := tb_mem 431 (by decide +kernel) (by decide +kernel)
theorem w_X3_headOf : Cond.code yX3_headOf cX3_headOf 2 (some .int) ∈ TB := tb_mem 435 (by decide +kernel) (by decide +kernel)
theorem ws_X3_headOf : Cond.static yX3_headOf ∈ TB := tb_mem 434 (by decide +kernel) (by decide +kernel)
theorem w_X3_letterAt : Cond.code yX3_letterAt cX3_letterAt 2 (some .int) ∈ TB := tb_mem 438 (by decide +kernel) (by decide +kernel)
theorem ws_X3_letterAt : Cond.static yX3_letterAt ∈ TB := tb_mem 437 (by decide +kernel) (by decide +kernel)
theorem w_J7_fill_d0a16 : Cond.code yJ7_fill_d0a16 cJ7_fill_d0a16 5 none ∈ TB := tb_mem 456 (by decide +kernel) (by decide +kernel)
theorem ws_J7_fill_d0a16 : Cond.static yJ7_fill_d0a16 ∈ TB := tb_mem 455 (by decide +kernel) (by decide +kernel)
theorem w_X7_isNear : Cond.code yX7_isNear cX7_isNear 6 (some .boolean) ∈ TB := tb_mem 510 (by decide +kernel) (by decide +kernel)
theorem ws_X7_isNear : Cond.static yX7_isNear ∈ TB := tb_mem 509 (by decide +kernel) (by decide +kernel)
theorem w_X7_isBetterKey : Cond.code yX7_isBetterKey cX7_isBetterKey 3 (some .boolean) ∈ TB := tb_mem 521 (by decide +kernel) (by decide +kernel)
theorem ws_X7_isBetterKey : Cond.static yX7_isBetterKey ∈ TB := tb_mem 520 (by decide +kernel) (by decide +kernel)
theorem w_X7_placeOfBit : Cond.code yX7_placeOfBit cX7_placeOfBit 5 (some .int) ∈ TB := tb_mem 673 (by decide +kernel) (by decide +kernel)
theorem ws_X7_placeOfBit : Cond.static yX7_placeOfBit ∈ TB := tb_mem 672 (by decide +kernel) (by decide +kernel)
theorem w_J13_bitCount_95d88 : Cond.code yJ13_bitCount_95d88 cJ13_bitCount_95d88 2 (some .int) ∈ TB := tb_mem 667 (by decide +kernel) (by decide +kernel)
theorem ws_J13_bitCount_95d88 : Cond.static yJ13_bitCount_95d88 ∈ TB := tb_mem 666 (by decide +kernel) (by decide +kernel)
theorem w_X8_in : Cond.code yX8_in cX8_in 6 (some .boolean) ∈ TB := tb_mem 734 (by decide +kernel) (by decide +kernel)
theorem ws_X8_in : Cond.static yX8_in ∈ TB := tb_mem 733 (by decide +kernel) (by decide +kernel)
theorem w_X8_letterOf : Cond.code yX8_letterOf cX8_letterOf 2 (some .int) ∈ TB := tb_mem 769 (by decide +kernel) (by decide +kernel)
theorem ws_X8_letterOf : Cond.static yX8_letterOf ∈ TB := tb_mem 768 (by decide +kernel) (by decide +kernel)
theorem w_X8_order : Cond.code yX8_order cX8_order 6 (some .int) ∈ TB := tb_mem 765 (by decide +kernel) (by decide +kernel)
theorem ws_X8_order : Cond.static yX8_order ∈ TB := tb_mem 764 (by decide +kernel) (by decide +kernel)
theorem w_X8_parts : Cond.code yX8_parts cX8_parts 2 (some .int) ∈ TB := tb_mem 755 (by decide +kernel) (by decide +kernel)
theorem ws_X8_parts : Cond.static yX8_parts ∈ TB := tb_mem 754 (by decide +kernel) (by decide +kernel)
theorem w_X8_of : Cond.code yX8_of cX8_of 4 (some .int) ∈ TB := tb_mem 758 (by decide +kernel) (by decide +kernel)
theorem ws_X8_of : Cond.static yX8_of ∈ TB := tb_mem 757 (by decide +kernel) (by decide +kernel)
theorem w_X8_lasts : Cond.code yX8_lasts cX8_lasts 2 (some .int) ∈ TB := tb_mem 784 (by decide +kernel) (by decide +kernel)
theorem ws_X8_lasts : Cond.static yX8_lasts ∈ TB := tb_mem 783 (by decide +kernel) (by decide +kernel)
theorem w_X8_withLetter : Cond.code yX8_withLetter cX8_withLetter 2 (some .int) ∈ TB := tb_mem 791 (by decide +kernel) (by decide +kernel)
theorem ws_X8_withLetter : Cond.static yX8_withLetter ∈ TB := tb_mem 790 (by decide +kernel) (by decide +kernel)
theorem w_X8_firsts : Cond.code yX8_firsts cX8_firsts 2 (some .int) ∈ TB := tb_mem 776 (by decide +kernel) (by decide +kernel)
theorem ws_X8_firsts : Cond.static yX8_firsts ∈ TB := tb_mem 775 (by decide +kernel) (by decide +kernel)
theorem w_X8_copyAll : Cond.code yX8_copyAll cX8_copyAll 3 none ∈ TB := tb_mem 894 (by decide +kernel) (by decide +kernel)
theorem ws_X8_copyAll : Cond.static yX8_copyAll ∈ TB := tb_mem 893 (by decide +kernel) (by decide +kernel)
theorem w_X8_has : Cond.code yX8_has cX8_has 2 (some .boolean) ∈ TB := tb_mem 987 (by decide +kernel) (by decide +kernel)
theorem ws_X8_has : Cond.static yX8_has ∈ TB := tb_mem 986 (by decide +kernel) (by decide +kernel)
theorem w_X8_stateOf : Cond.code yX8_stateOf cX8_stateOf 3 (some .int) ∈ TB := tb_mem 1018 (by decide +kernel) (by decide +kernel)
theorem ws_X8_stateOf : Cond.static yX8_stateOf ∈ TB := tb_mem 1017 (by decide +kernel) (by decide +kernel)
theorem w_X1_init : Cond.code yX1_init cX1_init 1 none ∈ TB := tb_mem 100 (by decide +kernel) (by decide +kernel)
theorem wi_X1_init : Cond.instanceMethod yX1_init ∈ TB := tb_mem 99 (by decide +kernel) (by decide +kernel)
theorem w_X6_init : Cond.code yX6_init cX6_init 2 none ∈ TB := tb_mem 153 (by decide +kernel) (by decide +kernel)
theorem wi_X6_init : Cond.instanceMethod yX6_init ∈ TB := tb_mem 152 (by decide +kernel) (by decide +kernel)
theorem w_X5_init : Cond.code yX5_init cX5_init 1 none ∈ TB := tb_mem 94 (by decide +kernel) (by decide +kernel)
theorem wi_X5_init : Cond.instanceMethod yX5_init ∈ TB := tb_mem 93 (by decide +kernel) (by decide +kernel)
theorem w_X2_init : Cond.code yX2_init cX2_init 1 none ∈ TB := tb_mem 199 (by decide +kernel) (by decide +kernel)
theorem wi_X2_init : Cond.instanceMethod yX2_init ∈ TB := tb_mem 198 (by decide +kernel) (by decide +kernel)
theorem w_X0_init : Cond.code yX0_init cX0_init 3 none ∈ TB := tb_mem 220 (by decide +kernel) (by decide +kernel)
theorem wi_X0_init : Cond.instanceMethod yX0_init ∈ TB := tb_mem 219 (by decide +kernel) (by decide +kernel)
theorem w_X4_init : Cond.code yX4_init cX4_init 1 none ∈ TB := tb_mem 543 (by decide +kernel) (by decide +kernel)
theorem wi_X4_init : Cond.instanceMethod yX4_init ∈ TB := tb_mem 542 (by decide +kernel) (by decide +kernel)
theorem w_X7_init : Cond.code yX7_init cX7_init 1 none ∈ TB := tb_mem 86 (by decide +kernel) (by decide +kernel)
theorem wi_X7_init : Cond.instanceMethod yX7_init ∈ TB := tb_mem 85 (by decide +kernel) (by decide +kernel)
theorem w_X7_type : Cond.code yX7_type cX7_type 2 (some .int) ∈ TB := tb_mem 289 (by decide +kernel) (by decide +kernel)
theorem wi_X7_type : Cond.instanceMethod yX7_type ∈ TB := tb_mem 287 (by decide +kernel) (by decide +kernel)
theorem wx_X7_type : Cond.selects yX7_type.cls yX7_type yX7_type ∈ TB := tb_mem 288 (by decide +kernel) (by decide +kernel)
theorem w_X7_clear : Cond.code yX7_clear cX7_clear 2 (some .int) ∈ TB := tb_mem 297 (by decide +kernel) (by decide +kernel)
theorem wi_X7_clear : Cond.instanceMethod yX7_clear ∈ TB := tb_mem 295 (by decide +kernel) (by decide +kernel)
theorem wx_X7_clear : Cond.selects yX7_clear.cls yX7_clear yX7_clear ∈ TB := tb_mem 296 (by decide +kernel) (by decide +kernel)
theorem w_X7_adds : Cond.code yX7_adds cX7_adds 3 (some .int) ∈ TB := tb_mem 301 (by decide +kernel) (by decide +kernel)
theorem wi_X7_adds : Cond.instanceMethod yX7_adds ∈ TB := tb_mem 299 (by decide +kernel) (by decide +kernel)
theorem wx_X7_adds : Cond.selects yX7_adds.cls yX7_adds yX7_adds ∈ TB := tb_mem 300 (by decide +kernel) (by decide +kernel)
theorem w_X7_drops : Cond.code yX7_drops cX7_drops 2 (some .int) ∈ TB := tb_mem 460 (by decide +kernel) (by decide +kernel)
theorem wi_X7_drops : Cond.instanceMethod yX7_drops ∈ TB := tb_mem 458 (by decide +kernel) (by decide +kernel)
theorem wx_X7_drops : Cond.selects yX7_drops.cls yX7_drops yX7_drops ∈ TB := tb_mem 459 (by decide +kernel) (by decide +kernel)
theorem w_X7_feeds : Cond.code yX7_feeds cX7_feeds 2 (some .int) ∈ TB := tb_mem 476 (by decide +kernel) (by decide +kernel)
theorem wi_X7_feeds : Cond.instanceMethod yX7_feeds ∈ TB := tb_mem 474 (by decide +kernel) (by decide +kernel)
theorem wx_X7_feeds : Cond.selects yX7_feeds.cls yX7_feeds yX7_feeds ∈ TB := tb_mem 475 (by decide +kernel) (by decide +kernel)
theorem w_X7_cuts : Cond.code yX7_cuts cX7_cuts 2 (some .int) ∈ TB := tb_mem 481 (by decide +kernel) (by decide +kernel)
theorem wi_X7_cuts : Cond.instanceMethod yX7_cuts ∈ TB := tb_mem 479 (by decide +kernel) (by decide +kernel)
theorem wx_X7_cuts : Cond.selects yX7_cuts.cls yX7_cuts yX7_cuts ∈ TB := tb_mem 480 (by decide +kernel) (by decide +kernel)
theorem w_X7_undo : Cond.code yX7_undo cX7_undo 1 (some .int) ∈ TB := tb_mem 485 (by decide +kernel) (by decide +kernel)
theorem wi_X7_undo : Cond.instanceMethod yX7_undo ∈ TB := tb_mem 483 (by decide +kernel) (by decide +kernel)
theorem wx_X7_undo : Cond.selects yX7_undo.cls yX7_undo yX7_undo ∈ TB := tb_mem 484 (by decide +kernel) (by decide +kernel)
theorem w_X7_query : Cond.code yX7_query cX7_query 3 (some .int) ∈ TB := tb_mem 493 (by decide +kernel) (by decide +kernel)
theorem wi_X7_query : Cond.instanceMethod yX7_query ∈ TB := tb_mem 491 (by decide +kernel) (by decide +kernel)
theorem wx_X7_query : Cond.selects yX7_query.cls yX7_query yX7_query ∈ TB := tb_mem 492 (by decide +kernel) (by decide +kernel)
theorem w_X7_part : Cond.code yX7_part cX7_part 5 (some .int) ∈ TB := tb_mem 530 (by decide +kernel) (by decide +kernel)
theorem wi_X7_part : Cond.instanceMethod yX7_part ∈ TB := tb_mem 528 (by decide +kernel) (by decide +kernel)
theorem wx_X7_part : Cond.selects yX7_part.cls yX7_part yX7_part ∈ TB := tb_mem 529 (by decide +kernel) (by decide +kernel)
theorem w_X7_shortest : Cond.code yX7_shortest cX7_shortest 5 (some .int) ∈ TB := tb_mem 534 (by decide +kernel) (by decide +kernel)
theorem wi_X7_shortest : Cond.instanceMethod yX7_shortest ∈ TB := tb_mem 532 (by decide +kernel) (by decide +kernel)
theorem wx_X7_shortest : Cond.selects yX7_shortest.cls yX7_shortest yX7_shortest ∈ TB := tb_mem 533 (by decide +kernel) (by decide +kernel)
theorem w_X7_more : Cond.code yX7_more cX7_more 3 (some .int) ∈ TB := tb_mem 634 (by decide +kernel) (by decide +kernel)
theorem wi_X7_more : Cond.instanceMethod yX7_more ∈ TB := tb_mem 632 (by decide +kernel) (by decide +kernel)
theorem wx_X7_more : Cond.selects yX7_more.cls yX7_more yX7_more ∈ TB := tb_mem 633 (by decide +kernel) (by decide +kernel)
theorem w_X7_many : Cond.code yX7_many cX7_many 3 (some .long) ∈ TB := tb_mem 642 (by decide +kernel) (by decide +kernel)
theorem wi_X7_many : Cond.instanceMethod yX7_many ∈ TB := tb_mem 640 (by decide +kernel) (by decide +kernel)
theorem wx_X7_many : Cond.selects yX7_many.cls yX7_many yX7_many ∈ TB := tb_mem 641 (by decide +kernel) (by decide +kernel)
theorem w_X7_word : Cond.code yX7_word cX7_word 5 (some .int) ∈ TB := tb_mem 655 (by decide +kernel) (by decide +kernel)
theorem wi_X7_word : Cond.instanceMethod yX7_word ∈ TB := tb_mem 653 (by decide +kernel) (by decide +kernel)
theorem wx_X7_word : Cond.selects yX7_word.cls yX7_word yX7_word ∈ TB := tb_mem 654 (by decide +kernel) (by decide +kernel)
theorem w_X7_hit : Cond.code yX7_hit cX7_hit 3 (some .int) ∈ TB := tb_mem 664 (by decide +kernel) (by decide +kernel)
theorem wi_X7_hit : Cond.instanceMethod yX7_hit ∈ TB := tb_mem 662 (by decide +kernel) (by decide +kernel)
theorem wx_X7_hit : Cond.selects yX7_hit.cls yX7_hit yX7_hit ∈ TB := tb_mem 663 (by decide +kernel) (by decide +kernel)
theorem w_X7_node : Cond.code yX7_node cX7_node 3 (some .int) ∈ TB := tb_mem 677 (by decide +kernel) (by decide +kernel)
theorem wi_X7_node : Cond.instanceMethod yX7_node ∈ TB := tb_mem 675 (by decide +kernel) (by decide +kernel)
theorem wx_X7_node : Cond.selects yX7_node.cls yX7_node yX7_node ∈ TB := tb_mem 676 (by decide +kernel) (by decide +kernel)
theorem w_X7_next : Cond.code yX7_next cX7_next 3 (some .int) ∈ TB := tb_mem 685 (by decide +kernel) (by decide +kernel)
theorem wi_X7_next : Cond.instanceMethod yX7_next ∈ TB := tb_mem 683 (by decide +kernel) (by decide +kernel)
theorem wx_X7_next : Cond.selects yX7_next.cls yX7_next yX7_next ∈ TB := tb_mem 684 (by decide +kernel) (by decide +kernel)
theorem w_X7_letter : Cond.code yX7_letter cX7_letter 2 (some .int) ∈ TB := tb_mem 689 (by decide +kernel) (by decide +kernel)
theorem wi_X7_letter : Cond.instanceMethod yX7_letter ∈ TB := tb_mem 687 (by decide +kernel) (by decide +kernel)
theorem wx_X7_letter : Cond.selects yX7_letter.cls yX7_letter yX7_letter ∈ TB := tb_mem 688 (by decide +kernel) (by decide +kernel)
theorem w_X7_now : Cond.code yX7_now cX7_now 2 (some .int) ∈ TB := tb_mem 693 (by decide +kernel) (by decide +kernel)
theorem wi_X7_now : Cond.instanceMethod yX7_now ∈ TB := tb_mem 691 (by decide +kernel) (by decide +kernel)
theorem wx_X7_now : Cond.selects yX7_now.cls yX7_now yX7_now ∈ TB := tb_mem 692 (by decide +kernel) (by decide +kernel)
theorem w_X7_keep : Cond.code yX7_keep cX7_keep 3 (some .int) ∈ TB := tb_mem 714 (by decide +kernel) (by decide +kernel)
theorem wi_X7_keep : Cond.instanceMethod yX7_keep ∈ TB := tb_mem 712 (by decide +kernel) (by decide +kernel)
theorem wx_X7_keep : Cond.selects yX7_keep.cls yX7_keep yX7_keep ∈ TB := tb_mem 713 (by decide +kernel) (by decide +kernel)
theorem w_X7_back : Cond.code yX7_back cX7_back 3 (some .int) ∈ TB := tb_mem 718 (by decide +kernel) (by decide +kernel)
theorem wi_X7_back : Cond.instanceMethod yX7_back ∈ TB := tb_mem 716 (by decide +kernel) (by decide +kernel)
theorem wx_X7_back : Cond.selects yX7_back.cls yX7_back yX7_back ∈ TB := tb_mem 717 (by decide +kernel) (by decide +kernel)
theorem w_X7_count : Cond.code yX7_count cX7_count 2 (some .int) ∈ TB := tb_mem 726 (by decide +kernel) (by decide +kernel)
theorem wi_X7_count : Cond.instanceMethod yX7_count ∈ TB := tb_mem 724 (by decide +kernel) (by decide +kernel)
theorem wx_X7_count : Cond.selects yX7_count.cls yX7_count yX7_count ∈ TB := tb_mem 725 (by decide +kernel) (by decide +kernel)
theorem w_X8_type : Cond.code yX8_type cX8_type 2 (some .int) ∈ TB := tb_mem 730 (by decide +kernel) (by decide +kernel)
theorem wi_X8_type : Cond.instanceMethod yX8_type ∈ TB := tb_mem 728 (by decide +kernel) (by decide +kernel)
theorem wx_X8_type : Cond.selects yX8_type.cls yX8_type yX8_type ∈ TB := tb_mem 729 (by decide +kernel) (by decide +kernel)
theorem w_X8_clear : Cond.code yX8_clear cX8_clear 2 (some .int) ∈ TB := tb_mem 738 (by decide +kernel) (by decide +kernel)
theorem wi_X8_clear : Cond.instanceMethod yX8_clear ∈ TB := tb_mem 736 (by decide +kernel) (by decide +kernel)
theorem wx_X8_clear : Cond.selects yX8_clear.cls yX8_clear yX8_clear ∈ TB := tb_mem 737 (by decide +kernel) (by decide +kernel)
theorem w_X8_init : Cond.code yX8_init cX8_init 1 none ∈ TB := tb_mem 743 (by decide +kernel) (by decide +kernel)
theorem wi_X8_init : Cond.instanceMethod yX8_init ∈ TB := tb_mem 742 (by decide +kernel) (by decide +kernel)
theorem w_X8_adds : Cond.code yX8_adds cX8_adds 3 (some .int) ∈ TB := tb_mem 891 (by decide +kernel) (by decide +kernel)
theorem wi_X8_adds : Cond.instanceMethod yX8_adds ∈ TB := tb_mem 889 (by decide +kernel) (by decide +kernel)
theorem wx_X8_adds : Cond.selects yX8_adds.cls yX8_adds yX8_adds ∈ TB := tb_mem 890 (by decide +kernel) (by decide +kernel)
theorem w_X8_drops : Cond.code yX8_drops cX8_drops 3 (some .int) ∈ TB := tb_mem 939 (by decide +kernel) (by decide +kernel)
theorem wi_X8_drops : Cond.instanceMethod yX8_drops ∈ TB := tb_mem 937 (by decide +kernel) (by decide +kernel)
theorem wx_X8_drops : Cond.selects yX8_drops.cls yX8_drops yX8_drops ∈ TB := tb_mem 938 (by decide +kernel) (by decide +kernel)
theorem w_X8_feeds : Cond.code yX8_feeds cX8_feeds 2 (some .int) ∈ TB := tb_mem 947 (by decide +kernel) (by decide +kernel)
theorem wi_X8_feeds : Cond.instanceMethod yX8_feeds ∈ TB := tb_mem 945 (by decide +kernel) (by decide +kernel)
theorem wx_X8_feeds : Cond.selects yX8_feeds.cls yX8_feeds yX8_feeds ∈ TB := tb_mem 946 (by decide +kernel) (by decide +kernel)
theorem w_X8_cuts : Cond.code yX8_cuts cX8_cuts 2 (some .int) ∈ TB := tb_mem 956 (by decide +kernel) (by decide +kernel)
theorem wi_X8_cuts : Cond.instanceMethod yX8_cuts ∈ TB := tb_mem 954 (by decide +kernel) (by decide +kernel)
theorem wx_X8_cuts : Cond.selects yX8_cuts.cls yX8_cuts yX8_cuts ∈ TB := tb_mem 955 (by decide +kernel) (by decide +kernel)
theorem w_X8_undo : Cond.code yX8_undo cX8_undo 2 (some .int) ∈ TB := tb_mem 960 (by decide +kernel) (by decide +kernel)
theorem wi_X8_undo : Cond.instanceMethod yX8_undo ∈ TB := tb_mem 958 (by decide +kernel) (by decide +kernel)
theorem wx_X8_undo : Cond.selects yX8_undo.cls yX8_undo yX8_undo ∈ TB := tb_mem 959 (by decide +kernel) (by decide +kernel)
theorem w_X8_query : Cond.code yX8_query cX8_query 3 (some .int) ∈ TB := tb_mem 964 (by decide +kernel) (by decide +kernel)
theorem wi_X8_query : Cond.instanceMethod yX8_query ∈ TB := tb_mem 962 (by decide +kernel) (by decide +kernel)
theorem wx_X8_query : Cond.selects yX8_query.cls yX8_query yX8_query ∈ TB := tb_mem 963 (by decide +kernel) (by decide +kernel)
theorem w_X8_part : Cond.code yX8_part cX8_part 5 (some .int) ∈ TB := tb_mem 1003 (by decide +kernel) (by decide +kernel)
theorem wi_X8_part : Cond.instanceMethod yX8_part ∈ TB := tb_mem 1001 (by decide +kernel) (by decide +kernel)
theorem wx_X8_part : Cond.selects yX8_part.cls yX8_part yX8_part ∈ TB := tb_mem 1002 (by decide +kernel) (by decide +kernel)
theorem w_X8_shortest : Cond.code yX8_shortest cX8_shortest 5 (some .int) ∈ TB := tb_mem 1007 (by decide +kernel) (by decide +kernel)
theorem wi_X8_shortest : Cond.instanceMethod yX8_shortest ∈ TB := tb_mem 1005 (by decide +kernel) (by decide +kernel)
theorem wx_X8_shortest : Cond.selects yX8_shortest.cls yX8_shortest yX8_shortest ∈ TB := tb_mem 1006 (by decide +kernel) (by decide +kernel)
theorem w_X8_more : Cond.code yX8_more cX8_more 4 (some .int) ∈ TB := tb_mem 1036 (by decide +kernel) (by decide +kernel)
theorem wi_X8_more : Cond.instanceMethod yX8_more ∈ TB := tb_mem 1034 (by decide +kernel) (by decide +kernel)
theorem wx_X8_more : Cond.selects yX8_more.cls yX8_more yX8_more ∈ TB := tb_mem 1035 (by decide +kernel) (by decide +kernel)
theorem w_X8_many : Cond.code yX8_many cX8_many 7 (some .long) ∈ TB := tb_mem 1040 (by decide +kernel) (by decide +kernel)
theorem wi_X8_many : Cond.instanceMethod yX8_many ∈ TB := tb_mem 1038 (by decide +kernel) (by decide +kernel)
theorem wx_X8_many : Cond.selects yX8_many.cls yX8_many yX8_many ∈ TB := tb_mem 1039 (by decide +kernel) (by decide +kernel)
theorem w_X8_word : Cond.code yX8_word cX8_word 4 (some .int) ∈ TB := tb_mem 1046 (by decide +kernel) (by decide +kernel)
theorem wi_X8_word : Cond.instanceMethod yX8_word ∈ TB := tb_mem 1044 (by decide +kernel) (by decide +kernel)
theorem wx_X8_word : Cond.selects yX8_word.cls yX8_word yX8_word ∈ TB := tb_mem 1045 (by decide +kernel) (by decide +kernel)
theorem w_X8_hit : Cond.code yX8_hit cX8_hit 5 (some .int) ∈ TB := tb_mem 1050 (by decide +kernel) (by decide +kernel)
theorem wi_X8_hit : Cond.instanceMethod yX8_hit ∈ TB := tb_mem 1048 (by decide +kernel) (by decide +kernel)
theorem wx_X8_hit : Cond.selects yX8_hit.cls yX8_hit yX8_hit ∈ TB := tb_mem 1049 (by decide +kernel) (by decide +kernel)
theorem w_X8_node : Cond.code yX8_node cX8_node 4 (some .int) ∈ TB := tb_mem 1054 (by decide +kernel) (by decide +kernel)
theorem wi_X8_node : Cond.instanceMethod yX8_node ∈ TB := tb_mem 1052 (by decide +kernel) (by decide +kernel)
theorem wx_X8_node : Cond.selects yX8_node.cls yX8_node yX8_node ∈ TB := tb_mem 1053 (by decide +kernel) (by decide +kernel)
theorem w_X8_next : Cond.code yX8_next cX8_next 3 (some .int) ∈ TB := tb_mem 1058 (by decide +kernel) (by decide +kernel)
theorem wi_X8_next : Cond.instanceMethod yX8_next ∈ TB := tb_mem 1056 (by decide +kernel) (by decide +kernel)
theorem wx_X8_next : Cond.selects yX8_next.cls yX8_next yX8_next ∈ TB := tb_mem 1057 (by decide +kernel) (by decide +kernel)
theorem w_X8_letter : Cond.code yX8_letter cX8_letter 2 (some .int) ∈ TB := tb_mem 1062 (by decide +kernel) (by decide +kernel)
theorem wi_X8_letter : Cond.instanceMethod yX8_letter ∈ TB := tb_mem 1060 (by decide +kernel) (by decide +kernel)
theorem wx_X8_letter : Cond.selects yX8_letter.cls yX8_letter yX8_letter ∈ TB := tb_mem 1061 (by decide +kernel) (by decide +kernel)
theorem w_X8_now : Cond.code yX8_now cX8_now 7 (some .int) ∈ TB := tb_mem 1066 (by decide +kernel) (by decide +kernel)
theorem wi_X8_now : Cond.instanceMethod yX8_now ∈ TB := tb_mem 1064 (by decide +kernel) (by decide +kernel)
theorem wx_X8_now : Cond.selects yX8_now.cls yX8_now yX8_now ∈ TB := tb_mem 1065 (by decide +kernel) (by decide +kernel)
theorem w_X8_keep : Cond.code yX8_keep cX8_keep 3 (some .int) ∈ TB := tb_mem 1075 (by decide +kernel) (by decide +kernel)
theorem wi_X8_keep : Cond.instanceMethod yX8_keep ∈ TB := tb_mem 1073 (by decide +kernel) (by decide +kernel)
theorem wx_X8_keep : Cond.selects yX8_keep.cls yX8_keep yX8_keep ∈ TB := tb_mem 1074 (by decide +kernel) (by decide +kernel)
theorem w_X8_back : Cond.code yX8_back cX8_back 3 (some .int) ∈ TB := tb_mem 1079 (by decide +kernel) (by decide +kernel)
theorem wi_X8_back : Cond.instanceMethod yX8_back ∈ TB := tb_mem 1077 (by decide +kernel) (by decide +kernel)
theorem wx_X8_back : Cond.selects yX8_back.cls yX8_back yX8_back ∈ TB := tb_mem 1078 (by decide +kernel) (by decide +kernel)
theorem w_X8_count : Cond.code yX8_count cX8_count 2 (some .int) ∈ TB := tb_mem 1083 (by decide +kernel) (by decide +kernel)
theorem wi_X8_count : Cond.instanceMethod yX8_count ∈ TB := tb_mem 1081 (by decide +kernel) (by decide +kernel)
theorem wx_X8_count : Cond.selects yX8_count.cls yX8_count yX8_count ∈ TB := tb_mem 1082 (by decide +kernel) (by decide +kernel)
theorem v_X0_43 : VL RX0 43 0 yX0_growTo cX0_growTo 7 none 2 := ⟨⟨w_X0_growTo, iz_X0, by decide +kernel⟩, tb_mem 426 (by decide +kernel) (by decide +kernel), wi_X0_growTo, wx_X0_growTo, ⟨_, rfl, rfl⟩⟩
theorem v_X0_47 : VL RX0 47 0 yX0_link cX0_link 5 none 0 := ⟨⟨w_X0_link, iz_X0, by decide +kernel⟩, tb_mem 446 (by decide +kernel) (by decide +kernel), wi_X0_link, wx_X0_link, ⟨_, rfl, rfl⟩⟩
theorem v_X0_71 : VL RX0 71 0 yX0_addNode cX0_addNode 4 none 3 := ⟨⟨w_X0_addNode, iz_X0, by decide +kernel⟩, tb_mem 442 (by decide +kernel) (by decide +kernel), wi_X0_addNode, wx_X0_addNode, ⟨_, rfl, rfl⟩⟩
theorem v_X1_43 : VL RX1 43 1 yX1_partsOfLast cX1_partsOfLast 1 (some .int) 0 := ⟨⟨w_X1_partsOfLast, iz_X1, by decide +kernel⟩, tb_mem 394 (by decide +kernel) (by decide +kernel), wi_X1_partsOfLast, wx_X1_partsOfLast, ⟨_, rfl, rfl⟩⟩
theorem v_X1_47 : VL RX1 47 1 yX1_place cX1_place 3 (some .int) 2 := ⟨⟨w_X1_place, iz_X1, by decide +kernel⟩, tb_mem 395 (by decide +kernel) (by decide +kernel), wi_X1_place, wx_X1_place, ⟨_, rfl, rfl⟩⟩
theorem v_X1_51 : VL RX1 51 1 yX1_movePart cX1_movePart 3 none 2 := ⟨⟨w_X1_movePart, iz_X1, by decide +kernel⟩, tb_mem 469 (by decide +kernel) (by decide +kernel), wi_X1_movePart, wx_X1_movePart, ⟨_, rfl, rfl⟩⟩
theorem v_X2_22 : VL RX2 22 1 yX1_take cX1_take 2 none 1 := ⟨⟨w_X1_take, iz_X1, by decide +kernel⟩, tb_mem 409 (by decide +kernel) (by decide +kernel), wi_X1_take, wx_X1_take, ⟨_, rfl, rfl⟩⟩
theorem v_X4_44 : VL RX4 44 5 yX6_gatherOne cX6_gatherOne 3 none 2 := ⟨⟨w_X6_gatherOne, iz_X6, by decide +kernel⟩, tb_mem 593 (by decide +kernel) (by decide +kernel), wi_X6_gatherOne, wx_X6_gatherOne, ⟨_, rfl, rfl⟩⟩
theorem v_X4_48 : VL RX4 48 0 yX0_build cX0_build 3 none 1 := ⟨⟨w_X0_build, iz_X0, by decide +kernel⟩, tb_mem 597 (by decide +kernel) (by decide +kernel), wi_X0_build, wx_X0_build, ⟨_, rfl, rfl⟩⟩
theorem v_X4_70 : VL RX4 70 1 yX1_place cX1_place 3 (some .int) 2 := ⟨⟨w_X1_place, iz_X1, by decide +kernel⟩, tb_mem 599 (by decide +kernel) (by decide +kernel), wi_X1_place, wx_X1_place, ⟨_, rfl, rfl⟩⟩
theorem v_X4_80 : VL RX4 80 3 yX4_markNodes cX4_markNodes 5 none 2 := ⟨⟨w_X4_markNodes, iz_X4, by decide +kernel⟩, tb_mem 600 (by decide +kernel) (by decide +kernel), wi_X4_markNodes, wx_X4_markNodes, ⟨_, rfl, rfl⟩⟩
theorem v_X4_106 : VL RX4 106 5 yX6_find cX6_find 3 (some .int) 1 := ⟨⟨w_X6_find, iz_X6, by decide +kernel⟩, tb_mem 604 (by decide +kernel) (by decide +kernel), wi_X6_find, wx_X6_find, ⟨_, rfl, rfl⟩⟩
theorem v_X4_116 : VL RX4 116 3 yX4_stepNear cX4_stepNear 3 (some .int) 2 := ⟨⟨w_X4_stepNear, iz_X4, by decide +kernel⟩, tb_mem 622 (by decide +kernel) (by decide +kernel), wi_X4_stepNear, wx_X4_stepNear, ⟨_, rfl, rfl⟩⟩
theorem v_X4_125 : VL RX4 125 3 yX4_step cX4_step 8 (some .int) 2 := ⟨⟨w_X4_step, iz_X4, by decide +kernel⟩, tb_mem 618 (by decide +kernel) (by decide +kernel), wi_X4_step, wx_X4_step, ⟨_, rfl, rfl⟩⟩
theorem v_X4_131 : VL RX4 131 3 yX4_isMatch cX4_isMatch 2 (some .boolean) 1 := ⟨⟨w_X4_isMatch, iz_X4, by decide +kernel⟩, tb_mem 610 (by decide +kernel) (by decide +kernel), wi_X4_isMatch, wx_X4_isMatch, ⟨_, rfl, rfl⟩⟩
theorem v_X4_135 : VL RX4 135 3 yX4_spread cX4_spread 6 (some .int) 2 := ⟨⟨w_X4_spread, iz_X4, by decide +kernel⟩, tb_mem 614 (by decide +kernel) (by decide +kernel), wi_X4_spread, wx_X4_spread, ⟨_, rfl, rfl⟩⟩
theorem v_X4_141 : VL RX4 141 3 yX4_lengthenRows cX4_lengthenRows 4 none 0 := ⟨⟨w_X4_lengthenRows, iz_X4, by decide +kernel⟩, tb_mem 648 (by decide +kernel) (by decide +kernel), wi_X4_lengthenRows, wx_X4_lengthenRows, ⟨_, rfl, rfl⟩⟩
theorem v_X5_35 : VL RX5 35 1 yX1_take cX1_take 2 none 1 := ⟨⟨w_X1_take, iz_X1, by decide +kernel⟩, tb_mem 306 (by decide +kernel) (by decide +kernel), wi_X1_take, wx_X1_take, ⟨_, rfl, rfl⟩⟩
theorem v_X5_45 : VL RX5 45 5 yX6_gatherAll cX6_gatherAll 3 none 1 := ⟨⟨w_X6_gatherAll, iz_X6, by decide +kernel⟩, tb_mem 313 (by decide +kernel) (by decide +kernel), wi_X6_gatherAll, wx_X6_gatherAll, ⟨_, rfl, rfl⟩⟩
theorem v_X5_51 : VL RX5 51 4 yX5_advance cX5_advance 1 none 0 := ⟨⟨w_X5_advance, iz_X5, by decide +kernel⟩, tb_mem 333 (by decide +kernel) (by decide +kernel), wi_X5_advance, wx_X5_advance, ⟨_, rfl, rfl⟩⟩
theorem v_X5_57 : VL RX5 57 4 yX5_readItem cX5_readItem 1 (some .boolean) 0 := ⟨⟨w_X5_readItem, iz_X5, by decide +kernel⟩, tb_mem 340 (by decide +kernel) (by decide +kernel), wi_X5_readItem, wx_X5_readItem, ⟨_, rfl, rfl⟩⟩
theorem v_X5_64 : VL RX5 64 4 yX5_lacksParts cX5_lacksParts 1 (some .boolean) 0 := ⟨⟨w_X5_lacksParts, iz_X5, by decide +kernel⟩, tb_mem 348 (by decide +kernel) (by decide +kernel), wi_X5_lacksParts, wx_X5_lacksParts, ⟨_, rfl, rfl⟩⟩
theorem v_X5_67 : VL RX5 67 4 yX5_hasOpenQuery cX5_hasOpenQuery 1 (some .boolean) 0 := ⟨⟨w_X5_hasOpenQuery, iz_X5, by decide +kernel⟩, tb_mem 352 (by decide +kernel) (by decide +kernel), wi_X5_hasOpenQuery, wx_X5_hasOpenQuery, ⟨_, rfl, rfl⟩⟩
theorem v_X5_70 : VL RX5 70 1 yX1_partsOfLast cX1_partsOfLast 1 (some .int) 0 := ⟨⟨w_X1_partsOfLast, iz_X1, by decide +kernel⟩, tb_mem 356 (by decide +kernel) (by decide +kernel), wi_X1_partsOfLast, wx_X1_partsOfLast, ⟨_, rfl, rfl⟩⟩
theorem v_X5_74 : VL RX5 74 4 yX5_readQuery cX5_readQuery 1 (some .boolean) 0 := ⟨⟨w_X5_readQuery, iz_X5, by decide +kernel⟩, tb_mem 344 (by decide +kernel) (by decide +kernel), wi_X5_readQuery, wx_X5_readQuery, ⟨_, rfl, rfl⟩⟩
theorem v_X5_77 : VL RX5 77 4 yX5_readPart cX5_readPart 3 (some .boolean) 1 := ⟨⟨w_X5_readPart, iz_X5, by decide +kernel⟩, tb_mem 368 (by decide +kernel) (by decide +kernel), wi_X5_readPart, wx_X5_readPart, ⟨_, rfl, rfl⟩⟩
theorem v_X5_81 : VL RX5 81 4 yX5_readNear cX5_readNear 3 (some .boolean) 0 := ⟨⟨w_X5_readNear, iz_X5, by decide +kernel⟩, tb_mem 396 (by decide +kernel) (by decide +kernel), wi_X5_readNear, wx_X5_readNear, ⟨_, rfl, rfl⟩⟩
theorem v_X5_84 : VL RX5 84 1 yX1_startQuery cX1_startQuery 1 (some .boolean) 0 := ⟨⟨w_X1_startQuery, iz_X1, by decide +kernel⟩, tb_mem 360 (by decide +kernel) (by decide +kernel), wi_X1_startQuery, wx_X1_startQuery, ⟨_, rfl, rfl⟩⟩
theorem v_X5_87 : VL RX5 87 4 yX5_readStop cX5_readStop 1 (some .boolean) 0 := ⟨⟨w_X5_readStop, iz_X5, by decide +kernel⟩, tb_mem 364 (by decide +kernel) (by decide +kernel), wi_X5_readStop, wx_X5_readStop, ⟨_, rfl, rfl⟩⟩
theorem v_X5_90 : VL RX5 90 4 yX5_mayHavePart cX5_mayHavePart 1 (some .boolean) 0 := ⟨⟨w_X5_mayHavePart, iz_X5, by decide +kernel⟩, tb_mem 372 (by decide +kernel) (by decide +kernel), wi_X5_mayHavePart, wx_X5_mayHavePart, ⟨_, rfl, rfl⟩⟩
theorem v_X5_93 : VL RX5 93 4 yX5_readWord cX5_readWord 3 (some .int) 0 := ⟨⟨w_X5_readWord, iz_X5, by decide +kernel⟩, tb_mem 376 (by decide +kernel) (by decide +kernel), wi_X5_readWord, wx_X5_readWord, ⟨_, rfl, rfl⟩⟩
theorem v_X5_98 : VL RX5 98 1 yX1_addPart cX1_addPart 6 none 4 := ⟨⟨w_X1_addPart, iz_X1, by decide +kernel⟩, tb_mem 390 (by decide +kernel) (by decide +kernel), wi_X1_addPart, wx_X1_addPart, ⟨_, rfl, rfl⟩⟩
theorem v_X5_102 : VL RX5 102 1 yX1_lastHasNear cX1_lastHasNear 2 (some .boolean) 0 := ⟨⟨w_X1_lastHasNear, iz_X1, by decide +kernel⟩, tb_mem 400 (by decide +kernel) (by decide +kernel), wi_X1_lastHasNear, wx_X1_lastHasNear, ⟨_, rfl, rfl⟩⟩
theorem v_X5_112 : VL RX5 112 5 yX6_put cX6_put 3 (some .boolean) 1 := ⟨⟨w_X6_put, iz_X6, by decide +kernel⟩, tb_mem 389 (by decide +kernel) (by decide +kernel), wi_X6_put, wx_X6_put, ⟨_, rfl, rfl⟩⟩
theorem v_X6_19 : VL RX6 19 5 yX6_find cX6_find 3 (some .int) 1 := ⟨⟨w_X6_find, iz_X6, by decide +kernel⟩, tb_mem 329 (by decide +kernel) (by decide +kernel), wi_X6_find, wx_X6_find, ⟨_, rfl, rfl⟩⟩
theorem v_X6_28 : VL RX6 28 5 yX6_putWordsOf cX6_putWordsOf 5 none 2 := ⟨⟨w_X6_putWordsOf, iz_X6, by decide +kernel⟩, tb_mem 317 (by decide +kernel) (by decide +kernel), wi_X6_putWordsOf, wx_X6_putWordsOf, ⟨_, rfl, rfl⟩⟩
theorem v_X6_35 : VL RX6 35 1 yX1_place cX1_place 3 (some .int) 2 := ⟨⟨w_X1_place, iz_X1, by decide +kernel⟩, tb_mem 321 (by decide +kernel) (by decide +kernel), wi_X1_place, wx_X1_place, ⟨_, rfl, rfl⟩⟩
theorem v_X6_42 : VL RX6 42 5 yX6_put cX6_put 3 (some .boolean) 1 := ⟨⟨w_X6_put, iz_X6, by decide +kernel⟩, tb_mem 325 (by decide +kernel) (by decide +kernel), wi_X6_put, wx_X6_put, ⟨_, rfl, rfl⟩⟩
theorem v_X7_54 : VL RX7 54 4 yX5_append cX5_append 2 (some .boolean) 1 := ⟨⟨w_X5_append, iz_X5, by decide +kernel⟩, tb_mem 290 (by decide +kernel) (by decide +kernel), wi_X5_append, wx_X5_append, ⟨_, rfl, rfl⟩⟩
theorem v_X7_62 : VL RX7 62 4 yX5_readBehind cX5_readBehind 3 (some .int) 1 := ⟨⟨w_X5_readBehind, iz_X5, by decide +kernel⟩, tb_mem 302 (by decide +kernel) (by decide +kernel), wi_X5_readBehind, wx_X5_readBehind, ⟨_, rfl, rfl⟩⟩
theorem v_X7_72 : VL RX7 72 2 yX2_push cX2_push 3 none 1 := ⟨⟨w_X2_push, iz_X2, by decide +kernel⟩, tb_mem 404 (by decide +kernel) (by decide +kernel), wi_X2_push, wx_X2_push, ⟨_, rfl, rfl⟩⟩
theorem v_X7_76 : VL RX7 76 1 yX1_take cX1_take 2 none 1 := ⟨⟨w_X1_take, iz_X1, by decide +kernel⟩, tb_mem 413 (by decide +kernel) (by decide +kernel), wi_X1_take, wx_X1_take, ⟨_, rfl, rfl⟩⟩
theorem v_X7_79 : VL RX7 79 6 yX7_rebuild cX7_rebuild 1 none 0 := ⟨⟨w_X7_rebuild, iz_X7, by decide +kernel⟩, tb_mem 414 (by decide +kernel) (by decide +kernel), wi_X7_rebuild, wx_X7_rebuild, ⟨_, rfl, rfl⟩⟩
theorem v_X7_82 : VL RX7 82 6 yX7_isQuery cX7_isQuery 2 (some .boolean) 1 := ⟨⟨w_X7_isQuery, iz_X7, by decide +kernel⟩, tb_mem 461 (by decide +kernel) (by decide +kernel), wi_X7_isQuery, wx_X7_isQuery, ⟨_, rfl, rfl⟩⟩
theorem v_X7_85 : VL RX7 85 1 yX1_dropQuery cX1_dropQuery 4 none 1 := ⟨⟨w_X1_dropQuery, iz_X1, by decide +kernel⟩, tb_mem 465 (by decide +kernel) (by decide +kernel), wi_X1_dropQuery, wx_X1_dropQuery, ⟨_, rfl, rfl⟩⟩
theorem v_X7_98 : VL RX7 98 6 yX7_walk cX7_walk 4 none 0 := ⟨⟨w_X7_walk, iz_X7, by decide +kernel⟩, tb_mem 450 (by decide +kernel) (by decide +kernel), wi_X7_walk, wx_X7_walk, ⟨_, rfl, rfl⟩⟩
theorem v_X7_104 : VL RX7 104 2 yX2_popInto cX2_popInto 3 (some .boolean) 1 := ⟨⟨w_X2_popInto, iz_X2, by decide +kernel⟩, tb_mem 486 (by decide +kernel) (by decide +kernel), wi_X2_popInto, wx_X2_popInto, ⟨_, rfl, rfl⟩⟩
theorem v_X7_114 : VL RX7 114 6 yX7_matches cX7_matches 4 (some .boolean) 2 := ⟨⟨w_X7_matches, iz_X7, by decide +kernel⟩, tb_mem 494 (by decide +kernel) (by decide +kernel), wi_X7_matches, wx_X7_matches, ⟨_, rfl, rfl⟩⟩
theorem v_X7_118 : VL RX7 118 6 yX7_since cX7_since 3 (some .int) 1 := ⟨⟨w_X7_since, iz_X7, by decide +kernel⟩, tb_mem 511 (by decide +kernel) (by decide +kernel), wi_X7_since, wx_X7_since, ⟨_, rfl, rfl⟩⟩
theorem v_X7_122 : VL RX7 122 6 yX7_keyOf cX7_keyOf 5 (some .int) 1 := ⟨⟨w_X7_keyOf, iz_X7, by decide +kernel⟩, tb_mem 515 (by decide +kernel) (by decide +kernel), wi_X7_keyOf, wx_X7_keyOf, ⟨_, rfl, rfl⟩⟩
theorem v_X7_125 : VL RX7 125 5 yX6_find cX6_find 3 (some .int) 1 := ⟨⟨w_X6_find, iz_X6, by decide +kernel⟩, tb_mem 507 (by decide +kernel) (by decide +kernel), wi_X6_find, wx_X6_find, ⟨_, rfl, rfl⟩⟩
theorem v_X7_128 : VL RX7 128 6 yX7_isAsked cX7_isAsked 3 (some .boolean) 1 := ⟨⟨w_X7_isAsked, iz_X7, by decide +kernel⟩, tb_mem 523 (by decide +kernel) (by decide +kernel), wi_X7_isAsked, wx_X7_isAsked, ⟨_, rfl, rfl⟩⟩
theorem v_X7_131 : VL RX7 131 1 yX1_place cX1_place 3 (some .int) 2 := ⟨⟨w_X1_place, iz_X1, by decide +kernel⟩, tb_mem 498 (by decide +kernel) (by decide +kernel), wi_X1_place, wx_X1_place, ⟨_, rfl, rfl⟩⟩
theorem v_X7_147 : VL RX7 147 6 yX7_holds cX7_holds 5 (some .boolean) 2 := ⟨⟨w_X7_holds, iz_X7, by decide +kernel⟩, tb_mem 499 (by decide +kernel) (by decide +kernel), wi_X7_holds, wx_X7_holds, ⟨_, rfl, rfl⟩⟩
theorem v_X7_150 : VL RX7 150 6 yX7_searchFor cX7_searchFor 3 (some (.object RX4)) 1 := ⟨⟨w_X7_searchFor, iz_X7, by decide +kernel⟩, tb_mem 535 (by decide +kernel) (by decide +kernel), wi_X7_searchFor, wx_X7_searchFor, ⟨_, rfl, rfl⟩⟩
theorem v_X7_154 : VL RX7 154 3 yX4_fewestFrom cX4_fewestFrom 6 (some .int) 1 := ⟨⟨w_X4_fewestFrom, iz_X4, by decide +kernel⟩, tb_mem 606 (by decide +kernel) (by decide +kernel), wi_X4_fewestFrom, wx_X4_fewestFrom, ⟨_, rfl, rfl⟩⟩
theorem v_X7_159 : VL RX7 159 3 yX4_letterOfRow cX4_letterOfRow 5 (some .int) 2 := ⟨⟨w_X4_letterOfRow, iz_X4, by decide +kernel⟩, tb_mem 626 (by decide +kernel) (by decide +kernel), wi_X4_letterOfRow, wx_X4_letterOfRow, ⟨_, rfl, rfl⟩⟩
theorem v_X7_162 : VL RX7 162 3 yX4_stateBehind cX4_stateBehind 4 (some .int) 1 := ⟨⟨w_X4_stateBehind, iz_X4, by decide +kernel⟩, tb_mem 635 (by decide +kernel) (by decide +kernel), wi_X4_stateBehind, wx_X4_stateBehind, ⟨_, rfl, rfl⟩⟩
theorem v_X7_167 : VL RX7 167 3 yX4_rowsOf cX4_rowsOf 5 (some .long) 1 := ⟨⟨w_X4_rowsOf, iz_X4, by decide +kernel⟩, tb_mem 644 (by decide +kernel) (by decide +kernel), wi_X4_rowsOf, wx_X4_rowsOf, ⟨_, rfl, rfl⟩⟩
theorem v_X7_171 : VL RX7 171 6 yX7_isWord cX7_isWord 2 (some .boolean) 1 := ⟨⟨w_X7_isWord, iz_X7, by decide +kernel⟩, tb_mem 656 (by decide +kernel) (by decide +kernel), wi_X7_isWord, wx_X7_isWord, ⟨_, rfl, rfl⟩⟩
theorem v_X7_195 : VL RX7 195 6 yX7_isNode cX7_isNode 2 (some .boolean) 1 := ⟨⟨w_X7_isNode, iz_X7, by decide +kernel⟩, tb_mem 678 (by decide +kernel) (by decide +kernel), wi_X7_isNode, wx_X7_isNode, ⟨_, rfl, rfl⟩⟩
theorem v_X7_215 : VL RX7 215 6 yX7_matching cX7_matching 4 (some .int) 1 := ⟨⟨w_X7_matching, iz_X7, by decide +kernel⟩, tb_mem 694 (by decide +kernel) (by decide +kernel), wi_X7_matching, wx_X7_matching, ⟨_, rfl, rfl⟩⟩
theorem v_X7_218 : VL RX7 218 6 yX7_withoutLast cX7_withoutLast 1 (some .int) 0 := ⟨⟨w_X7_withoutLast, iz_X7, by decide +kernel⟩, tb_mem 698 (by decide +kernel) (by decide +kernel), wi_X7_withoutLast, wx_X7_withoutLast, ⟨_, rfl, rfl⟩⟩
theorem v_X7_222 : VL RX7 222 6 yX7_asked cX7_asked 3 (some .int) 0 := ⟨⟨w_X7_asked, iz_X7, by decide +kernel⟩, tb_mem 703 (by decide +kernel) (by decide +kernel), wi_X7_asked, wx_X7_asked, ⟨_, rfl, rfl⟩⟩
theorem v_X7_225 : VL RX7 225 6 yX7_allHits cX7_allHits 3 (some .int) 0 := ⟨⟨w_X7_allHits, iz_X7, by decide +kernel⟩, tb_mem 707 (by decide +kernel) (by decide +kernel), wi_X7_allHits, wx_X7_allHits, ⟨_, rfl, rfl⟩⟩
theorem v_X7_228 : VL RX7 228 2 yX2_forget cX2_forget 1 none 0 := ⟨⟨w_X2_forget, iz_X2, by decide +kernel⟩, tb_mem 719 (by decide +kernel) (by decide +kernel), wi_X2_forget, wx_X2_forget, ⟨_, rfl, rfl⟩⟩
theorem v_X7_237 : VL RX7 237 5 yX6_gatherAll cX6_gatherAll 3 none 1 := ⟨⟨w_X6_gatherAll, iz_X6, by decide +kernel⟩, tb_mem 418 (by decide +kernel) (by decide +kernel), wi_X6_gatherAll, wx_X6_gatherAll, ⟨_, rfl, rfl⟩⟩
theorem v_X7_240 : VL RX7 240 0 yX0_build cX0_build 3 none 1 := ⟨⟨w_X0_build, iz_X0, by decide +kernel⟩, tb_mem 419 (by decide +kernel) (by decide +kernel), wi_X0_build, wx_X0_build, ⟨_, rfl, rfl⟩⟩
theorem v_X7_250 : VL RX7 250 6 yX7_hitsOf cX7_hitsOf 3 (some .long) 1 := ⟨⟨w_X7_hitsOf, iz_X7, by decide +kernel⟩, tb_mem 503 (by decide +kernel) (by decide +kernel), wi_X7_hitsOf, wx_X7_hitsOf, ⟨_, rfl, rfl⟩⟩
theorem v_X7_270 : VL RX7 270 3 yX4_prepare cX4_prepare 6 none 2 := ⟨⟨w_X4_prepare, iz_X4, by decide +kernel⟩, tb_mem 589 (by decide +kernel) (by decide +kernel), wi_X4_prepare, wx_X4_prepare, ⟨_, rfl, rfl⟩⟩
theorem v_X8_23 : VL RX8 23 7 yX8_byteAt cX8_byteAt 2 (some .int) 1 := ⟨⟨w_X8_byteAt, iz_X8, by decide +kernel⟩, tb_mem 899 (by decide +kernel) (by decide +kernel), wi_X8_byteAt, wx_X8_byteAt, ⟨_, rfl, rfl⟩⟩
theorem v_X8_69 : VL RX8 69 7 yX8_addWord cX8_addWord 4 none 1 := ⟨⟨w_X8_addWord, iz_X8, by decide +kernel⟩, tb_mem 759 (by decide +kernel) (by decide +kernel), wi_X8_addWord, wx_X8_addWord, ⟨_, rfl, rfl⟩⟩
theorem v_X8_84 : VL RX8 84 7 yX8_nodeOf cX8_nodeOf 3 (some .int) 1 := ⟨⟨w_X8_nodeOf, iz_X8, by decide +kernel⟩, tb_mem 785 (by decide +kernel) (by decide +kernel), wi_X8_nodeOf, wx_X8_nodeOf, ⟨_, rfl, rfl⟩⟩
theorem v_X8_90 : VL RX8 90 7 yX8_layWords cX8_layWords 4 none 1 := ⟨⟨w_X8_layWords, iz_X8, by decide +kernel⟩, tb_mem 749 (by decide +kernel) (by decide +kernel), wi_X8_layWords, wx_X8_layWords, ⟨_, rfl, rfl⟩⟩
theorem v_X8_94 : VL RX8 94 7 yX8_addNode cX8_addNode 4 none 1 := ⟨⟨w_X8_addNode, iz_X8, by decide +kernel⟩, tb_mem 770 (by decide +kernel) (by decide +kernel), wi_X8_addNode, wx_X8_addNode, ⟨_, rfl, rfl⟩⟩
theorem v_X8_103 : VL RX8 103 7 yX8_longest cX8_longest 5 (some .int) 2 := ⟨⟨w_X8_longest, iz_X8, by decide +kernel⟩, tb_mem 778 (by decide +kernel) (by decide +kernel), wi_X8_longest, wx_X8_longest, ⟨_, rfl, rfl⟩⟩
theorem v_X8_144 : VL RX8 144 7 yX8_make cX8_make 5 none 0 := ⟨⟨w_X8_make, iz_X8, by decide +kernel⟩, tb_mem 745 (by decide +kernel) (by decide +kernel), wi_X8_make, wx_X8_make, ⟨_, rfl, rfl⟩⟩
theorem v_X8_147 : VL RX8 147 7 yX8_step cX8_step 2 none 0 := ⟨⟨w_X8_step, iz_X8, by decide +kernel⟩, tb_mem 895 (by decide +kernel) (by decide +kernel), wi_X8_step, wx_X8_step, ⟨_, rfl, rfl⟩⟩
theorem v_X8_150 : VL RX8 150 7 yX8_readWord cX8_readWord 4 (some .int) 0 := ⟨⟨w_X8_readWord, iz_X8, by decide +kernel⟩, tb_mem 927 (by decide +kernel) (by decide +kernel), wi_X8_readWord, wx_X8_readWord, ⟨_, rfl, rfl⟩⟩
theorem v_X8_156 : VL RX8 156 7 yX8_isName cX8_isName 2 (some .boolean) 1 := ⟨⟨w_X8_isName, iz_X8, by decide +kernel⟩, tb_mem 911 (by decide +kernel) (by decide +kernel), wi_X8_isName, wx_X8_isName, ⟨_, rfl, rfl⟩⟩
theorem v_X8_160 : VL RX8 160 7 yX8_isWhole cX8_isWhole 1 (some .boolean) 0 := ⟨⟨w_X8_isWhole, iz_X8, by decide +kernel⟩, tb_mem 915 (by decide +kernel) (by decide +kernel), wi_X8_isWhole, wx_X8_isWhole, ⟨_, rfl, rfl⟩⟩
theorem v_X8_164 : VL RX8 164 7 yX8_hasNear cX8_hasNear 4 (some .boolean) 1 := ⟨⟨w_X8_hasNear, iz_X8, by decide +kernel⟩, tb_mem 919 (by decide +kernel) (by decide +kernel), wi_X8_hasNear, wx_X8_hasNear, ⟨_, rfl, rfl⟩⟩
theorem v_X8_167 : VL RX8 167 7 yX8_readPart cX8_readPart 7 (some .boolean) 1 := ⟨⟨w_X8_readPart, iz_X8, by decide +kernel⟩, tb_mem 923 (by decide +kernel) (by decide +kernel), wi_X8_readPart, wx_X8_readPart, ⟨_, rfl, rfl⟩⟩
theorem v_X8_174 : VL RX8 174 7 yX8_readItem cX8_readItem 3 (some .boolean) 0 := ⟨⟨w_X8_readItem, iz_X8, by decide +kernel⟩, tb_mem 907 (by decide +kernel) (by decide +kernel), wi_X8_readItem, wx_X8_readItem, ⟨_, rfl, rfl⟩⟩
theorem v_X8_177 : VL RX8 177 7 yX8_keepAct cX8_keepAct 2 none 0 := ⟨⟨w_X8_keepAct, iz_X8, by decide +kernel⟩, tb_mem 932 (by decide +kernel) (by decide +kernel), wi_X8_keepAct, wx_X8_keepAct, ⟨_, rfl, rfl⟩⟩
theorem v_X8_183 : VL RX8 183 7 yX8_isQuery cX8_isQuery 2 (some .boolean) 1 := ⟨⟨w_X8_isQuery, iz_X8, by decide +kernel⟩, tb_mem 940 (by decide +kernel) (by decide +kernel), wi_X8_isQuery, wx_X8_isQuery, ⟨_, rfl, rfl⟩⟩
theorem v_X8_188 : VL RX8 188 7 yX8_nodeAt cX8_nodeAt 4 (some .int) 1 := ⟨⟨w_X8_nodeAt, iz_X8, by decide +kernel⟩, tb_mem 949 (by decide +kernel) (by decide +kernel), wi_X8_nodeAt, wx_X8_nodeAt, ⟨_, rfl, rfl⟩⟩
theorem v_X8_195 : VL RX8 195 7 yX8_numberOf cX8_numberOf 3 (some .int) 1 := ⟨⟨w_X8_numberOf, iz_X8, by decide +kernel⟩, tb_mem 977 (by decide +kernel) (by decide +kernel), wi_X8_numberOf, wx_X8_numberOf, ⟨_, rfl, rfl⟩⟩
theorem v_X8_198 : VL RX8 198 7 yX8_hits cX8_hits 5 (some .int) 2 := ⟨⟨w_X8_hits, iz_X8, by decide +kernel⟩, tb_mem 981 (by decide +kernel) (by decide +kernel), wi_X8_hits, wx_X8_hits, ⟨_, rfl, rfl⟩⟩
theorem v_X8_201 : VL RX8 201 7 yX8_holds cX8_holds 10 (some .boolean) 3 := ⟨⟨w_X8_holds, iz_X8, by decide +kernel⟩, tb_mem 973 (by decide +kernel) (by decide +kernel), wi_X8_holds, wx_X8_holds, ⟨_, rfl, rfl⟩⟩
theorem v_X8_205 : VL RX8 205 7 yX8_matches cX8_matches 5 (some .boolean) 2 := ⟨⟨w_X8_matches, iz_X8, by decide +kernel⟩, tb_mem 969 (by decide +kernel) (by decide +kernel), wi_X8_matches, wx_X8_matches, ⟨_, rfl, rfl⟩⟩
theorem v_X8_208 : VL RX8 208 7 yX8_key cX8_key 6 (some .int) 1 := ⟨⟨w_X8_key, iz_X8, by decide +kernel⟩, tb_mem 992 (by decide +kernel) (by decide +kernel), wi_X8_key, wx_X8_key, ⟨_, rfl, rfl⟩⟩
theorem v_X8_211 : VL RX8 211 7 yX8_layEnds cX8_layEnds 3 none 0 := ⟨⟨w_X8_layEnds, iz_X8, by decide +kernel⟩, tb_mem 965 (by decide +kernel) (by decide +kernel), wi_X8_layEnds, wx_X8_layEnds, ⟨_, rfl, rfl⟩⟩
theorem v_X8_214 : VL RX8 214 7 yX8_since cX8_since 3 (some .int) 1 := ⟨⟨w_X8_since, iz_X8, by decide +kernel⟩, tb_mem 988 (by decide +kernel) (by decide +kernel), wi_X8_since, wx_X8_since, ⟨_, rfl, rfl⟩⟩
theorem v_X8_217 : VL RX8 217 7 yX8_isAsked cX8_isAsked 3 (some .boolean) 1 := ⟨⟨w_X8_isAsked, iz_X8, by decide +kernel⟩, tb_mem 996 (by decide +kernel) (by decide +kernel), wi_X8_isAsked, wx_X8_isAsked, ⟨_, rfl, rfl⟩⟩
theorem v_X8_245 : VL RX8 245 7 yX8_isDone cX8_isDone 2 (some .boolean) 1 := ⟨⟨w_X8_isDone, iz_X8, by decide +kernel⟩, tb_mem 1023 (by decide +kernel) (by decide +kernel), wi_X8_isDone, wx_X8_isDone, ⟨_, rfl, rfl⟩⟩
theorem v_X8_250 : VL RX8 250 7 yX8_behind cX8_behind 8 (some .int) 3 := ⟨⟨w_X8_behind, iz_X8, by decide +kernel⟩, tb_mem 1028 (by decide +kernel) (by decide +kernel), wi_X8_behind, wx_X8_behind, ⟨_, rfl, rfl⟩⟩
theorem v_X8_255 : VL RX8 255 7 yX8_takes cX8_takes 5 none 1 := ⟨⟨w_X8_takes, iz_X8, by decide +kernel⟩, tb_mem 1008 (by decide +kernel) (by decide +kernel), wi_X8_takes, wx_X8_takes, ⟨_, rfl, rfl⟩⟩
theorem v_X8_258 : VL RX8 258 7 yX8_begins cX8_begins 1 (some .int) 0 := ⟨⟨w_X8_begins, iz_X8, by decide +kernel⟩, tb_mem 1012 (by decide +kernel) (by decide +kernel), wi_X8_begins, wx_X8_begins, ⟨_, rfl, rfl⟩⟩
theorem v_X8_261 : VL RX8 261 7 yX8_nearest cX8_nearest 9 (some .int) 2 := ⟨⟨w_X8_nearest, iz_X8, by decide +kernel⟩, tb_mem 1019 (by decide +kernel) (by decide +kernel), wi_X8_nearest, wx_X8_nearest, ⟨_, rfl, rfl⟩⟩
theorem v_X8_270 : VL RX8 270 7 yX8_allHits cX8_allHits 3 (some .int) 0 := ⟨⟨w_X8_allHits, iz_X8, by decide +kernel⟩, tb_mem 1068 (by decide +kernel) (by decide +kernel), wi_X8_allHits, wx_X8_allHits, ⟨_, rfl, rfl⟩⟩
theorem s_X0_37 : SL RX0 37 yJ7_fill_53178 cJ7_fill_53178 4 none 2 := ⟨⟨w_J7_fill_53178, iz_J7, by decide +kernel⟩, tb_mem 423 (by decide +kernel) (by decide +kernel), ws_J7_fill_53178⟩
theorem s_X0_60 : SL RX0 60 yX3_sizeOf cX3_sizeOf 3 (some .int) 1 := ⟨⟨w_X3_sizeOf, iz_X3, by decide +kernel⟩, tb_mem 430 (by decide +kernel) (by decide +kernel), ws_X3_sizeOf⟩
theorem s_X0_64 : SL RX0 64 yX3_headOf cX3_headOf 2 (some .int) 2 := ⟨⟨w_X3_headOf, iz_X3, by decide +kernel⟩, tb_mem 433 (by decide +kernel) (by decide +kernel), ws_X3_headOf⟩
theorem s_X0_68 : SL RX0 68 yX3_letterAt cX3_letterAt 2 (some .int) 2 := ⟨⟨w_X3_letterAt, iz_X3, by decide +kernel⟩, tb_mem 436 (by decide +kernel) (by decide +kernel), ws_X3_letterAt⟩
theorem s_X3_11 : SL RX3 11 yX3_shiftOf cX3_shiftOf 1 (some .int) 1 := ⟨⟨w_X3_shiftOf, iz_X3, by decide +kernel⟩, tb_mem 386 (by decide +kernel) (by decide +kernel), ws_X3_shiftOf⟩
theorem s_X4_52 : SL RX4 52 yJ7_fill_53178 cJ7_fill_53178 4 none 2 := ⟨⟨w_J7_fill_53178, iz_J7, by decide +kernel⟩, tb_mem 598 (by decide +kernel) (by decide +kernel), ws_J7_fill_53178⟩
theorem s_X5_105 : SLN RX5 105 yX7_isLetter cX7_isLetter 1 (some .boolean) 1 := ⟨⟨w_X7_isLetter, iz_X7, by decide +kernel⟩, ⟨_, nw_mem (w := Cond.methodLinkNest RX5 105 yX7_isLetter "StandingQueries") 380 (by decide +kernel) (by decide +kernel)⟩, ws_X7_isLetter⟩
theorem s_X5_108 : SL RX5 108 yX3_withLetter cX3_withLetter 3 (some .int) 3 := ⟨⟨w_X3_withLetter, iz_X3, by decide +kernel⟩, tb_mem 383 (by decide +kernel) (by decide +kernel), ws_X3_withLetter⟩
theorem s_X5_115 : SL RX5 115 yX5_kindOf cX5_kindOf 1 (some .int) 1 := ⟨⟨w_X5_kindOf, iz_X5, by decide +kernel⟩, tb_mem 337 (by decide +kernel) (by decide +kernel), ws_X5_kindOf⟩
theorem s_X7_88 : SL RX7 88 yX7_isLetter cX7_isLetter 1 (some .boolean) 1 := ⟨⟨w_X7_isLetter, iz_X7, by decide +kernel⟩, tb_mem 477 (by decide +kernel) (by decide +kernel), ws_X7_isLetter⟩
theorem s_X7_177 : SL RX7 177 yX3_sizeOf cX3_sizeOf 3 (some .int) 1 := ⟨⟨w_X3_sizeOf, iz_X3, by decide +kernel⟩, tb_mem 522 (by decide +kernel) (by decide +kernel), ws_X3_sizeOf⟩
theorem s_X7_182 : SL RX7 182 yX3_letterAt cX3_letterAt 2 (some .int) 2 := ⟨⟨w_X3_letterAt, iz_X3, by decide +kernel⟩, tb_mem 660 (by decide +kernel) (by decide +kernel), ws_X3_letterAt⟩
theorem s_X7_185 : SL RX7 185 yJ13_bitCount_95d88 cJ13_bitCount_95d88 2 (some .int) 1 := ⟨⟨w_J13_bitCount_95d88, iz_J13, by decide +kernel⟩, tb_mem 665 (by decide +kernel) (by decide +kernel), ws_J13_bitCount_95d88⟩
theorem s_X7_191 : SL RX7 191 yX7_placeOfBit cX7_placeOfBit 5 (some .int) 2 := ⟨⟨w_X7_placeOfBit, iz_X7, by decide +kernel⟩, tb_mem 671 (by decide +kernel) (by decide +kernel), ws_X7_placeOfBit⟩
theorem s_X7_244 : SL RX7 244 yJ7_fill_d0a16 cJ7_fill_d0a16 5 none 2 := ⟨⟨w_J7_fill_d0a16, iz_J7, by decide +kernel⟩, tb_mem 454 (by decide +kernel) (by decide +kernel), ws_J7_fill_d0a16⟩
theorem s_X7_253 : SL RX7 253 yX7_isNear cX7_isNear 6 (some .boolean) 3 := ⟨⟨w_X7_isNear, iz_X7, by decide +kernel⟩, tb_mem 508 (by decide +kernel) (by decide +kernel), ws_X7_isNear⟩
theorem s_X7_262 : SL RX7 262 yX7_isBetterKey cX7_isBetterKey 3 (some .boolean) 2 := ⟨⟨w_X7_isBetterKey, iz_X7, by decide +kernel⟩, tb_mem 519 (by decide +kernel) (by decide +kernel), ws_X7_isBetterKey⟩
theorem s_X8_9 : SL RX8 9 yX8_in cX8_in 6 (some .boolean) 3 := ⟨⟨w_X8_in, iz_X8, by decide +kernel⟩, tb_mem 732 (by decide +kernel) (by decide +kernel), ws_X8_in⟩
theorem s_X8_48 : SL RX8 48 yX8_letterOf cX8_letterOf 2 (some .int) 2 := ⟨⟨w_X8_letterOf, iz_X8, by decide +kernel⟩, tb_mem 767 (by decide +kernel) (by decide +kernel), ws_X8_letterOf⟩
theorem s_X8_58 : SL RX8 58 yX8_order cX8_order 6 (some .int) 2 := ⟨⟨w_X8_order, iz_X8, by decide +kernel⟩, tb_mem 763 (by decide +kernel) (by decide +kernel), ws_X8_order⟩
theorem s_X8_61 : SL RX8 61 yX8_parts cX8_parts 2 (some .int) 2 := ⟨⟨w_X8_parts, iz_X8, by decide +kernel⟩, tb_mem 753 (by decide +kernel) (by decide +kernel), ws_X8_parts⟩
theorem s_X8_65 : SL RX8 65 yX8_of cX8_of 4 (some .int) 4 := ⟨⟨w_X8_of, iz_X8, by decide +kernel⟩, tb_mem 756 (by decide +kernel) (by decide +kernel), ws_X8_of⟩
theorem s_X8_81 : SL RX8 81 yX8_lasts cX8_lasts 2 (some .int) 2 := ⟨⟨w_X8_lasts, iz_X8, by decide +kernel⟩, tb_mem 782 (by decide +kernel) (by decide +kernel), ws_X8_lasts⟩
theorem s_X8_97 : SL RX8 97 yX8_firsts cX8_firsts 2 (some .int) 2 := ⟨⟨w_X8_firsts, iz_X8, by decide +kernel⟩, tb_mem 774 (by decide +kernel) (by decide +kernel), ws_X8_firsts⟩
theorem s_X8_112 : SL RX8 112 yX8_withLetter cX8_withLetter 2 (some .int) 2 := ⟨⟨w_X8_withLetter, iz_X8, by decide +kernel⟩, tb_mem 789 (by decide +kernel) (by decide +kernel), ws_X8_withLetter⟩
theorem s_X8_170 : SL RX8 170 yX8_copyAll cX8_copyAll 3 none 2 := ⟨⟨w_X8_copyAll, iz_X8, by decide +kernel⟩, tb_mem 892 (by decide +kernel) (by decide +kernel), ws_X8_copyAll⟩
theorem s_X8_191 : SL RX8 191 yX8_has cX8_has 2 (some .boolean) 2 := ⟨⟨w_X8_has, iz_X8, by decide +kernel⟩, tb_mem 985 (by decide +kernel) (by decide +kernel), ws_X8_has⟩
theorem s_X8_238 : SL RX8 238 yX8_stateOf cX8_stateOf 3 (some .int) 3 := ⟨⟨w_X8_stateOf, iz_X8, by decide +kernel⟩, tb_mem 1016 (by decide +kernel) (by decide +kernel), ws_X8_stateOf⟩
theorem i_X2_21 : ILN RX2 21 yX1_init cX1_init 1 0 := ⟨⟨w_X1_init, iz_X1, by decide +kernel⟩, ⟨_, nw_mem (w := Cond.methodLinkNest RX2 21 yX1_init "StandingQueries") 408 (by decide +kernel) (by decide +kernel)⟩, wi_X1_init, rfl⟩
theorem i_X4_13 : IL RX4 13 yX6_init cX6_init 2 1 := ⟨⟨w_X6_init, iz_X6, by decide +kernel⟩, tb_mem 546 (by decide +kernel) (by decide +kernel), wi_X6_init, rfl⟩
theorem i_X4_22 : IL RX4 22 yX0_init cX0_init 3 1 := ⟨⟨w_X0_init, iz_X0, by decide +kernel⟩, tb_mem 548 (by decide +kernel) (by decide +kernel), wi_X0_init, rfl⟩
theorem i_X5_17 : ILN RX5 17 yX1_init cX1_init 1 0 := ⟨⟨w_X1_init, iz_X1, by decide +kernel⟩, ⟨_, nw_mem (w := Cond.methodLinkNest RX5 17 yX1_init "StandingQueries") 98 (by decide +kernel) (by decide +kernel)⟩, wi_X1_init, rfl⟩
theorem i_X5_24 : IL RX5 24 yX6_init cX6_init 2 1 := ⟨⟨w_X6_init, iz_X6, by decide +kernel⟩, tb_mem 151 (by decide +kernel) (by decide +kernel), wi_X6_init, rfl⟩
theorem i_X7_9 : ILN RX7 9 yX5_init cX5_init 1 0 := ⟨⟨w_X5_init, iz_X5, by decide +kernel⟩, ⟨_, nw_mem (w := Cond.methodLinkNest RX7 9 yX5_init "StandingQueries") 92 (by decide +kernel) (by decide +kernel)⟩, wi_X5_init, rfl⟩
theorem i_X7_18 : ILN RX7 18 yX1_init cX1_init 1 0 := ⟨⟨w_X1_init, iz_X1, by decide +kernel⟩, ⟨_, nw_mem (w := Cond.methodLinkNest RX7 18 yX1_init "StandingQueries") 194 (by decide +kernel) (by decide +kernel)⟩, wi_X1_init, rfl⟩
theorem i_X7_25 : ILN RX7 25 yX2_init cX2_init 1 0 := ⟨⟨w_X2_init, iz_X2, by decide +kernel⟩, ⟨_, nw_mem (w := Cond.methodLinkNest RX7 25 yX2_init "StandingQueries") 197 (by decide +kernel) (by decide +kernel)⟩, wi_X2_init, rfl⟩
theorem i_X7_36 : IL RX7 36 yX6_init cX6_init 2 1 := ⟨⟨w_X6_init, iz_X6, by decide +kernel⟩, tb_mem 215 (by decide +kernel) (by decide +kernel), wi_X6_init, rfl⟩
theorem i_X7_45 : IL RX7 45 yX0_init cX0_init 3 1 := ⟨⟨w_X0_init, iz_X0, by decide +kernel⟩, tb_mem 218 (by decide +kernel) (by decide +kernel), wi_X0_init, rfl⟩
theorem i_X7_269 : ILN RX7 269 yX4_init cX4_init 1 0 := ⟨⟨w_X4_init, iz_X4, by decide +kernel⟩, ⟨_, nw_mem (w := Cond.methodLinkNest RX7 269 yX4_init "StandingQueries") 541 (by decide +kernel) (by decide +kernel)⟩, wi_X4_init, rfl⟩
theorem n_X2_9 : NL RX2 9 1 := ⟨RX1, TX1, tyX1, rfl, u_in_X1, tyX1_ok, by decide, tb_mem 201 (by decide +kernel) (by decide +kernel), tb_mem 97 (by decide +kernel) (by decide +kernel), tb_mem 71 (by decide +kernel) (by decide +kernel)⟩
theorem cl_X2_9 : Cond.classLink RX2 9 RX1 ∈ TB := tb_mem 201 (by decide +kernel) (by decide +kernel)
theorem n_X4_11 : NL RX4 11 5 := ⟨RX6, TX6, tyX6, rfl, u_in_X6, tyX6_ok, by decide, tb_mem 545 (by decide +kernel) (by decide +kernel), tb_mem 150 (by decide +kernel) (by decide +kernel), tb_mem 72 (by decide +kernel) (by decide +kernel)⟩
theorem n_X4_20 : NL RX4 20 0 := ⟨RX0, TX0, tyX0, rfl, u_in_X0, tyX0_ok, by decide, tb_mem 547 (by decide +kernel) (by decide +kernel), tb_mem 217 (by decide +kernel) (by decide +kernel), tb_mem 74 (by decide +kernel) (by decide +kernel)⟩
theorem n_X5_15 : NL RX5 15 1 := ⟨RX1, TX1, tyX1, rfl, u_in_X1, tyX1_ok, by decide, tb_mem 96 (by decide +kernel) (by decide +kernel), tb_mem 97 (by decide +kernel) (by decide +kernel), tb_mem 71 (by decide +kernel) (by decide +kernel)⟩
theorem n_X5_22 : NL RX5 22 5 := ⟨RX6, TX6, tyX6, rfl, u_in_X6, tyX6_ok, by decide, tb_mem 149 (by decide +kernel) (by decide +kernel), tb_mem 150 (by decide +kernel) (by decide +kernel), tb_mem 72 (by decide +kernel) (by decide +kernel)⟩
theorem n_X7_155 : NL RX7 155 3 := ⟨RX4, TX4, tyX4, rfl, u_in_X4, tyX4_ok, by decide, tb_mem 539 (by decide +kernel) (by decide +kernel), tb_mem 540 (by decide +kernel) (by decide +kernel), tb_mem 80 (by decide +kernel) (by decide +kernel)⟩
theorem n_X7_16 : NL RX7 16 1 := ⟨RX1, TX1, tyX1, rfl, u_in_X1, tyX1_ok, by decide, tb_mem 193 (by decide +kernel) (by decide +kernel), tb_mem 97 (by decide +kernel) (by decide +kernel), tb_mem 71 (by decide +kernel) (by decide +kernel)⟩
theorem cl_X7_16 : Cond.classLink RX7 16 RX1 ∈ TB := tb_mem 193 (by decide +kernel) (by decide +kernel)
theorem n_X7_23 : NL RX7 23 2 := ⟨RX2, TX2, tyX2, rfl, u_in_X2, tyX2_ok, by decide, tb_mem 195 (by decide +kernel) (by decide +kernel), tb_mem 196 (by decide +kernel) (by decide +kernel), tb_mem 73 (by decide +kernel) (by decide +kernel)⟩
theorem n_X7_34 : NL RX7 34 5 := ⟨RX6, TX6, tyX6, rfl, u_in_X6, tyX6_ok, by decide, tb_mem 214 (by decide +kernel) (by decide +kernel), tb_mem 150 (by decide +kernel) (by decide +kernel), tb_mem 72 (by decide +kernel) (by decide +kernel)⟩
theorem n_X7_43 : NL RX7 43 0 := ⟨RX0, TX0, tyX0, rfl, u_in_X0, tyX0_ok, by decide, tb_mem 216 (by decide +kernel) (by decide +kernel), tb_mem 217 (by decide +kernel) (by decide +kernel), tb_mem 74 (by decide +kernel) (by decide +kernel)⟩
theorem n_X7_7 : NL RX7 7 4 := ⟨RX5, TX5, tyX5, rfl, u_in_X5, tyX5_ok, by decide, tb_mem 90 (by decide +kernel) (by decide +kernel), tb_mem 91 (by decide +kernel) (by decide +kernel), tb_mem 70 (by decide +kernel) (by decide +kernel)⟩
theorem c_J13_314 : Cond.constantLong RJ13 314 (6148914691236517205) ∈ TB := tb_mem 668 (by decide +kernel) (by decide +kernel)
theorem c_J13_316 : Cond.constantLong RJ13 316 (3689348814741910323) ∈ TB := tb_mem 669 (by decide +kernel) (by decide +kernel)
theorem c_J13_318 : Cond.constantLong RJ13 318 (1085102592571150095) ∈ TB := tb_mem 670 (by decide +kernel) (by decide +kernel)
theorem c_X7_165 : Cond.constantLong RX7 165 (-1) ∈ TB := tb_mem 643 (by decide +kernel) (by decide +kernel)
theorem c_X8_7 : Cond.constantLong RX8 7 (255) ∈ TB := tb_mem 731 (by decide +kernel) (by decide +kernel)
theorem c_X8_33 : Cond.constantLong RX8 33 (97) ∈ TB := tb_mem 903 (by decide +kernel) (by decide +kernel)
theorem c_X8_35 : Cond.constantLong RX8 35 (122) ∈ TB := tb_mem 904 (by decide +kernel) (by decide +kernel)
theorem c_X8_40 : Cond.constantLong RX8 40 (48) ∈ TB := tb_mem 905 (by decide +kernel) (by decide +kernel)
theorem c_X8_42 : Cond.constantLong RX8 42 (57) ∈ TB := tb_mem 906 (by decide +kernel) (by decide +kernel)
theorem c_X8_47 : Cond.constant RX8 47 (1048576) ∈ TB := tb_mem 766 (by decide +kernel) (by decide +kernel)
theorem c_X8_79 : Cond.constant RX8 79 (1048575) ∈ TB := tb_mem 777 (by decide +kernel) (by decide +kernel)
theorem c_X8_80 : Cond.constant RX8 80 (262143) ∈ TB := tb_mem 792 (by decide +kernel) (by decide +kernel)
theorem c_X8_154 : Cond.constantLong RX8 154 (9) ∈ TB := tb_mem 931 (by decide +kernel) (by decide +kernel)
theorem c_X8_186 : Cond.constantLong RX8 186 (104) ∈ TB := tb_mem 948 (by decide +kernel) (by decide +kernel)
theorem c_X8_248 : Cond.constantLong RX8 248 (-9) ∈ TB := tb_mem 1027 (by decide +kernel) (by decide +kernel)
theorem c_X8_253 : Cond.constantLong RX8 253 (10) ∈ TB := tb_mem 1032 (by decide +kernel) (by decide +kernel)
theorem c_X8_264 : Cond.constantLong RX8 264 (12) ∈ TB := tb_mem 1041 (by decide +kernel) (by decide +kernel)
theorem c_X8_266 : Cond.constantLong RX8 266 (-1) ∈ TB := tb_mem 1042 (by decide +kernel) (by decide +kernel)
theorem c_X8_268 : Cond.constantLong RX8 268 (5) ∈ TB := tb_mem 1067 (by decide +kernel) (by decide +kernel)
theorem cp_X1_37 : Cond.methodLink RX1 37 arraycopyName ∈ TB := tb_mem 310 (by decide +kernel) (by decide +kernel)
theorem mm_X3_15 : Cond.methodLink RX3 15 Lib.Math.max.name ∈ TB := tb_mem 439 (by decide +kernel) (by decide +kernel)
theorem mm_X4_138 : Cond.methodLink RX4 138 Lib.Math.max.name ∈ TB := tb_mem 630 (by decide +kernel) (by decide +kernel)
theorem mm_X7_257 : Cond.methodLink RX7 257 Lib.Math.max.name ∈ TB := tb_mem 702 (by decide +kernel) (by decide +kernel)
theorem mm_X2_29 : Cond.methodLink RX2 29 Lib.Math.min.name ∈ TB := tb_mem 410 (by decide +kernel) (by decide +kernel)
theorem mm_X4_98 : Cond.methodLink RX4 98 Lib.Math.min.name ∈ TB := tb_mem 605 (by decide +kernel) (by decide +kernel)
theorem oi_X0_3 : Cond.methodLink RX0 3 Lib.objectInit ∈ TB := tb_mem 221 (by decide +kernel) (by decide +kernel)
theorem oi_X1_3 : Cond.methodLink RX1 3 Lib.objectInit ∈ TB := tb_mem 101 (by decide +kernel) (by decide +kernel)
theorem oi_X2_3 : Cond.methodLink RX2 3 Lib.objectInit ∈ TB := tb_mem 200 (by decide +kernel) (by decide +kernel)
theorem oi_X4_5 : Cond.methodLink RX4 5 Lib.objectInit ∈ TB := tb_mem 544 (by decide +kernel) (by decide +kernel)
theorem oi_X5_3 : Cond.methodLink RX5 3 Lib.objectInit ∈ TB := tb_mem 95 (by decide +kernel) (by decide +kernel)
theorem oi_X6_3 : Cond.methodLink RX6 3 Lib.objectInit ∈ TB := tb_mem 154 (by decide +kernel) (by decide +kernel)
theorem oi_X7_1 : Cond.methodLink RX7 1 Lib.objectInit ∈ TB := tb_mem 87 (by decide +kernel) (by decide +kernel)
theorem oi_X8_115 : Cond.methodLink RX8 115 Lib.objectInit ∈ TB := tb_mem 744 (by decide +kernel) (by decide +kernel)
theorem ac_boolean : Cond.arrayClass (newarray.typeOf .boolean) ∈ TB := tb_mem 887 (by decide +kernel) (by decide +kernel)
theorem ac_int : Cond.arrayClass (newarray.typeOf .int) ∈ TB := tb_mem 148 (by decide +kernel) (by decide +kernel)
theorem ac_long : Cond.arrayClass (newarray.typeOf .long) ∈ TB := tb_mem 285 (by decide +kernel) (by decide +kernel)
theorem oi_i : Cond.instanceMethod Lib.objectInit ∈ TB := tb_mem 88 (by decide +kernel) (by decide +kernel)
theorem oi_c : Cond.code Lib.objectInit ⟨#[0xb1]⟩ 1 none ∈ TB := tb_mem 89 (by decide +kernel) (by decide +kernel)
theorem mm_max_s : Cond.static Lib.Math.max.name ∈ TB := tb_mem 440 (by decide +kernel) (by decide +kernel)
theorem mm_max_c : Cond.code Lib.Math.max.name Lib.Math.max.code 2 (some .int) ∈ TB := tb_mem 441 (by decide +kernel) (by decide +kernel)
theorem mm_min_s : Cond.static Lib.Math.min.name ∈ TB := tb_mem 411 (by decide +kernel) (by decide +kernel)
theorem mm_min_c : Cond.code Lib.Math.min.name Lib.Math.min.code 2 (some .int) ∈ TB := tb_mem 412 (by decide +kernel) (by decide +kernel)
theorem mm_i : Cond.initialized "java/lang/Math" ∈ TB := tb_mem 78 (by decide +kernel) (by decide +kernel)
theorem cp_n : Cond.native arraycopyName ∈ TB := tb_mem 312 (by decide +kernel) (by decide +kernel)
theorem cp_s : Cond.static arraycopyName ∈ TB := tb_mem 311 (by decide +kernel) (by decide +kernel)
theorem cp_i : Cond.initialized "java/lang/System" ∈ TB := tb_mem 76 (by decide +kernel) (by decide +kernel)
end
section
-- StandingQueries$Held.<init>()V
theorem dX1_init_0 : decode cX1_init 0 = .ok (.aload_n 0, 1) := by decide +kernel
theorem dX1_init_1 : decode cX1_init 1 = .ok (.invokespecial 3, 3) := by decide +kernel
theorem dX1_init_4 : decode cX1_init 4 = .ok (.aload_n 0, 1) := by decide +kernel
theorem dX1_init_5 : decode cX1_init 5 = .ok (.bipush 8, 2) := by decide +kernel
theorem dX1_init_7 : decode cX1_init 7 = .ok (.newarray .int, 2) := by decide +kernel
theorem dX1_init_9 : decode cX1_init 9 = .ok (.putfield 9, 3) := by decide +kernel
theorem dX1_init_12 : decode cX1_init 12 = .ok (.aload_n 0, 1) := by decide +kernel
theorem dX1_init_13 : decode cX1_init 13 = .ok (.bipush 32, 2) := by decide +kernel
theorem dX1_init_15 : decode cX1_init 15 = .ok (.newarray .int, 2) := by decide +kernel
theorem dX1_init_17 : decode cX1_init 17 = .ok (.putfield 15, 3) := by decide +kernel
theorem dX1_init_20 : decode cX1_init 20 = .ok (.aload_n 0, 1) := by decide +kernel
theorem dX1_init_21 : decode cX1_init 21 = .ok (.bipush 32, 2) := by decide +kernel
theorem dX1_init_23 : decode cX1_init 23 = .ok (.newarray .int, 2) := by decide +kernel
theorem dX1_init_25 : decode cX1_init 25 = .ok (.putfield 18, 3) := by decide +kernel
theorem dX1_init_28 : decode cX1_init 28 = .ok (.aload_n 0, 1) := by decide +kernel
theorem dX1_init_29 : decode cX1_init 29 = .ok (.bipush 32, 2) := by decide +kernel
theorem dX1_init_31 : decode cX1_init 31 = .ok (.newarray .int, 2) := by decide +kernel
theorem dX1_init_33 : decode cX1_init 33 = .ok (.putfield 21, 3) := by decide +kernel
theorem dX1_init_36 : decode cX1_init 36 = .ok (.aload_n 0, 1) := by decide +kernel
theorem dX1_init_37 : decode cX1_init 37 = .ok (.bipush 32, 2) := by decide +kernel
theorem dX1_init_39 : decode cX1_init 39 = .ok (.newarray .int, 2) := by decide +kernel
theorem dX1_init_41 : decode cX1_init 41 = .ok (.putfield 24, 3) := by decide +kernel
theorem dX1_init_44 : decode cX1_init 44 = .ok (.aload_n 0, 1) := by decide +kernel
theorem dX1_init_45 : decode cX1_init 45 = .ok (.bipush 40, 2) := by decide +kernel
theorem dX1_init_47 : decode cX1_init 47 = .ok (.newarray .int, 2) := by decide +kernel
theorem dX1_init_49 : decode cX1_init 49 = .ok (.putfield 27, 3) := by decide +kernel
theorem dX1_init_52 : decode cX1_init 52 = .ok (.return_, 1) := by decide +kernel
abbrev mdX1_init : MD := (cX1_init, RX1, 1, none, yX1_init.name, 1, 12, eT)
set_option maxHeartbeats 2000000 in
set_option maxRecDepth 20000 in
theorem i_X1_init (C : KX) (l0 : Nat) : Imp C yX1_init cX1_init 1 none 1 12 rvV [.ref (kB C + l0)] (m_X1_init l0) := by
  refine Imp.of (by decide) (Nat.le_of_ble_eq_true rfl) [(0, .ref (kB C + l0))] rfl ?_
  show Cmp C mdX1_init (QM rvV) 0 [(0, .ref (kB C + l0))] [] (m_X1_init l0)
  unfold m_X1_init
  refine C_aload_n (D := mdX1_init) (x := kB C + l0) dX1_init_0 rfl 0 rfl ?_
  refine C_objInit (D := mdX1_init) (p := l0) oi_X1_3 oi_i oi_c dX1_init_1 rfl (by decide) (Nat.le_of_ble_eq_true rfl) ?_
  refine C_aload_n (D := mdX1_init) (x := kB C + l0) dX1_init_4 rfl 0 rfl ?_
  refine C_bipush (D := mdX1_init) (v := 8) dX1_init_5 rfl (by decide) ?_
  refine C_newarr (D := mdX1_init) (kd := 100) (by decide) ac_int dX1_init_7 rfl (fun p1 => ?_)
  refine C_putR (D := mdX1_init) (p := l0) (q := p1) f_X1_9 (by first | exact Or.inl rfl | exact Or.inr ⟨rfl, rfl⟩) rfl dX1_init_9 rfl ?_
  refine C_aload_n (D := mdX1_init) (x := kB C + l0) dX1_init_12 rfl 0 rfl ?_
  refine C_bipush (D := mdX1_init) (v := 32) dX1_init_13 rfl (by decide) ?_
  refine C_newarr (D := mdX1_init) (kd := 100) (by decide) ac_int dX1_init_15 rfl (fun p2 => ?_)
  refine C_putR (D := mdX1_init) (p := l0) (q := p2) f_X1_15 (by first | exact Or.inl rfl | exact Or.inr ⟨rfl, rfl⟩) rfl dX1_init_17 rfl ?_
  refine C_aload_n (D := mdX1_init) (x := kB C + l0) dX1_init_20 rfl 0 rfl ?_
  refine C_bipush (D := mdX1_init) (v := 32) dX1_init_21 rfl (by decide) ?_
  refine C_newarr (D := mdX1_init) (kd := 100) (by decide) ac_int dX1_init_23 rfl (fun p3 => ?_)
  refine C_putR (D := mdX1_init) (p := l0) (q := p3) f_X1_18 (by first | exact Or.inl rfl | exact Or.inr ⟨rfl, rfl⟩) rfl dX1_init_25 rfl ?_
  refine C_aload_n (D := mdX1_init) (x := kB C + l0) dX1_init_28 rfl 0 rfl ?_
  refine C_bipush (D := mdX1_init) (v := 32) dX1_init_29 rfl (by decide) ?_
  refine C_newarr (D := mdX1_init) (kd := 100) (by decide) ac_int dX1_init_31 rfl (fun p4 => ?_)
  refine C_putR (D := mdX1_init) (p := l0) (q := p4) f_X1_21 (by first | exact Or.inl rfl | exact Or.inr ⟨rfl, rfl⟩) rfl dX1_init_33 rfl ?_
  refine C_aload_n (D := mdX1_init) (x := kB C + l0) dX1_init_36 rfl 0 rfl ?_
  refine C_bipush (D := mdX1_init) (v := 32) dX1_init_37 rfl (by decide) ?_
  refine C_newarr (D := mdX1_init) (kd := 100) (by decide) ac_int dX1_init_39 rfl (fun p5 => ?_)
  refine C_putR (D := mdX1_init) (p := l0) (q := p5) f_X1_24 (by first | exact Or.inl rfl | exact Or.inr ⟨rfl, rfl⟩) rfl dX1_init_41 rfl ?_
  refine C_aload_n (D := mdX1_init) (x := kB C + l0) dX1_init_44 rfl 0 rfl ?_
  refine C_bipush (D := mdX1_init) (v := 40) dX1_init_45 rfl (by decide) ?_
  refine C_newarr (D := mdX1_init) (kd := 100) (by decide) ac_int dX1_init_47 rfl (fun p6 => ?_)
  refine C_putR (D := mdX1_init) (p := l0) (q := p6) f_X1_27 (by first | exact Or.inl rfl | exact Or.inr ⟨rfl, rfl⟩) rfl dX1_init_49 rfl ?_
  exact C_vret rfl dX1_init_52

-- StandingQueries$Words.<init>(I)V
theorem dX6_init_0 : decode cX6_init 0 = .ok (.aload_n 0, 1) := by decide +kernel
theorem dX6_init_1 : decode cX6_init 1 = .ok (.invokespecial 3, 3) := by decide +kernel
theorem dX6_init_4 : decode cX6_init 4 = .ok (.aload_n 0, 1) := by decide +kernel
theorem dX6_init_5 : decode cX6_init 5 = .ok (.iload_n 1, 1) := by decide +kernel
theorem dX6_init_6 : decode cX6_init 6 = .ok (.newarray .int, 2) := by decide +kernel
theorem dX6_init_8 : decode cX6_init 8 = .ok (.putfield 9, 3) := by decide +kernel
theorem dX6_init_11 : decode cX6_init 11 = .ok (.return_, 1) := by decide +kernel
abbrev mdX6_init : MD := (cX6_init, RX6, 2, none, yX6_init.name, 1, 12, eT)
set_option maxHeartbeats 2000000 in
set_option maxRecDepth 20000 in
theorem i_X6_init (C : KX) (l0 : Nat) (l1 : Int32) : Imp C yX6_init cX6_init 2 none 1 12 rvV [.ref (kB C + l0), .int l1] (m_X6_init l0 l1) := by
  refine Imp.of (by decide) (Nat.le_of_ble_eq_true rfl) [(0, .ref (kB C + l0)), (1, .int l1)] rfl ?_
  show Cmp C mdX6_init (QM rvV) 0 [(0, .ref (kB C + l0)), (1, .int l1)] [] (m_X6_init l0 l1)
  unfold m_X6_init
  refine C_aload_n (D := mdX6_init) (x := kB C + l0) dX6_init_0 rfl 0 rfl ?_
  refine C_objInit (D := mdX6_init) (p := l0) oi_X6_3 oi_i oi_c dX6_init_1 rfl (by decide) (Nat.le_of_ble_eq_true rfl) ?_
  refine C_aload_n (D := mdX6_init) (x := kB C + l0) dX6_init_4 rfl 0 rfl ?_
  refine C_iload_n (D := mdX6_init) (x := l1) dX6_init_5 rfl 1 rfl ?_
  refine C_newarr (D := mdX6_init) (kd := 100) (by decide) ac_int dX6_init_6 rfl (fun p1 => ?_)
  refine C_putR (D := mdX6_init) (p := l0) (q := p1) f_X6_9 (by first | exact Or.inl rfl | exact Or.inr ⟨rfl, rfl⟩) rfl dX6_init_8 rfl ?_
  exact C_vret rfl dX6_init_11

-- StandingQueries$Text.<init>()V
theorem dX5_init_0 : decode cX5_init 0 = .ok (.aload_n 0, 1) := by decide +kernel
theorem dX5_init_1 : decode cX5_init 1 = .ok (.invokespecial 3, 3) := by decide +kernel
theorem dX5_init_4 : decode cX5_init 4 = .ok (.aload_n 0, 1) := by decide +kernel
theorem dX5_init_5 : decode cX5_init 5 = .ok (.sipush 150, 3) := by decide +kernel
theorem dX5_init_8 : decode cX5_init 8 = .ok (.newarray .int, 2) := by decide +kernel
theorem dX5_init_10 : decode cX5_init 10 = .ok (.putfield 9, 3) := by decide +kernel
theorem dX5_init_13 : decode cX5_init 13 = .ok (.aload_n 0, 1) := by decide +kernel
theorem dX5_init_14 : decode cX5_init 14 = .ok (.new 15, 3) := by decide +kernel
theorem dX5_init_17 : decode cX5_init 17 = .ok (.dup, 1) := by decide +kernel
theorem dX5_init_18 : decode cX5_init 18 = .ok (.invokespecial 17, 3) := by decide +kernel
theorem dX5_init_21 : decode cX5_init 21 = .ok (.putfield 18, 3) := by decide +kernel
theorem dX5_init_24 : decode cX5_init 24 = .ok (.aload_n 0, 1) := by decide +kernel
theorem dX5_init_25 : decode cX5_init 25 = .ok (.new 22, 3) := by decide +kernel
theorem dX5_init_28 : decode cX5_init 28 = .ok (.dup, 1) := by decide +kernel
theorem dX5_init_29 : decode cX5_init 29 = .ok (.bipush 16, 2) := by decide +kernel
theorem dX5_init_31 : decode cX5_init 31 = .ok (.invokespecial 24, 3) := by decide +kernel
theorem dX5_init_34 : decode cX5_init 34 = .ok (.putfield 27, 3) := by decide +kernel
theorem dX5_init_37 : decode cX5_init 37 = .ok (.return_, 1) := by decide +kernel
abbrev mdX5_init : MD := (cX5_init, RX5, 1, none, yX5_init.name, 2, 33, eT)
set_option maxHeartbeats 2000000 in
set_option maxRecDepth 20000 in
theorem i_X5_init (C : KX) (l0 : Nat) : Imp C yX5_init cX5_init 1 none 2 33 rvV [.ref (kB C + l0)] (m_X5_init l0) := by
  refine Imp.of (by decide) (Nat.le_of_ble_eq_true rfl) [(0, .ref (kB C + l0))] rfl ?_
  show Cmp C mdX5_init (QM rvV) 0 [(0, .ref (kB C + l0))] [] (m_X5_init l0)
  unfold m_X5_init
  refine C_aload_n (D := mdX5_init) (x := kB C + l0) dX5_init_0 rfl 0 rfl ?_
  refine C_objInit (D := mdX5_init) (p := l0) oi_X5_3 oi_i oi_c dX5_init_1 rfl (by decide) (Nat.le_of_ble_eq_true rfl) ?_
  refine C_aload_n (D := mdX5_init) (x := kB C + l0) dX5_init_4 rfl 0 rfl ?_
  refine C_sipush (D := mdX5_init) (v := 150) dX5_init_5 rfl (by decide) ?_
  refine C_newarr (D := mdX5_init) (kd := 100) (by decide) ac_int dX5_init_8 rfl (fun p1 => ?_)
  refine C_putR (D := mdX5_init) (p := l0) (q := p1) f_X5_9 (by first | exact Or.inl rfl | exact Or.inr ⟨rfl, rfl⟩) rfl dX5_init_10 rfl ?_
  refine C_aload_n (D := mdX5_init) (x := kB C + l0) dX5_init_13 rfl 0 rfl ?_
  refine C_new (D := mdX5_init) n_X5_15 dX5_init_14 rfl (fun p2 => ?_)
  refine C_dup (D := mdX5_init) dX5_init_17 rfl rfl ?_
  refine C_callIN (D := mdX5_init) (p := p2) (st := [.ref (kB C + p2), .ref (kB C + l0)]) [] i_X5_17 (i_X1_init C p2) dX5_init_18 rfl rfl rfl (Nat.le_of_ble_eq_true rfl) (by decide) (by decide) (fun _ => ?_)
  refine C_putR (D := mdX5_init) (p := l0) (q := p2) f_X5_18 (by first | exact Or.inl rfl | exact Or.inr ⟨rfl, rfl⟩) rfl dX5_init_21 rfl ?_
  refine C_aload_n (D := mdX5_init) (x := kB C + l0) dX5_init_24 rfl 0 rfl ?_
  refine C_new (D := mdX5_init) n_X5_22 dX5_init_25 rfl (fun p3 => ?_)
  refine C_dup (D := mdX5_init) dX5_init_28 rfl rfl ?_
  refine C_bipush (D := mdX5_init) (v := 16) dX5_init_29 rfl (by decide) ?_
  refine C_callI (D := mdX5_init) (p := p3) (st := [.ref (kB C + p3), .ref (kB C + l0)]) [.int 16] i_X5_24 (i_X6_init C p3 16) dX5_init_31 rfl rfl rfl (Nat.le_of_ble_eq_true rfl) (by decide) (by decide) (fun _ => ?_)
  refine C_putR (D := mdX5_init) (p := l0) (q := p3) f_X5_27 (by first | exact Or.inl rfl | exact Or.inr ⟨rfl, rfl⟩) rfl dX5_init_34 rfl ?_
  exact C_vret rfl dX5_init_37

-- StandingQueries$History.<init>()V
theorem dX2_init_0 : decode cX2_init 0 = .ok (.aload_n 0, 1) := by decide +kernel
theorem dX2_init_1 : decode cX2_init 1 = .ok (.invokespecial 3, 3) := by decide +kernel
theorem dX2_init_4 : decode cX2_init 4 = .ok (.aload_n 0, 1) := by decide +kernel
theorem dX2_init_5 : decode cX2_init 5 = .ok (.bipush 10, 2) := by decide +kernel
theorem dX2_init_7 : decode cX2_init 7 = .ok (.anewarray 9, 3) := by decide +kernel
theorem dX2_init_10 : decode cX2_init 10 = .ok (.putfield 11, 3) := by decide +kernel
theorem dX2_init_13 : decode cX2_init 13 = .ok (.return_, 1) := by decide +kernel
abbrev mdX2_init : MD := (cX2_init, RX2, 1, none, yX2_init.name, 1, 12, eT)
set_option maxHeartbeats 2000000 in
set_option maxRecDepth 20000 in
theorem i_X2_init (C : KX) (l0 : Nat) : Imp C yX2_init cX2_init 1 none 1 12 rvV [.ref (kB C + l0)] (m_X2_init l0) := by
  refine Imp.of (by decide) (Nat.le_of_ble_eq_true rfl) [(0, .ref (kB C + l0))] rfl ?_
  show Cmp C mdX2_init (QM rvV) 0 [(0, .ref (kB C + l0))] [] (m_X2_init l0)
  unfold m_X2_init
  refine C_aload_n (D := mdX2_init) (x := kB C + l0) dX2_init_0 rfl 0 rfl ?_
  refine C_objInit (D := mdX2_init) (p := l0) oi_X2_3 oi_i oi_c dX2_init_1 rfl (by decide) (Nat.le_of_ble_eq_true rfl) ?_
  refine C_aload_n (D := mdX2_init) (x := kB C + l0) dX2_init_4 rfl 0 rfl ?_
  refine C_bipush (D := mdX2_init) (v := 10) dX2_init_5 rfl (by decide) ?_
  refine C_anew (D := mdX2_init) cl_X2_9 dX2_init_7 rfl (fun p1 => ?_)
  refine C_putR (D := mdX2_init) (p := l0) (q := p1) f_X2_11 (by first | exact Or.inl rfl | exact Or.inr ⟨rfl, rfl⟩) rfl dX2_init_10 rfl ?_
  exact C_vret rfl dX2_init_13

-- StandingQueries$Automaton.<init>(I)V
theorem dX0_init_0 : decode cX0_init 0 = .ok (.aload_n 0, 1) := by decide +kernel
theorem dX0_init_1 : decode cX0_init 1 = .ok (.invokespecial 3, 3) := by decide +kernel
theorem dX0_init_4 : decode cX0_init 4 = .ok (.aload_n 0, 1) := by decide +kernel
theorem dX0_init_5 : decode cX0_init 5 = .ok (.iconst 1, 1) := by decide +kernel
theorem dX0_init_6 : decode cX0_init 6 = .ok (.putfield 9, 3) := by decide +kernel
theorem dX0_init_9 : decode cX0_init 9 = .ok (.iconst 1, 1) := by decide +kernel
theorem dX0_init_10 : decode cX0_init 10 = .ok (.iload_n 1, 1) := by decide +kernel
theorem dX0_init_11 : decode cX0_init 11 = .ok (.bipush 6, 2) := by decide +kernel
theorem dX0_init_13 : decode cX0_init 13 = .ok (.imul, 1) := by decide +kernel
theorem dX0_init_14 : decode cX0_init 14 = .ok (.iadd, 1) := by decide +kernel
theorem dX0_init_15 : decode cX0_init 15 = .ok (.istore_n 2, 1) := by decide +kernel
theorem dX0_init_16 : decode cX0_init 16 = .ok (.aload_n 0, 1) := by decide +kernel
theorem dX0_init_17 : decode cX0_init 17 = .ok (.iload_n 2, 1) := by decide +kernel
theorem dX0_init_18 : decode cX0_init 18 = .ok (.newarray .int, 2) := by decide +kernel
theorem dX0_init_20 : decode cX0_init 20 = .ok (.putfield 15, 3) := by decide +kernel
theorem dX0_init_23 : decode cX0_init 23 = .ok (.aload_n 0, 1) := by decide +kernel
theorem dX0_init_24 : decode cX0_init 24 = .ok (.iload_n 2, 1) := by decide +kernel
theorem dX0_init_25 : decode cX0_init 25 = .ok (.newarray .int, 2) := by decide +kernel
theorem dX0_init_27 : decode cX0_init 27 = .ok (.putfield 19, 3) := by decide +kernel
theorem dX0_init_30 : decode cX0_init 30 = .ok (.aload_n 0, 1) := by decide +kernel
theorem dX0_init_31 : decode cX0_init 31 = .ok (.iload_n 2, 1) := by decide +kernel
theorem dX0_init_32 : decode cX0_init 32 = .ok (.newarray .int, 2) := by decide +kernel
theorem dX0_init_34 : decode cX0_init 34 = .ok (.putfield 22, 3) := by decide +kernel
theorem dX0_init_37 : decode cX0_init 37 = .ok (.aload_n 0, 1) := by decide +kernel
theorem dX0_init_38 : decode cX0_init 38 = .ok (.iload_n 2, 1) := by decide +kernel
theorem dX0_init_39 : decode cX0_init 39 = .ok (.newarray .int, 2) := by decide +kernel
theorem dX0_init_41 : decode cX0_init 41 = .ok (.putfield 25, 3) := by decide +kernel
theorem dX0_init_44 : decode cX0_init 44 = .ok (.aload_n 0, 1) := by decide +kernel
theorem dX0_init_45 : decode cX0_init 45 = .ok (.iload_n 2, 1) := by decide +kernel
theorem dX0_init_46 : decode cX0_init 46 = .ok (.newarray .int, 2) := by decide +kernel
theorem dX0_init_48 : decode cX0_init 48 = .ok (.putfield 28, 3) := by decide +kernel
theorem dX0_init_51 : decode cX0_init 51 = .ok (.aload_n 0, 1) := by decide +kernel
theorem dX0_init_52 : decode cX0_init 52 = .ok (.iload_n 2, 1) := by decide +kernel
theorem dX0_init_53 : decode cX0_init 53 = .ok (.bipush 8, 2) := by decide +kernel
theorem dX0_init_55 : decode cX0_init 55 = .ok (.imul, 1) := by decide +kernel
theorem dX0_init_56 : decode cX0_init 56 = .ok (.newarray .int, 2) := by decide +kernel
theorem dX0_init_58 : decode cX0_init 58 = .ok (.putfield 31, 3) := by decide +kernel
theorem dX0_init_61 : decode cX0_init 61 = .ok (.aload_n 0, 1) := by decide +kernel
theorem dX0_init_62 : decode cX0_init 62 = .ok (.iload_n 1, 1) := by decide +kernel
theorem dX0_init_63 : decode cX0_init 63 = .ok (.newarray .int, 2) := by decide +kernel
theorem dX0_init_65 : decode cX0_init 65 = .ok (.putfield 34, 3) := by decide +kernel
theorem dX0_init_68 : decode cX0_init 68 = .ok (.return_, 1) := by decide +kernel
abbrev mdX0_init : MD := (cX0_init, RX0, 3, none, yX0_init.name, 1, 12, eT)
set_option maxHeartbeats 2000000 in
set_option maxRecDepth 20000 in
theorem i_X0_init (C : KX) (l0 : Nat) (l1 : Int32) : Imp C yX0_init cX0_init 3 none 1 12 rvV [.ref (kB C + l0), .int l1] (m_X0_init l0 l1) := by
  refine Imp.of (by decide) (Nat.le_of_ble_eq_true rfl) [(0, .ref (kB C + l0)), (1, .int l1)] rfl ?_
  show Cmp C mdX0_init (QM rvV) 0 [(0, .ref (kB C + l0)), (1, .int l1)] [] (m_X0_init l0 l1)
  unfold m_X0_init
  refine C_aload_n (D := mdX0_init) (x := kB C + l0) dX0_init_0 rfl 0 rfl ?_
  refine C_objInit (D := mdX0_init) (p := l0) oi_X0_3 oi_i oi_c dX0_init_1 rfl (by decide) (Nat.le_of_ble_eq_true rfl) ?_
  refine C_aload_n (D := mdX0_init) (x := kB C + l0) dX0_init_4 rfl 0 rfl ?_
  refine C_iconst (D := mdX0_init) (v := 1) dX0_init_5 rfl (by decide) ?_
  refine C_putI (D := mdX0_init) (p := l0) f_X0_9 rfl dX0_init_6 rfl ?_
  refine C_iconst (D := mdX0_init) (v := 1) dX0_init_9 rfl (by decide) ?_
  refine C_iload_n (D := mdX0_init) (x := l1) dX0_init_10 rfl 1 rfl ?_
  refine C_bipush (D := mdX0_init) (v := 6) dX0_init_11 rfl (by decide) ?_
  refine C_imul (D := mdX0_init) dX0_init_13 rfl ?_
  refine C_iadd (D := mdX0_init) dX0_init_14 rfl ?_
  refine C_letI (fun v1 => ?_)
  refine C_istore_n (D := mdX0_init) (ls' := [(2, .int v1), (0, .ref (kB C + l0)), (1, .int l1)]) dX0_init_15 rfl rfl (by decide) rfl ?_
  refine C_aload_n (D := mdX0_init) (x := kB C + l0) dX0_init_16 rfl 1 rfl ?_
  refine C_iload_n (D := mdX0_init) (x := v1) dX0_init_17 rfl 0 rfl ?_
  refine C_newarr (D := mdX0_init) (kd := 100) (by decide) ac_int dX0_init_18 rfl (fun p2 => ?_)
  refine C_putR (D := mdX0_init) (p := l0) (q := p2) f_X0_15 (by first | exact Or.inl rfl | exact Or.inr ⟨rfl, rfl⟩) rfl dX0_init_20 rfl ?_
  refine C_aload_n (D := mdX0_init) (x := kB C + l0) dX0_init_23 rfl 1 rfl ?_
  refine C_iload_n (D := mdX0_init) (x := v1) dX0_init_24 rfl 0 rfl ?_
  refine C_newarr (D := mdX0_init) (kd := 100) (by decide) ac_int dX0_init_25 rfl (fun p3 => ?_)
  refine C_putR (D := mdX0_init) (p := l0) (q := p3) f_X0_19 (by first | exact Or.inl rfl | exact Or.inr ⟨rfl, rfl⟩) rfl dX0_init_27 rfl ?_
  refine C_aload_n (D := mdX0_init) (x := kB C + l0) dX0_init_30 rfl 1 rfl ?_
  refine C_iload_n (D := mdX0_init) (x := v1) dX0_init_31 rfl 0 rfl ?_
  refine C_newarr (D := mdX0_init) (kd := 100) (by decide) ac_int dX0_init_32 rfl (fun p4 => ?_)
  refine C_putR (D := mdX0_init) (p := l0) (q := p4) f_X0_22 (by first | exact Or.inl rfl | exact Or.inr ⟨rfl, rfl⟩) rfl dX0_init_34 rfl ?_
  refine C_aload_n (D := mdX0_init) (x := kB C + l0) dX0_init_37 rfl 1 rfl ?_
  refine C_iload_n (D := mdX0_init) (x := v1) dX0_init_38 rfl 0 rfl ?_
  refine C_newarr (D := mdX0_init) (kd := 100) (by decide) ac_int dX0_init_39 rfl (fun p5 => ?_)
  refine C_putR (D := mdX0_init) (p := l0) (q := p5) f_X0_25 (by first | exact Or.inl rfl | exact Or.inr ⟨rfl, rfl⟩) rfl dX0_init_41 rfl ?_
  refine C_aload_n (D := mdX0_init) (x := kB C + l0) dX0_init_44 rfl 1 rfl ?_
  refine C_iload_n (D := mdX0_init) (x := v1) dX0_init_45 rfl 0 rfl ?_
  refine C_newarr (D := mdX0_init) (kd := 100) (by decide) ac_int dX0_init_46 rfl (fun p6 => ?_)
  refine C_putR (D := mdX0_init) (p := l0) (q := p6) f_X0_28 (by first | exact Or.inl rfl | exact Or.inr ⟨rfl, rfl⟩) rfl dX0_init_48 rfl ?_
  refine C_aload_n (D := mdX0_init) (x := kB C + l0) dX0_init_51 rfl 1 rfl ?_
  refine C_iload_n (D := mdX0_init) (x := v1) dX0_init_52 rfl 0 rfl ?_
  refine C_bipush (D := mdX0_init) (v := 8) dX0_init_53 rfl (by decide) ?_
  refine C_imul (D := mdX0_init) dX0_init_55 rfl ?_
  refine C_newarr (D := mdX0_init) (kd := 100) (by decide) ac_int dX0_init_56 rfl (fun p7 => ?_)
  refine C_putR (D := mdX0_init) (p := l0) (q := p7) f_X0_31 (by first | exact Or.inl rfl | exact Or.inr ⟨rfl, rfl⟩) rfl dX0_init_58 rfl ?_
  refine C_aload_n (D := mdX0_init) (x := kB C + l0) dX0_init_61 rfl 1 rfl ?_
  refine C_iload_n (D := mdX0_init) (x := l1) dX0_init_62 rfl 2 rfl ?_
  refine C_newarr (D := mdX0_init) (kd := 100) (by decide) ac_int dX0_init_63 rfl (fun p8 => ?_)
  refine C_putR (D := mdX0_init) (p := l0) (q := p8) f_X0_34 (by first | exact Or.inl rfl | exact Or.inr ⟨rfl, rfl⟩) rfl dX0_init_65 rfl ?_
  exact C_vret rfl dX0_init_68

-- StandingQueries.<init>()V
theorem dX7_init_0 : decode cX7_init 0 = .ok (.aload_n 0, 1) := by decide +kernel
theorem dX7_init_1 : decode cX7_init 1 = .ok (.invokespecial 1, 3) := by decide +kernel
theorem dX7_init_4 : decode cX7_init 4 = .ok (.aload_n 0, 1) := by decide +kernel
theorem dX7_init_5 : decode cX7_init 5 = .ok (.new 7, 3) := by decide +kernel
theorem dX7_init_8 : decode cX7_init 8 = .ok (.dup, 1) := by decide +kernel
theorem dX7_init_9 : decode cX7_init 9 = .ok (.invokespecial 9, 3) := by decide +kernel
theorem dX7_init_12 : decode cX7_init 12 = .ok (.putfield 10, 3) := by decide +kernel
theorem dX7_init_15 : decode cX7_init 15 = .ok (.aload_n 0, 1) := by decide +kernel
theorem dX7_init_16 : decode cX7_init 16 = .ok (.new 16, 3) := by decide +kernel
theorem dX7_init_19 : decode cX7_init 19 = .ok (.dup, 1) := by decide +kernel
theorem dX7_init_20 : decode cX7_init 20 = .ok (.invokespecial 18, 3) := by decide +kernel
theorem dX7_init_23 : decode cX7_init 23 = .ok (.putfield 19, 3) := by decide +kernel
theorem dX7_init_26 : decode cX7_init 26 = .ok (.aload_n 0, 1) := by decide +kernel
theorem dX7_init_27 : decode cX7_init 27 = .ok (.new 23, 3) := by decide +kernel
theorem dX7_init_30 : decode cX7_init 30 = .ok (.dup, 1) := by decide +kernel
theorem dX7_init_31 : decode cX7_init 31 = .ok (.invokespecial 25, 3) := by decide +kernel
theorem dX7_init_34 : decode cX7_init 34 = .ok (.putfield 26, 3) := by decide +kernel
theorem dX7_init_37 : decode cX7_init 37 = .ok (.aload_n 0, 1) := by decide +kernel
theorem dX7_init_38 : decode cX7_init 38 = .ok (.iconst 2, 1) := by decide +kernel
theorem dX7_init_39 : decode cX7_init 39 = .ok (.anewarray 16, 3) := by decide +kernel
theorem dX7_init_42 : decode cX7_init 42 = .ok (.putfield 30, 3) := by decide +kernel
theorem dX7_init_45 : decode cX7_init 45 = .ok (.aload_n 0, 1) := by decide +kernel
theorem dX7_init_46 : decode cX7_init 46 = .ok (.new 34, 3) := by decide +kernel
theorem dX7_init_49 : decode cX7_init 49 = .ok (.dup, 1) := by decide +kernel
theorem dX7_init_50 : decode cX7_init 50 = .ok (.bipush 16, 2) := by decide +kernel
theorem dX7_init_52 : decode cX7_init 52 = .ok (.invokespecial 36, 3) := by decide +kernel
theorem dX7_init_55 : decode cX7_init 55 = .ok (.putfield 39, 3) := by decide +kernel
theorem dX7_init_58 : decode cX7_init 58 = .ok (.aload_n 0, 1) := by decide +kernel
theorem dX7_init_59 : decode cX7_init 59 = .ok (.new 43, 3) := by decide +kernel
theorem dX7_init_62 : decode cX7_init 62 = .ok (.dup, 1) := by decide +kernel
theorem dX7_init_63 : decode cX7_init 63 = .ok (.bipush 16, 2) := by decide +kernel
theorem dX7_init_65 : decode cX7_init 65 = .ok (.invokespecial 45, 3) := by decide +kernel
theorem dX7_init_68 : decode cX7_init 68 = .ok (.putfield 46, 3) := by decide +kernel
theorem dX7_init_71 : decode cX7_init 71 = .ok (.aload_n 0, 1) := by decide +kernel
theorem dX7_init_72 : decode cX7_init 72 = .ok (.bipush 16, 2) := by decide +kernel
theorem dX7_init_74 : decode cX7_init 74 = .ok (.newarray .long, 2) := by decide +kernel
theorem dX7_init_76 : decode cX7_init 76 = .ok (.putfield 50, 3) := by decide +kernel
theorem dX7_init_79 : decode cX7_init 79 = .ok (.return_, 1) := by decide +kernel
abbrev mdX7_init : MD := (cX7_init, RX7, 1, none, yX7_init.name, 3, 53, eT)
set_option maxHeartbeats 2000000 in
set_option maxRecDepth 20000 in
theorem i_X7_init (C : KX) (l0 : Nat) : Imp C yX7_init cX7_init 1 none 3 53 rvV [.ref (kB C + l0)] (m_X7_init l0) := by
  refine Imp.of (by decide) (Nat.le_of_ble_eq_true rfl) [(0, .ref (kB C + l0))] rfl ?_
  show Cmp C mdX7_init (QM rvV) 0 [(0, .ref (kB C + l0))] [] (m_X7_init l0)
  unfold m_X7_init
  refine C_aload_n (D := mdX7_init) (x := kB C + l0) dX7_init_0 rfl 0 rfl ?_
  refine C_objInit (D := mdX7_init) (p := l0) oi_X7_1 oi_i oi_c dX7_init_1 rfl (by decide) (Nat.le_of_ble_eq_true rfl) ?_
  refine C_aload_n (D := mdX7_init) (x := kB C + l0) dX7_init_4 rfl 0 rfl ?_
  refine C_new (D := mdX7_init) n_X7_7 dX7_init_5 rfl (fun p1 => ?_)
  refine C_dup (D := mdX7_init) dX7_init_8 rfl rfl ?_
  refine C_callIN (D := mdX7_init) (p := p1) (st := [.ref (kB C + p1), .ref (kB C + l0)]) [] i_X7_9 (i_X5_init C p1) dX7_init_9 rfl rfl rfl (Nat.le_of_ble_eq_true rfl) (by decide) (by decide) (fun _ => ?_)
  refine C_putR (D := mdX7_init) (p := l0) (q := p1) f_X7_10 (by first | exact Or.inl rfl | exact Or.inr ⟨rfl, rfl⟩) rfl dX7_init_12 rfl ?_
  refine C_aload_n (D := mdX7_init) (x := kB C + l0) dX7_init_15 rfl 0 rfl ?_
  refine C_new (D := mdX7_init) n_X7_16 dX7_init_16 rfl (fun p2 => ?_)
  refine C_dup (D := mdX7_init) dX7_init_19 rfl rfl ?_
  refine C_callIN (D := mdX7_init) (p := p2) (st := [.ref (kB C + p2), .ref (kB C + l0)]) [] i_X7_18 (i_X1_init C p2) dX7_init_20 rfl rfl rfl (Nat.le_of_ble_eq_true rfl) (by decide) (by decide) (fun _ => ?_)
  refine C_putR (D := mdX7_init) (p := l0) (q := p2) f_X7_19 (by first | exact Or.inl rfl | exact Or.inr ⟨rfl, rfl⟩) rfl dX7_init_23 rfl ?_
  refine C_aload_n (D := mdX7_init) (x := kB C + l0) dX7_init_26 rfl 0 rfl ?_
  refine C_new (D := mdX7_init) n_X7_23 dX7_init_27 rfl (fun p3 => ?_)
  refine C_dup (D := mdX7_init) dX7_init_30 rfl rfl ?_
  refine C_callIN (D := mdX7_init) (p := p3) (st := [.ref (kB C + p3), .ref (kB C + l0)]) [] i_X7_25 (i_X2_init C p3) dX7_init_31 rfl rfl rfl (Nat.le_of_ble_eq_true rfl) (by decide) (by decide) (fun _ => ?_)
  refine C_putR (D := mdX7_init) (p := l0) (q := p3) f_X7_26 (by first | exact Or.inl rfl | exact Or.inr ⟨rfl, rfl⟩) rfl dX7_init_34 rfl ?_
  refine C_aload_n (D := mdX7_init) (x := kB C + l0) dX7_init_37 rfl 0 rfl ?_
  refine C_iconst (D := mdX7_init) (v := 2) dX7_init_38 rfl (by decide) ?_
  refine C_anew (D := mdX7_init) cl_X7_16 dX7_init_39 rfl (fun p4 => ?_)
  refine C_putR (D := mdX7_init) (p := l0) (q := p4) f_X7_30 (by first | exact Or.inl rfl | exact Or.inr ⟨rfl, rfl⟩) rfl dX7_init_42 rfl ?_
  refine C_aload_n (D := mdX7_init) (x := kB C + l0) dX7_init_45 rfl 0 rfl ?_
  refine C_new (D := mdX7_init) n_X7_34 dX7_init_46 rfl (fun p5 => ?_)
  refine C_dup (D := mdX7_init) dX7_init_49 rfl rfl ?_
  refine C_bipush (D := mdX7_init) (v := 16) dX7_init_50 rfl (by decide) ?_
  refine C_callI (D := mdX7_init) (p := p5) (st := [.ref (kB C + p5), .ref (kB C + l0)]) [.int 16] i_X7_36 (i_X6_init C p5 16) dX7_init_52 rfl rfl rfl (Nat.le_of_ble_eq_true rfl) (by decide) (by decide) (fun _ => ?_)
  refine C_putR (D := mdX7_init) (p := l0) (q := p5) f_X7_39 (by first | exact Or.inl rfl | exact Or.inr ⟨rfl, rfl⟩) rfl dX7_init_55 rfl ?_
  refine C_aload_n (D := mdX7_init) (x := kB C + l0) dX7_init_58 rfl 0 rfl ?_
  refine C_new (D := mdX7_init) n_X7_43 dX7_init_59 rfl (fun p6 => ?_)
  refine C_dup (D := mdX7_init) dX7_init_62 rfl rfl ?_
  refine C_bipush (D := mdX7_init) (v := 16) dX7_init_63 rfl (by decide) ?_
  refine C_callI (D := mdX7_init) (p := p6) (st := [.ref (kB C + p6), .ref (kB C + l0)]) [.int 16] i_X7_45 (i_X0_init C p6 16) dX7_init_65 rfl rfl rfl (Nat.le_of_ble_eq_true rfl) (by decide) (by decide) (fun _ => ?_)
  refine C_putR (D := mdX7_init) (p := l0) (q := p6) f_X7_46 (by first | exact Or.inl rfl | exact Or.inr ⟨rfl, rfl⟩) rfl dX7_init_68 rfl ?_
  refine C_aload_n (D := mdX7_init) (x := kB C + l0) dX7_init_71 rfl 0 rfl ?_
  refine C_bipush (D := mdX7_init) (v := 16) dX7_init_72 rfl (by decide) ?_
  refine C_newarr (D := mdX7_init) (kd := 101) (by decide) ac_long dX7_init_74 rfl (fun p7 => ?_)
  refine C_putR (D := mdX7_init) (p := l0) (q := p7) f_X7_50 (by first | exact Or.inl rfl | exact Or.inr ⟨rfl, rfl⟩) rfl dX7_init_76 rfl ?_
  exact C_vret rfl dX7_init_79

-- StandingQueries$Text.append(I)Z
theorem dX5_append_0 : decode cX5_append 0 = .ok (.aload_n 0, 1) := by decide +kernel
theorem dX5_append_1 : decode cX5_append 1 = .ok (.getfield 31, 3) := by decide +kernel
theorem dX5_append_4 : decode cX5_append 4 = .ok (.sipush 150, 3) := by decide +kernel
theorem dX5_append_7 : decode cX5_append 7 = .ok (.if_icmp .lt 5, 3) := by decide +kernel
theorem dX5_append_10 : decode cX5_append 10 = .ok (.iconst 0, 1) := by decide +kernel
theorem dX5_append_11 : decode cX5_append 11 = .ok (.ireturn, 1) := by decide +kernel
theorem dX5_append_12 : decode cX5_append 12 = .ok (.aload_n 0, 1) := by decide +kernel
theorem dX5_append_13 : decode cX5_append 13 = .ok (.getfield 9, 3) := by decide +kernel
theorem dX5_append_16 : decode cX5_append 16 = .ok (.aload_n 0, 1) := by decide +kernel
theorem dX5_append_17 : decode cX5_append 17 = .ok (.getfield 31, 3) := by decide +kernel
theorem dX5_append_20 : decode cX5_append 20 = .ok (.iload_n 1, 1) := by decide +kernel
theorem dX5_append_21 : decode cX5_append 21 = .ok (.iastore, 1) := by decide +kernel
theorem dX5_append_22 : decode cX5_append 22 = .ok (.aload_n 0, 1) := by decide +kernel
theorem dX5_append_23 : decode cX5_append 23 = .ok (.dup, 1) := by decide +kernel
theorem dX5_append_24 : decode cX5_append 24 = .ok (.getfield 31, 3) := by decide +kernel
theorem dX5_append_27 : decode cX5_append 27 = .ok (.iconst 1, 1) := by decide +kernel
theorem dX5_append_28 : decode cX5_append 28 = .ok (.iadd, 1) := by decide +kernel
theorem dX5_append_29 : decode cX5_append 29 = .ok (.putfield 31, 3) := by decide +kernel
theorem dX5_append_32 : decode cX5_append 32 = .ok (.iconst 1, 1) := by decide +kernel
theorem dX5_append_33 : decode cX5_append 33 = .ok (.ireturn, 1) := by decide +kernel
abbrev mdX5_append : MD := (cX5_append, RX5, 2, (some .boolean), yX5_append.name, 0, 0, eT)
set_option maxHeartbeats 2000000 in
set_option maxRecDepth 20000 in
theorem i_X5_append (C : KX) (l0 : Nat) (l1 : Int32) : Imp C yX5_append cX5_append 2 (some .boolean) 0 0 rvI [.ref (kB C + l0), .int l1] (m_X5_append l0 l1) := by
  refine Imp.of (by decide) (Nat.le_of_ble_eq_true rfl) [(0, .ref (kB C + l0)), (1, .int l1)] rfl ?_
  show Cmp C mdX5_append (QM rvI) 0 [(0, .ref (kB C + l0)), (1, .int l1)] [] (m_X5_append l0 l1)
  unfold m_X5_append
  refine C_aload_n (D := mdX5_append) (x := kB C + l0) dX5_append_0 rfl 0 rfl ?_
  refine C_getI (D := mdX5_append) (p := l0) f_X5_31 rfl dX5_append_1 rfl (fun size1 => ?_)
  refine C_sipush (D := mdX5_append) (v := 150) dX5_append_4 rfl (by decide) ?_
  refine C_icmp_lt (D := mdX5_append) (tgt := 12) dX5_append_7 (by decide) rfl ?_ ?_
  · refine C_aload_n (D := mdX5_append) (x := kB C + l0) dX5_append_12 rfl 0 rfl ?_
    refine C_getR (D := mdX5_append) (p := l0) f_X5_9 rfl dX5_append_13 rfl (fun bytes2 => ?_)
    refine C_aload_n (D := mdX5_append) (x := kB C + l0) dX5_append_16 rfl 0 rfl ?_
    refine C_getI (D := mdX5_append) (p := l0) f_X5_31 rfl dX5_append_17 rfl (fun size3 => ?_)
    refine C_iload_n (D := mdX5_append) (x := l1) dX5_append_20 rfl 1 rfl ?_
    refine C_tI (D := mdX5_append) (p := bytes2) dX5_append_21 rfl ?_
    refine C_aload_n (D := mdX5_append) (x := kB C + l0) dX5_append_22 rfl 0 rfl ?_
    refine C_dup (D := mdX5_append) dX5_append_23 rfl rfl ?_
    refine C_getI (D := mdX5_append) (p := l0) f_X5_31 rfl dX5_append_24 rfl (fun size4 => ?_)
    refine C_iconst (D := mdX5_append) (v := 1) dX5_append_27 rfl (by decide) ?_
    refine C_iadd (D := mdX5_append) dX5_append_28 rfl ?_
    refine C_putI (D := mdX5_append) (p := l0) f_X5_31 rfl dX5_append_29 rfl ?_
    refine C_iconst (D := mdX5_append) (v := 1) dX5_append_32 rfl (by decide) ?_
    exact C_zret rfl dX5_append_33
  · refine C_iconst (D := mdX5_append) (v := 0) dX5_append_10 rfl (by decide) ?_
    exact C_zret rfl dX5_append_11

-- StandingQueries.type(I)I
theorem dX7_type_0 : decode cX7_type 0 = .ok (.iload_n 1, 1) := by decide +kernel
theorem dX7_type_1 : decode cX7_type 1 = .ok (.ifCond .lt 10, 3) := by decide +kernel
theorem dX7_type_4 : decode cX7_type 4 = .ok (.iload_n 1, 1) := by decide +kernel
theorem dX7_type_5 : decode cX7_type 5 = .ok (.sipush 255, 3) := by decide +kernel
theorem dX7_type_8 : decode cX7_type 8 = .ok (.if_icmp .le 5, 3) := by decide +kernel
theorem dX7_type_11 : decode cX7_type 11 = .ok (.iconst (-1), 1) := by decide +kernel
theorem dX7_type_12 : decode cX7_type 12 = .ok (.ireturn, 1) := by decide +kernel
theorem dX7_type_13 : decode cX7_type 13 = .ok (.aload_n 0, 1) := by decide +kernel
theorem dX7_type_14 : decode cX7_type 14 = .ok (.getfield 10, 3) := by decide +kernel
theorem dX7_type_17 : decode cX7_type 17 = .ok (.iload_n 1, 1) := by decide +kernel
theorem dX7_type_18 : decode cX7_type 18 = .ok (.invokevirtual 54, 3) := by decide +kernel
theorem dX7_type_21 : decode cX7_type 21 = .ok (.ifCond .eq 13, 3) := by decide +kernel
theorem dX7_type_24 : decode cX7_type 24 = .ok (.aload_n 0, 1) := by decide +kernel
theorem dX7_type_25 : decode cX7_type 25 = .ok (.getfield 10, 3) := by decide +kernel
theorem dX7_type_28 : decode cX7_type 28 = .ok (.getfield 58, 3) := by decide +kernel
theorem dX7_type_31 : decode cX7_type 31 = .ok (.goto 5, 3) := by decide +kernel
theorem dX7_type_34 : decode cX7_type 34 = .ok (.bipush (-3), 2) := by decide +kernel
theorem dX7_type_36 : decode cX7_type 36 = .ok (.ireturn, 1) := by decide +kernel
abbrev mdX7_type : MD := (cX7_type, RX7, 2, (some .int), yX7_type.name, 1, 21, eT)
set_option maxHeartbeats 2000000 in
set_option maxRecDepth 20000 in
theorem i_X7_type (C : KX) (l0 : Nat) (l1 : Int32) : Imp C yX7_type cX7_type 2 (some .int) 1 21 rvI [.ref (kB C + l0), .int l1] (m_X7_type l0 l1) := by
  refine Imp.of (by decide) (Nat.le_of_ble_eq_true rfl) [(0, .ref (kB C + l0)), (1, .int l1)] rfl ?_
  show Cmp C mdX7_type (QM rvI) 0 [(0, .ref (kB C + l0)), (1, .int l1)] [] (m_X7_type l0 l1)
  unfold m_X7_type
  refine C_iload_n (D := mdX7_type) (x := l1) dX7_type_0 rfl 1 rfl ?_
  refine C_if_lt (D := mdX7_type) (tgt := 11) dX7_type_1 (by decide) rfl ?_ ?_
  · refine C_iconst (D := mdX7_type) (v := (-1)) dX7_type_11 rfl (by decide) ?_
    exact C_iret rfl dX7_type_12
  · refine C_iload_n (D := mdX7_type) (x := l1) dX7_type_4 rfl 1 rfl ?_
    refine C_sipush (D := mdX7_type) (v := 255) dX7_type_5 rfl (by decide) ?_
    refine C_icmp_le (D := mdX7_type) (tgt := 13) dX7_type_8 (by decide) rfl ?_ ?_
    · refine C_aload_n (D := mdX7_type) (x := kB C + l0) dX7_type_13 rfl 0 rfl ?_
      refine C_getR (D := mdX7_type) (p := l0) f_X7_10 rfl dX7_type_14 rfl (fun text1 => ?_)
      refine C_iload_n (D := mdX7_type) (x := l1) dX7_type_17 rfl 1 rfl ?_
      refine C_callV (D := mdX7_type) (p := text1) (st := []) [.int l1] v_X7_54 (i_X5_append C text1 l1) dX7_type_18 rfl rfl rfl (Nat.le_of_ble_eq_true rfl) (by decide) (by decide) (fun c2 => ?_)
      refine C_if_eq (D := mdX7_type) (tgt := 34) dX7_type_21 (by decide) rfl ?_ ?_
      · refine C_bipush (D := mdX7_type) (v := (-3)) dX7_type_34 rfl (by decide) ?_
        exact C_iret rfl dX7_type_36
      · refine C_aload_n (D := mdX7_type) (x := kB C + l0) dX7_type_24 rfl 0 rfl ?_
        refine C_getR (D := mdX7_type) (p := l0) f_X7_10 rfl dX7_type_25 rfl (fun text3 => ?_)
        refine C_getI (D := mdX7_type) (p := text3) f_X7_58 rfl dX7_type_28 rfl (fun size4 => ?_)
        refine C_goto (D := mdX7_type) (pc' := 36) dX7_type_31 (by decide) ?_
        exact C_iret rfl dX7_type_36
    · refine C_iconst (D := mdX7_type) (v := (-1)) dX7_type_11 rfl (by decide) ?_
      exact C_iret rfl dX7_type_12

-- StandingQueries.clear()I
theorem dX7_clear_0 : decode cX7_clear 0 = .ok (.aload_n 0, 1) := by decide +kernel
theorem dX7_clear_1 : decode cX7_clear 1 = .ok (.getfield 10, 3) := by decide +kernel
theorem dX7_clear_4 : decode cX7_clear 4 = .ok (.getfield 58, 3) := by decide +kernel
theorem dX7_clear_7 : decode cX7_clear 7 = .ok (.istore_n 1, 1) := by decide +kernel
theorem dX7_clear_8 : decode cX7_clear 8 = .ok (.aload_n 0, 1) := by decide +kernel
theorem dX7_clear_9 : decode cX7_clear 9 = .ok (.getfield 10, 3) := by decide +kernel
theorem dX7_clear_12 : decode cX7_clear 12 = .ok (.iconst 0, 1) := by decide +kernel
theorem dX7_clear_13 : decode cX7_clear 13 = .ok (.putfield 58, 3) := by decide +kernel
theorem dX7_clear_16 : decode cX7_clear 16 = .ok (.iload_n 1, 1) := by decide +kernel
theorem dX7_clear_17 : decode cX7_clear 17 = .ok (.ireturn, 1) := by decide +kernel
abbrev mdX7_clear : MD := (cX7_clear, RX7, 2, (some .int), yX7_clear.name, 0, 0, eT)
set_option maxHeartbeats 2000000 in
set_option maxRecDepth 20000 in
theorem i_X7_clear (C : KX) (l0 : Nat) : Imp C yX7_clear cX7_clear 2 (some .int) 0 0 rvI [.ref (kB C + l0)] (m_X7_clear l0) := by
  refine Imp.of (by decide) (Nat.le_of_ble_eq_true rfl) [(0, .ref (kB C + l0))] rfl ?_
  show Cmp C mdX7_clear (QM rvI) 0 [(0, .ref (kB C + l0))] [] (m_X7_clear l0)
  unfold m_X7_clear
  refine C_aload_n (D := mdX7_clear) (x := kB C + l0) dX7_clear_0 rfl 0 rfl ?_
  refine C_getR (D := mdX7_clear) (p := l0) f_X7_10 rfl dX7_clear_1 rfl (fun text1 => ?_)
  refine C_getI (D := mdX7_clear) (p := text1) f_X7_58 rfl dX7_clear_4 rfl (fun size2 => ?_)
  refine C_istore_n (D := mdX7_clear) (ls' := [(1, .int size2), (0, .ref (kB C + l0))]) dX7_clear_7 rfl rfl (by decide) rfl ?_
  refine C_aload_n (D := mdX7_clear) (x := kB C + l0) dX7_clear_8 rfl 1 rfl ?_
  refine C_getR (D := mdX7_clear) (p := l0) f_X7_10 rfl dX7_clear_9 rfl (fun text3 => ?_)
  refine C_iconst (D := mdX7_clear) (v := 0) dX7_clear_12 rfl (by decide) ?_
  refine C_putI (D := mdX7_clear) (p := text3) f_X7_58 rfl dX7_clear_13 rfl ?_
  refine C_iload_n (D := mdX7_clear) (x := size2) dX7_clear_16 rfl 0 rfl ?_
  exact C_iret rfl dX7_clear_17

-- StandingQueries$Held.take(LStandingQueries$Held;)V
theorem dX1_take_0 : decode cX1_take 0 = .ok (.aload_n 0, 1) := by decide +kernel
theorem dX1_take_1 : decode cX1_take 1 = .ok (.aload_n 1, 1) := by decide +kernel
theorem dX1_take_2 : decode cX1_take 2 = .ok (.getfield 30, 3) := by decide +kernel
theorem dX1_take_5 : decode cX1_take 5 = .ok (.putfield 30, 3) := by decide +kernel
theorem dX1_take_8 : decode cX1_take 8 = .ok (.aload_n 0, 1) := by decide +kernel
theorem dX1_take_9 : decode cX1_take 9 = .ok (.aload_n 1, 1) := by decide +kernel
theorem dX1_take_10 : decode cX1_take 10 = .ok (.getfield 34, 3) := by decide +kernel
theorem dX1_take_13 : decode cX1_take 13 = .ok (.putfield 34, 3) := by decide +kernel
theorem dX1_take_16 : decode cX1_take 16 = .ok (.aload_n 1, 1) := by decide +kernel
theorem dX1_take_17 : decode cX1_take 17 = .ok (.getfield 9, 3) := by decide +kernel
theorem dX1_take_20 : decode cX1_take 20 = .ok (.iconst 0, 1) := by decide +kernel
theorem dX1_take_21 : decode cX1_take 21 = .ok (.aload_n 0, 1) := by decide +kernel
theorem dX1_take_22 : decode cX1_take 22 = .ok (.getfield 9, 3) := by decide +kernel
theorem dX1_take_25 : decode cX1_take 25 = .ok (.iconst 0, 1) := by decide +kernel
theorem dX1_take_26 : decode cX1_take 26 = .ok (.aload_n 0, 1) := by decide +kernel
theorem dX1_take_27 : decode cX1_take 27 = .ok (.getfield 9, 3) := by decide +kernel
theorem dX1_take_30 : decode cX1_take 30 = .ok (.arraylength, 1) := by decide +kernel
theorem dX1_take_31 : decode cX1_take 31 = .ok (.invokestatic 37, 3) := by decide +kernel
theorem dX1_take_34 : decode cX1_take 34 = .ok (.aload_n 1, 1) := by decide +kernel
theorem dX1_take_35 : decode cX1_take 35 = .ok (.getfield 15, 3) := by decide +kernel
theorem dX1_take_38 : decode cX1_take 38 = .ok (.iconst 0, 1) := by decide +kernel
theorem dX1_take_39 : decode cX1_take 39 = .ok (.aload_n 0, 1) := by decide +kernel
theorem dX1_take_40 : decode cX1_take 40 = .ok (.getfield 15, 3) := by decide +kernel
theorem dX1_take_43 : decode cX1_take 43 = .ok (.iconst 0, 1) := by decide +kernel
theorem dX1_take_44 : decode cX1_take 44 = .ok (.aload_n 0, 1) := by decide +kernel
theorem dX1_take_45 : decode cX1_take 45 = .ok (.getfield 15, 3) := by decide +kernel
theorem dX1_take_48 : decode cX1_take 48 = .ok (.arraylength, 1) := by decide +kernel
theorem dX1_take_49 : decode cX1_take 49 = .ok (.invokestatic 37, 3) := by decide +kernel
theorem dX1_take_52 : decode cX1_take 52 = .ok (.aload_n 1, 1) := by decide +kernel
theorem dX1_take_53 : decode cX1_take 53 = .ok (.getfield 18, 3) := by decide +kernel
theorem dX1_take_56 : decode cX1_take 56 = .ok (.iconst 0, 1) := by decide +kernel
theorem dX1_take_57 : decode cX1_take 57 = .ok (.aload_n 0, 1) := by decide +kernel
theorem dX1_take_58 : decode cX1_take 58 = .ok (.getfield 18, 3) := by decide +kernel
theorem dX1_take_61 : decode cX1_take 61 = .ok (.iconst 0, 1) := by decide +kernel
theorem dX1_take_62 : decode cX1_take 62 = .ok (.aload_n 0, 1) := by decide +kernel
theorem dX1_take_63 : decode cX1_take 63 = .ok (.getfield 18, 3) := by decide +kernel
theorem dX1_take_66 : decode cX1_take 66 = .ok (.arraylength, 1) := by decide +kernel
theorem dX1_take_67 : decode cX1_take 67 = .ok (.invokestatic 37, 3) := by decide +kernel
theorem dX1_take_70 : decode cX1_take 70 = .ok (.aload_n 1, 1) := by decide +kernel
theorem dX1_take_71 : decode cX1_take 71 = .ok (.getfield 21, 3) := by decide +kernel
theorem dX1_take_74 : decode cX1_take 74 = .ok (.iconst 0, 1) := by decide +kernel
theorem dX1_take_75 : decode cX1_take 75 = .ok (.aload_n 0, 1) := by decide +kernel
theorem dX1_take_76 : decode cX1_take 76 = .ok (.getfield 21, 3) := by decide +kernel
theorem dX1_take_79 : decode cX1_take 79 = .ok (.iconst 0, 1) := by decide +kernel
theorem dX1_take_80 : decode cX1_take 80 = .ok (.aload_n 0, 1) := by decide +kernel
theorem dX1_take_81 : decode cX1_take 81 = .ok (.getfield 21, 3) := by decide +kernel
theorem dX1_take_84 : decode cX1_take 84 = .ok (.arraylength, 1) := by decide +kernel
theorem dX1_take_85 : decode cX1_take 85 = .ok (.invokestatic 37, 3) := by decide +kernel
theorem dX1_take_88 : decode cX1_take 88 = .ok (.aload_n 1, 1) := by decide +kernel
theorem dX1_take_89 : decode cX1_take 89 = .ok (.getfield 24, 3) := by decide +kernel
theorem dX1_take_92 : decode cX1_take 92 = .ok (.iconst 0, 1) := by decide +kernel
theorem dX1_take_93 : decode cX1_take 93 = .ok (.aload_n 0, 1) := by decide +kernel
theorem dX1_take_94 : decode cX1_take 94 = .ok (.getfield 24, 3) := by decide +kernel
theorem dX1_take_97 : decode cX1_take 97 = .ok (.iconst 0, 1) := by decide +kernel
theorem dX1_take_98 : decode cX1_take 98 = .ok (.aload_n 0, 1) := by decide +kernel
theorem dX1_take_99 : decode cX1_take 99 = .ok (.getfield 24, 3) := by decide +kernel
theorem dX1_take_102 : decode cX1_take 102 = .ok (.arraylength, 1) := by decide +kernel
theorem dX1_take_103 : decode cX1_take 103 = .ok (.invokestatic 37, 3) := by decide +kernel
theorem dX1_take_106 : decode cX1_take 106 = .ok (.aload_n 1, 1) := by decide +kernel
theorem dX1_take_107 : decode cX1_take 107 = .ok (.getfield 27, 3) := by decide +kernel
theorem dX1_take_110 : decode cX1_take 110 = .ok (.iconst 0, 1) := by decide +kernel
theorem dX1_take_111 : decode cX1_take 111 = .ok (.aload_n 0, 1) := by decide +kernel
theorem dX1_take_112 : decode cX1_take 112 = .ok (.getfield 27, 3) := by decide +kernel
theorem dX1_take_115 : decode cX1_take 115 = .ok (.iconst 0, 1) := by decide +kernel
theorem dX1_take_116 : decode cX1_take 116 = .ok (.aload_n 0, 1) := by decide +kernel
theorem dX1_take_117 : decode cX1_take 117 = .ok (.getfield 27, 3) := by decide +kernel
theorem dX1_take_120 : decode cX1_take 120 = .ok (.arraylength, 1) := by decide +kernel
theorem dX1_take_121 : decode cX1_take 121 = .ok (.invokestatic 37, 3) := by decide +kernel
theorem dX1_take_124 : decode cX1_take 124 = .ok (.return_, 1) := by decide +kernel
abbrev mdX1_take : MD := (cX1_take, RX1, 2, none, yX1_take.name, 1, 18, eT)
set_option maxHeartbeats 2000000 in
set_option maxRecDepth 20000 in
theorem i_X1_take (C : KX) (l0 : Nat) (l1 : Nat) : Imp C yX1_take cX1_take 2 none 1 18 rvV [.ref (kB C + l0), .ref (kB C + l1)] (m_X1_take l0 l1) := by
  refine Imp.of (by decide) (Nat.le_of_ble_eq_true rfl) [(0, .ref (kB C + l0)), (1, .ref (kB C + l1))] rfl ?_
  show Cmp C mdX1_take (QM rvV) 0 [(0, .ref (kB C + l0)), (1, .ref (kB C + l1))] [] (m_X1_take l0 l1)
  unfold m_X1_take
  refine C_aload_n (D := mdX1_take) (x := kB C + l0) dX1_take_0 rfl 0 rfl ?_
  refine C_aload_n (D := mdX1_take) (x := kB C + l1) dX1_take_1 rfl 1 rfl ?_
  refine C_getI (D := mdX1_take) (p := l1) f_X1_30 rfl dX1_take_2 rfl (fun queries1 => ?_)
  refine C_putI (D := mdX1_take) (p := l0) f_X1_30 rfl dX1_take_5 rfl ?_
  refine C_aload_n (D := mdX1_take) (x := kB C + l0) dX1_take_8 rfl 0 rfl ?_
  refine C_aload_n (D := mdX1_take) (x := kB C + l1) dX1_take_9 rfl 1 rfl ?_
  refine C_getI (D := mdX1_take) (p := l1) f_X1_34 rfl dX1_take_10 rfl (fun letters2 => ?_)
  refine C_putI (D := mdX1_take) (p := l0) f_X1_34 rfl dX1_take_13 rfl ?_
  refine C_aload_n (D := mdX1_take) (x := kB C + l1) dX1_take_16 rfl 1 rfl ?_
  refine C_getR (D := mdX1_take) (p := l1) f_X1_9 rfl dX1_take_17 rfl (fun parts3 => ?_)
  refine C_iconst (D := mdX1_take) (v := 0) dX1_take_20 rfl (by decide) ?_
  refine C_aload_n (D := mdX1_take) (x := kB C + l0) dX1_take_21 rfl 0 rfl ?_
  refine C_getR (D := mdX1_take) (p := l0) f_X1_9 rfl dX1_take_22 rfl (fun parts4 => ?_)
  refine C_iconst (D := mdX1_take) (v := 0) dX1_take_25 rfl (by decide) ?_
  refine C_aload_n (D := mdX1_take) (x := kB C + l0) dX1_take_26 rfl 0 rfl ?_
  refine C_getR (D := mdX1_take) (p := l0) f_X1_9 rfl dX1_take_27 rfl (fun parts5 => ?_)
  refine C_alen (D := mdX1_take) (kd := 100) (p := parts5) (by decide) dX1_take_30 rfl (fun len6 => ?_)
  refine C_copy (D := mdX1_take) (src := parts3) (dst := parts4) cp_X1_37 cp_n cp_s cp_i dX1_take_31 rfl (by decide) (Nat.le_of_ble_eq_true rfl) ?_
  refine C_aload_n (D := mdX1_take) (x := kB C + l1) dX1_take_34 rfl 1 rfl ?_
  refine C_getR (D := mdX1_take) (p := l1) f_X1_15 rfl dX1_take_35 rfl (fun sort7 => ?_)
  refine C_iconst (D := mdX1_take) (v := 0) dX1_take_38 rfl (by decide) ?_
  refine C_aload_n (D := mdX1_take) (x := kB C + l0) dX1_take_39 rfl 0 rfl ?_
  refine C_getR (D := mdX1_take) (p := l0) f_X1_15 rfl dX1_take_40 rfl (fun sort8 => ?_)
  refine C_iconst (D := mdX1_take) (v := 0) dX1_take_43 rfl (by decide) ?_
  refine C_aload_n (D := mdX1_take) (x := kB C + l0) dX1_take_44 rfl 0 rfl ?_
  refine C_getR (D := mdX1_take) (p := l0) f_X1_15 rfl dX1_take_45 rfl (fun sort9 => ?_)
  refine C_alen (D := mdX1_take) (kd := 100) (p := sort9) (by decide) dX1_take_48 rfl (fun len10 => ?_)
  refine C_copy (D := mdX1_take) (src := sort7) (dst := sort8) cp_X1_37 cp_n cp_s cp_i dX1_take_49 rfl (by decide) (Nat.le_of_ble_eq_true rfl) ?_
  refine C_aload_n (D := mdX1_take) (x := kB C + l1) dX1_take_52 rfl 1 rfl ?_
  refine C_getR (D := mdX1_take) (p := l1) f_X1_18 rfl dX1_take_53 rfl (fun word11 => ?_)
  refine C_iconst (D := mdX1_take) (v := 0) dX1_take_56 rfl (by decide) ?_
  refine C_aload_n (D := mdX1_take) (x := kB C + l0) dX1_take_57 rfl 0 rfl ?_
  refine C_getR (D := mdX1_take) (p := l0) f_X1_18 rfl dX1_take_58 rfl (fun word12 => ?_)
  refine C_iconst (D := mdX1_take) (v := 0) dX1_take_61 rfl (by decide) ?_
  refine C_aload_n (D := mdX1_take) (x := kB C + l0) dX1_take_62 rfl 0 rfl ?_
  refine C_getR (D := mdX1_take) (p := l0) f_X1_18 rfl dX1_take_63 rfl (fun word13 => ?_)
  refine C_alen (D := mdX1_take) (kd := 100) (p := word13) (by decide) dX1_take_66 rfl (fun len14 => ?_)
  refine C_copy (D := mdX1_take) (src := word11) (dst := word12) cp_X1_37 cp_n cp_s cp_i dX1_take_67 rfl (by decide) (Nat.le_of_ble_eq_true rfl) ?_
  refine C_aload_n (D := mdX1_take) (x := kB C + l1) dX1_take_70 rfl 1 rfl ?_
  refine C_getR (D := mdX1_take) (p := l1) f_X1_21 rfl dX1_take_71 rfl (fun earlier15 => ?_)
  refine C_iconst (D := mdX1_take) (v := 0) dX1_take_74 rfl (by decide) ?_
  refine C_aload_n (D := mdX1_take) (x := kB C + l0) dX1_take_75 rfl 0 rfl ?_
  refine C_getR (D := mdX1_take) (p := l0) f_X1_21 rfl dX1_take_76 rfl (fun earlier16 => ?_)
  refine C_iconst (D := mdX1_take) (v := 0) dX1_take_79 rfl (by decide) ?_
  refine C_aload_n (D := mdX1_take) (x := kB C + l0) dX1_take_80 rfl 0 rfl ?_
  refine C_getR (D := mdX1_take) (p := l0) f_X1_21 rfl dX1_take_81 rfl (fun earlier17 => ?_)
  refine C_alen (D := mdX1_take) (kd := 100) (p := earlier17) (by decide) dX1_take_84 rfl (fun len18 => ?_)
  refine C_copy (D := mdX1_take) (src := earlier15) (dst := earlier16) cp_X1_37 cp_n cp_s cp_i dX1_take_85 rfl (by decide) (Nat.le_of_ble_eq_true rfl) ?_
  refine C_aload_n (D := mdX1_take) (x := kB C + l1) dX1_take_88 rfl 1 rfl ?_
  refine C_getR (D := mdX1_take) (p := l1) f_X1_24 rfl dX1_take_89 rfl (fun reach19 => ?_)
  refine C_iconst (D := mdX1_take) (v := 0) dX1_take_92 rfl (by decide) ?_
  refine C_aload_n (D := mdX1_take) (x := kB C + l0) dX1_take_93 rfl 0 rfl ?_
  refine C_getR (D := mdX1_take) (p := l0) f_X1_24 rfl dX1_take_94 rfl (fun reach20 => ?_)
  refine C_iconst (D := mdX1_take) (v := 0) dX1_take_97 rfl (by decide) ?_
  refine C_aload_n (D := mdX1_take) (x := kB C + l0) dX1_take_98 rfl 0 rfl ?_
  refine C_getR (D := mdX1_take) (p := l0) f_X1_24 rfl dX1_take_99 rfl (fun reach21 => ?_)
  refine C_alen (D := mdX1_take) (kd := 100) (p := reach21) (by decide) dX1_take_102 rfl (fun len22 => ?_)
  refine C_copy (D := mdX1_take) (src := reach19) (dst := reach20) cp_X1_37 cp_n cp_s cp_i dX1_take_103 rfl (by decide) (Nat.le_of_ble_eq_true rfl) ?_
  refine C_aload_n (D := mdX1_take) (x := kB C + l1) dX1_take_106 rfl 1 rfl ?_
  refine C_getR (D := mdX1_take) (p := l1) f_X1_27 rfl dX1_take_107 rfl (fun row23 => ?_)
  refine C_iconst (D := mdX1_take) (v := 0) dX1_take_110 rfl (by decide) ?_
  refine C_aload_n (D := mdX1_take) (x := kB C + l0) dX1_take_111 rfl 0 rfl ?_
  refine C_getR (D := mdX1_take) (p := l0) f_X1_27 rfl dX1_take_112 rfl (fun row24 => ?_)
  refine C_iconst (D := mdX1_take) (v := 0) dX1_take_115 rfl (by decide) ?_
  refine C_aload_n (D := mdX1_take) (x := kB C + l0) dX1_take_116 rfl 0 rfl ?_
  refine C_getR (D := mdX1_take) (p := l0) f_X1_27 rfl dX1_take_117 rfl (fun row25 => ?_)
  refine C_alen (D := mdX1_take) (kd := 100) (p := row25) (by decide) dX1_take_120 rfl (fun len26 => ?_)
  refine C_copy (D := mdX1_take) (src := row23) (dst := row24) cp_X1_37 cp_n cp_s cp_i dX1_take_121 rfl (by decide) (Nat.le_of_ble_eq_true rfl) ?_
  exact C_vret rfl dX1_take_124

-- StandingQueries$Held.place(II)I
theorem dX1_place_0 : decode cX1_place 0 = .ok (.iload_n 1, 1) := by decide +kernel
theorem dX1_place_1 : decode cX1_place 1 = .ok (.iconst 4, 1) := by decide +kernel
theorem dX1_place_2 : decode cX1_place 2 = .ok (.imul, 1) := by decide +kernel
theorem dX1_place_3 : decode cX1_place 3 = .ok (.iload_n 2, 1) := by decide +kernel
theorem dX1_place_4 : decode cX1_place 4 = .ok (.iadd, 1) := by decide +kernel
theorem dX1_place_5 : decode cX1_place 5 = .ok (.ireturn, 1) := by decide +kernel
abbrev mdX1_place : MD := (cX1_place, RX1, 3, (some .int), yX1_place.name, 0, 0, eT)
set_option maxHeartbeats 2000000 in
set_option maxRecDepth 20000 in
theorem i_X1_place (C : KX) (l0 : Nat) (l1 : Int32) (l2 : Int32) : Imp C yX1_place cX1_place 3 (some .int) 0 0 rvI [.ref (kB C + l0), .int l1, .int l2] (m_X1_place l0 l1 l2) := by
  refine Imp.of (by decide) (Nat.le_of_ble_eq_true rfl) [(0, .ref (kB C + l0)), (1, .int l1), (2, .int l2)] rfl ?_
  show Cmp C mdX1_place (QM rvI) 0 [(0, .ref (kB C + l0)), (1, .int l1), (2, .int l2)] [] (m_X1_place l0 l1 l2)
  unfold m_X1_place
  refine C_iload_n (D := mdX1_place) (x := l1) dX1_place_0 rfl 1 rfl ?_
  refine C_iconst (D := mdX1_place) (v := 4) dX1_place_1 rfl (by decide) ?_
  refine C_imul (D := mdX1_place) dX1_place_2 rfl ?_
  refine C_iload_n (D := mdX1_place) (x := l2) dX1_place_3 rfl 2 rfl ?_
  refine C_iadd (D := mdX1_place) dX1_place_4 rfl ?_
  exact C_iret rfl dX1_place_5

-- StandingQueries$Words.find(I)I
theorem dX6_find_0 : decode cX6_find 0 = .ok (.iconst 0, 1) := by decide +kernel
theorem dX6_find_1 : decode cX6_find 1 = .ok (.istore_n 2, 1) := by decide +kernel
theorem dX6_find_2 : decode cX6_find 2 = .ok (.iload_n 2, 1) := by decide +kernel
theorem dX6_find_3 : decode cX6_find 3 = .ok (.aload_n 0, 1) := by decide +kernel
theorem dX6_find_4 : decode cX6_find 4 = .ok (.getfield 15, 3) := by decide +kernel
theorem dX6_find_7 : decode cX6_find 7 = .ok (.if_icmp .ge 21, 3) := by decide +kernel
theorem dX6_find_10 : decode cX6_find 10 = .ok (.aload_n 0, 1) := by decide +kernel
theorem dX6_find_11 : decode cX6_find 11 = .ok (.getfield 9, 3) := by decide +kernel
theorem dX6_find_14 : decode cX6_find 14 = .ok (.iload_n 2, 1) := by decide +kernel
theorem dX6_find_15 : decode cX6_find 15 = .ok (.iaload, 1) := by decide +kernel
theorem dX6_find_16 : decode cX6_find 16 = .ok (.iload_n 1, 1) := by decide +kernel
theorem dX6_find_17 : decode cX6_find 17 = .ok (.if_icmp .ne 5, 3) := by decide +kernel
theorem dX6_find_20 : decode cX6_find 20 = .ok (.iload_n 2, 1) := by decide +kernel
theorem dX6_find_21 : decode cX6_find 21 = .ok (.ireturn, 1) := by decide +kernel
theorem dX6_find_22 : decode cX6_find 22 = .ok (.iinc 2 1, 3) := by decide +kernel
theorem dX6_find_25 : decode cX6_find 25 = .ok (.goto (-23), 3) := by decide +kernel
theorem dX6_find_28 : decode cX6_find 28 = .ok (.bipush (-9), 2) := by decide +kernel
theorem dX6_find_30 : decode cX6_find 30 = .ok (.ireturn, 1) := by decide +kernel
abbrev mdX6_find : MD := (cX6_find, RX6, 3, (some .int), yX6_find.name, 0, 0, eT)
set_option maxHeartbeats 2000000 in
set_option maxRecDepth 20000 in
theorem p_X6_find_B2 (C : KX) (l0 : Nat) (l1 : Int32)  (k2 : Int32 → Mo Int32) (hk2 : ∀ s, Cmp C mdX6_find (QM rvI) 2 [(0, .ref (kB C + l0)), (1, .int l1), (2, .int s)] [] (k2 s)) (l2 : Int32) : Cmp C mdX6_find (QM rvI) 2 [(0, .ref (kB C + l0)), (1, .int l1), (2, .int l2)] [] (m_X6_find_B2 l0 l1 k2 l2) := by
  unfold m_X6_find_B2
  refine C_iload_n (D := mdX6_find) (x := l2) dX6_find_2 rfl 2 rfl ?_
  refine C_aload_n (D := mdX6_find) (x := kB C + l0) dX6_find_3 rfl 0 rfl ?_
  refine C_getI (D := mdX6_find) (p := l0) f_X6_15 rfl dX6_find_4 rfl (fun count1 => ?_)
  refine C_icmp_ge (D := mdX6_find) (tgt := 28) dX6_find_7 (by decide) rfl ?_ ?_
  · refine C_bipush (D := mdX6_find) (v := (-9)) dX6_find_28 rfl (by decide) ?_
    exact C_iret rfl dX6_find_30
  · refine C_aload_n (D := mdX6_find) (x := kB C + l0) dX6_find_10 rfl 0 rfl ?_
    refine C_getR (D := mdX6_find) (p := l0) f_X6_9 rfl dX6_find_11 rfl (fun codes2 => ?_)
    refine C_iload_n (D := mdX6_find) (x := l2) dX6_find_14 rfl 2 rfl ?_
    refine C_aI (D := mdX6_find) (p := codes2) dX6_find_15 rfl (fun x3 => ?_)
    refine C_iload_n (D := mdX6_find) (x := l1) dX6_find_16 rfl 1 rfl ?_
    refine C_icmp_ne (D := mdX6_find) (tgt := 22) dX6_find_17 (by decide) rfl ?_ ?_
    · refine C_iinc (D := mdX6_find) (j := 2) (v := (l2 + 1)) (ls' := [(2, .int (l2 + 1)), (0, .ref (kB C + l0)), (1, .int l1)]) dX6_find_22 rfl rfl rfl (by decide) rfl ?_
      refine C_goto (D := mdX6_find) (pc' := 2) dX6_find_25 (by decide) ?_
      exact C_sub [1, 2, 0] rfl (hk2 ((l2 + 1)))
    · refine C_iload_n (D := mdX6_find) (x := l2) dX6_find_20 rfl 2 rfl ?_
      exact C_iret rfl dX6_find_21
set_option maxHeartbeats 2000000 in
set_option maxRecDepth 20000 in
theorem i_X6_find (C : KX) (l0 : Nat) (l1 : Int32) : Imp C yX6_find cX6_find 3 (some .int) 0 0 rvI [.ref (kB C + l0), .int l1] (m_X6_find l0 l1) := by
  refine Imp.of (by decide) (Nat.le_of_ble_eq_true rfl) [(0, .ref (kB C + l0)), (1, .int l1)] rfl ?_
  show Cmp C mdX6_find (QM rvI) 0 [(0, .ref (kB C + l0)), (1, .int l1)] [] (m_X6_find l0 l1)
  unfold m_X6_find
  refine C_iconst (D := mdX6_find) (v := 0) dX6_find_0 rfl (by decide) ?_
  refine C_istore_n (D := mdX6_find) (ls' := [(2, .int 0), (0, .ref (kB C + l0)), (1, .int l1)]) dX6_find_1 rfl rfl (by decide) rfl ?_
  exact C_sub [1, 2, 0] rfl (C_loop (fun s => [(0, .ref (kB C + l0)), (1, .int l1), (2, .int s)]) (fun k hk s => p_X6_find_B2 C l0 l1  k hk s) FU 0)

-- StandingQueries$Words.put(I)Z
theorem dX6_put_0 : decode cX6_put 0 = .ok (.aload_n 0, 1) := by decide +kernel
theorem dX6_put_1 : decode cX6_put 1 = .ok (.iload_n 1, 1) := by decide +kernel
theorem dX6_put_2 : decode cX6_put 2 = .ok (.invokevirtual 19, 3) := by decide +kernel
theorem dX6_put_5 : decode cX6_put 5 = .ok (.ifCond .lt 5, 3) := by decide +kernel
theorem dX6_put_8 : decode cX6_put 8 = .ok (.iconst 1, 1) := by decide +kernel
theorem dX6_put_9 : decode cX6_put 9 = .ok (.ireturn, 1) := by decide +kernel
theorem dX6_put_10 : decode cX6_put 10 = .ok (.aload_n 0, 1) := by decide +kernel
theorem dX6_put_11 : decode cX6_put 11 = .ok (.getfield 15, 3) := by decide +kernel
theorem dX6_put_14 : decode cX6_put 14 = .ok (.aload_n 0, 1) := by decide +kernel
theorem dX6_put_15 : decode cX6_put 15 = .ok (.getfield 9, 3) := by decide +kernel
theorem dX6_put_18 : decode cX6_put 18 = .ok (.arraylength, 1) := by decide +kernel
theorem dX6_put_19 : decode cX6_put 19 = .ok (.if_icmp .lt 5, 3) := by decide +kernel
theorem dX6_put_22 : decode cX6_put 22 = .ok (.iconst 0, 1) := by decide +kernel
theorem dX6_put_23 : decode cX6_put 23 = .ok (.ireturn, 1) := by decide +kernel
theorem dX6_put_24 : decode cX6_put 24 = .ok (.aload_n 0, 1) := by decide +kernel
theorem dX6_put_25 : decode cX6_put 25 = .ok (.getfield 15, 3) := by decide +kernel
theorem dX6_put_28 : decode cX6_put 28 = .ok (.istore_n 2, 1) := by decide +kernel
theorem dX6_put_29 : decode cX6_put 29 = .ok (.iload_n 2, 1) := by decide +kernel
theorem dX6_put_30 : decode cX6_put 30 = .ok (.ifCond .le 35, 3) := by decide +kernel
theorem dX6_put_33 : decode cX6_put 33 = .ok (.aload_n 0, 1) := by decide +kernel
theorem dX6_put_34 : decode cX6_put 34 = .ok (.getfield 9, 3) := by decide +kernel
theorem dX6_put_37 : decode cX6_put 37 = .ok (.iload_n 2, 1) := by decide +kernel
theorem dX6_put_38 : decode cX6_put 38 = .ok (.iconst 1, 1) := by decide +kernel
theorem dX6_put_39 : decode cX6_put 39 = .ok (.isub, 1) := by decide +kernel
theorem dX6_put_40 : decode cX6_put 40 = .ok (.iaload, 1) := by decide +kernel
theorem dX6_put_41 : decode cX6_put 41 = .ok (.iload_n 1, 1) := by decide +kernel
theorem dX6_put_42 : decode cX6_put 42 = .ok (.if_icmp .le 23, 3) := by decide +kernel
theorem dX6_put_45 : decode cX6_put 45 = .ok (.aload_n 0, 1) := by decide +kernel
theorem dX6_put_46 : decode cX6_put 46 = .ok (.getfield 9, 3) := by decide +kernel
theorem dX6_put_49 : decode cX6_put 49 = .ok (.iload_n 2, 1) := by decide +kernel
theorem dX6_put_50 : decode cX6_put 50 = .ok (.aload_n 0, 1) := by decide +kernel
theorem dX6_put_51 : decode cX6_put 51 = .ok (.getfield 9, 3) := by decide +kernel
theorem dX6_put_54 : decode cX6_put 54 = .ok (.iload_n 2, 1) := by decide +kernel
theorem dX6_put_55 : decode cX6_put 55 = .ok (.iconst 1, 1) := by decide +kernel
theorem dX6_put_56 : decode cX6_put 56 = .ok (.isub, 1) := by decide +kernel
theorem dX6_put_57 : decode cX6_put 57 = .ok (.iaload, 1) := by decide +kernel
theorem dX6_put_58 : decode cX6_put 58 = .ok (.iastore, 1) := by decide +kernel
theorem dX6_put_59 : decode cX6_put 59 = .ok (.iinc 2 (-1), 3) := by decide +kernel
theorem dX6_put_62 : decode cX6_put 62 = .ok (.goto (-33), 3) := by decide +kernel
theorem dX6_put_65 : decode cX6_put 65 = .ok (.aload_n 0, 1) := by decide +kernel
theorem dX6_put_66 : decode cX6_put 66 = .ok (.getfield 9, 3) := by decide +kernel
theorem dX6_put_69 : decode cX6_put 69 = .ok (.iload_n 2, 1) := by decide +kernel
theorem dX6_put_70 : decode cX6_put 70 = .ok (.iload_n 1, 1) := by decide +kernel
theorem dX6_put_71 : decode cX6_put 71 = .ok (.iastore, 1) := by decide +kernel
theorem dX6_put_72 : decode cX6_put 72 = .ok (.aload_n 0, 1) := by decide +kernel
theorem dX6_put_73 : decode cX6_put 73 = .ok (.dup, 1) := by decide +kernel
theorem dX6_put_74 : decode cX6_put 74 = .ok (.getfield 15, 3) := by decide +kernel
theorem dX6_put_77 : decode cX6_put 77 = .ok (.iconst 1, 1) := by decide +kernel
theorem dX6_put_78 : decode cX6_put 78 = .ok (.iadd, 1) := by decide +kernel
theorem dX6_put_79 : decode cX6_put 79 = .ok (.putfield 15, 3) := by decide +kernel
theorem dX6_put_82 : decode cX6_put 82 = .ok (.iconst 1, 1) := by decide +kernel
theorem dX6_put_83 : decode cX6_put 83 = .ok (.ireturn, 1) := by decide +kernel
abbrev mdX6_put : MD := (cX6_put, RX6, 3, (some .boolean), yX6_put.name, 1, 22, eT)
set_option maxHeartbeats 2000000 in
set_option maxRecDepth 20000 in
theorem p_X6_put_J65 (C : KX) (l0 : Nat) (l1 : Int32) (l2 : Int32)  : Cmp C mdX6_put (QM rvI) 65 [(0, .ref (kB C + l0)), (1, .int l1), (2, .int l2)] [] (m_X6_put_J65 l0 l1 l2) := by
  unfold m_X6_put_J65
  refine C_aload_n (D := mdX6_put) (x := kB C + l0) dX6_put_65 rfl 0 rfl ?_
  refine C_getR (D := mdX6_put) (p := l0) f_X6_9 rfl dX6_put_66 rfl (fun codes6 => ?_)
  refine C_iload_n (D := mdX6_put) (x := l2) dX6_put_69 rfl 2 rfl ?_
  refine C_iload_n (D := mdX6_put) (x := l1) dX6_put_70 rfl 1 rfl ?_
  refine C_tI (D := mdX6_put) (p := codes6) dX6_put_71 rfl ?_
  refine C_aload_n (D := mdX6_put) (x := kB C + l0) dX6_put_72 rfl 0 rfl ?_
  refine C_dup (D := mdX6_put) dX6_put_73 rfl rfl ?_
  refine C_getI (D := mdX6_put) (p := l0) f_X6_15 rfl dX6_put_74 rfl (fun count7 => ?_)
  refine C_iconst (D := mdX6_put) (v := 1) dX6_put_77 rfl (by decide) ?_
  refine C_iadd (D := mdX6_put) dX6_put_78 rfl ?_
  refine C_putI (D := mdX6_put) (p := l0) f_X6_15 rfl dX6_put_79 rfl ?_
  refine C_iconst (D := mdX6_put) (v := 1) dX6_put_82 rfl (by decide) ?_
  exact C_zret rfl dX6_put_83
set_option maxHeartbeats 2000000 in
set_option maxRecDepth 20000 in
theorem p_X6_put_B29 (C : KX) (l0 : Nat) (l1 : Int32)  (k29 : Int32 → Mo Int32) (hk29 : ∀ s, Cmp C mdX6_put (QM rvI) 29 [(0, .ref (kB C + l0)), (1, .int l1), (2, .int s)] [] (k29 s)) (l2 : Int32) : Cmp C mdX6_put (QM rvI) 29 [(0, .ref (kB C + l0)), (1, .int l1), (2, .int l2)] [] (m_X6_put_B29 l0 l1 k29 l2) := by
  unfold m_X6_put_B29
  refine C_iload_n (D := mdX6_put) (x := l2) dX6_put_29 rfl 2 rfl ?_
  refine C_if_le (D := mdX6_put) (tgt := 65) dX6_put_30 (by decide) rfl ?_ ?_
  · exact C_sub [0, 1, 2] rfl (p_X6_put_J65 C l0 l1 l2)
  · refine C_aload_n (D := mdX6_put) (x := kB C + l0) dX6_put_33 rfl 0 rfl ?_
    refine C_getR (D := mdX6_put) (p := l0) f_X6_9 rfl dX6_put_34 rfl (fun codes8 => ?_)
    refine C_iload_n (D := mdX6_put) (x := l2) dX6_put_37 rfl 2 rfl ?_
    refine C_iconst (D := mdX6_put) (v := 1) dX6_put_38 rfl (by decide) ?_
    refine C_isub (D := mdX6_put) dX6_put_39 rfl ?_
    refine C_aI (D := mdX6_put) (p := codes8) dX6_put_40 rfl (fun x9 => ?_)
    refine C_iload_n (D := mdX6_put) (x := l1) dX6_put_41 rfl 1 rfl ?_
    refine C_icmp_le (D := mdX6_put) (tgt := 65) dX6_put_42 (by decide) rfl ?_ ?_
    · exact C_sub [0, 1, 2] rfl (p_X6_put_J65 C l0 l1 l2)
    · refine C_aload_n (D := mdX6_put) (x := kB C + l0) dX6_put_45 rfl 0 rfl ?_
      refine C_getR (D := mdX6_put) (p := l0) f_X6_9 rfl dX6_put_46 rfl (fun codes10 => ?_)
      refine C_iload_n (D := mdX6_put) (x := l2) dX6_put_49 rfl 2 rfl ?_
      refine C_aload_n (D := mdX6_put) (x := kB C + l0) dX6_put_50 rfl 0 rfl ?_
      refine C_getR (D := mdX6_put) (p := l0) f_X6_9 rfl dX6_put_51 rfl (fun codes11 => ?_)
      refine C_iload_n (D := mdX6_put) (x := l2) dX6_put_54 rfl 2 rfl ?_
      refine C_iconst (D := mdX6_put) (v := 1) dX6_put_55 rfl (by decide) ?_
      refine C_isub (D := mdX6_put) dX6_put_56 rfl ?_
      refine C_aI (D := mdX6_put) (p := codes11) dX6_put_57 rfl (fun x12 => ?_)
      refine C_tI (D := mdX6_put) (p := codes10) dX6_put_58 rfl ?_
      refine C_iinc (D := mdX6_put) (j := 2) (v := (l2 + (-1))) (ls' := [(2, .int (l2 + (-1))), (0, .ref (kB C + l0)), (1, .int l1)]) dX6_put_59 rfl rfl rfl (by decide) rfl ?_
      refine C_goto (D := mdX6_put) (pc' := 29) dX6_put_62 (by decide) ?_
      exact C_sub [1, 2, 0] rfl (hk29 ((l2 + (-1))))
set_option maxHeartbeats 2000000 in
set_option maxRecDepth 20000 in
theorem i_X6_put (C : KX) (l0 : Nat) (l1 : Int32) : Imp C yX6_put cX6_put 3 (some .boolean) 1 22 rvI [.ref (kB C + l0), .int l1] (m_X6_put l0 l1) := by
  refine Imp.of (by decide) (Nat.le_of_ble_eq_true rfl) [(0, .ref (kB C + l0)), (1, .int l1)] rfl ?_
  show Cmp C mdX6_put (QM rvI) 0 [(0, .ref (kB C + l0)), (1, .int l1)] [] (m_X6_put l0 l1)
  unfold m_X6_put
  refine C_aload_n (D := mdX6_put) (x := kB C + l0) dX6_put_0 rfl 0 rfl ?_
  refine C_iload_n (D := mdX6_put) (x := l1) dX6_put_1 rfl 1 rfl ?_
  refine C_callV (D := mdX6_put) (p := l0) (st := []) [.int l1] v_X6_19 (i_X6_find C l0 l1) dX6_put_2 rfl rfl rfl (Nat.le_of_ble_eq_true rfl) (by decide) (by decide) (fun c1 => ?_)
  refine C_if_lt (D := mdX6_put) (tgt := 10) dX6_put_5 (by decide) rfl ?_ ?_
  · refine C_aload_n (D := mdX6_put) (x := kB C + l0) dX6_put_10 rfl 0 rfl ?_
    refine C_getI (D := mdX6_put) (p := l0) f_X6_15 rfl dX6_put_11 rfl (fun count2 => ?_)
    refine C_aload_n (D := mdX6_put) (x := kB C + l0) dX6_put_14 rfl 0 rfl ?_
    refine C_getR (D := mdX6_put) (p := l0) f_X6_9 rfl dX6_put_15 rfl (fun codes3 => ?_)
    refine C_alen (D := mdX6_put) (kd := 100) (p := codes3) (by decide) dX6_put_18 rfl (fun len4 => ?_)
    refine C_icmp_lt (D := mdX6_put) (tgt := 24) dX6_put_19 (by decide) rfl ?_ ?_
    · refine C_aload_n (D := mdX6_put) (x := kB C + l0) dX6_put_24 rfl 0 rfl ?_
      refine C_getI (D := mdX6_put) (p := l0) f_X6_15 rfl dX6_put_25 rfl (fun count5 => ?_)
      refine C_istore_n (D := mdX6_put) (ls' := [(2, .int count5), (0, .ref (kB C + l0)), (1, .int l1)]) dX6_put_28 rfl rfl (by decide) rfl ?_
      exact C_sub [1, 2, 0] rfl (C_loop (fun s => [(0, .ref (kB C + l0)), (1, .int l1), (2, .int s)]) (fun k hk s => p_X6_put_B29 C l0 l1  k hk s) FU count5)
    · refine C_iconst (D := mdX6_put) (v := 0) dX6_put_22 rfl (by decide) ?_
      exact C_zret rfl dX6_put_23
  · refine C_iconst (D := mdX6_put) (v := 1) dX6_put_8 rfl (by decide) ?_
    exact C_zret rfl dX6_put_9

-- StandingQueries$Words.putWordsOf(LStandingQueries$Held;I)V
theorem dX6_putWordsOf_0 : decode cX6_putWordsOf 0 = .ok (.iconst 0, 1) := by decide +kernel
theorem dX6_putWordsOf_1 : decode cX6_putWordsOf 1 = .ok (.istore_n 3, 1) := by decide +kernel
theorem dX6_putWordsOf_2 : decode cX6_putWordsOf 2 = .ok (.iload_n 3, 1) := by decide +kernel
theorem dX6_putWordsOf_3 : decode cX6_putWordsOf 3 = .ok (.aload_n 1, 1) := by decide +kernel
theorem dX6_putWordsOf_4 : decode cX6_putWordsOf 4 = .ok (.getfield 32, 3) := by decide +kernel
theorem dX6_putWordsOf_7 : decode cX6_putWordsOf 7 = .ok (.iload_n 2, 1) := by decide +kernel
theorem dX6_putWordsOf_8 : decode cX6_putWordsOf 8 = .ok (.iaload, 1) := by decide +kernel
theorem dX6_putWordsOf_9 : decode cX6_putWordsOf 9 = .ok (.if_icmp .ge 52, 3) := by decide +kernel
theorem dX6_putWordsOf_12 : decode cX6_putWordsOf 12 = .ok (.aload_n 1, 1) := by decide +kernel
theorem dX6_putWordsOf_13 : decode cX6_putWordsOf 13 = .ok (.iload_n 2, 1) := by decide +kernel
theorem dX6_putWordsOf_14 : decode cX6_putWordsOf 14 = .ok (.iload_n 3, 1) := by decide +kernel
theorem dX6_putWordsOf_15 : decode cX6_putWordsOf 15 = .ok (.invokevirtual 35, 3) := by decide +kernel
theorem dX6_putWordsOf_18 : decode cX6_putWordsOf 18 = .ok (.istore 4, 2) := by decide +kernel
theorem dX6_putWordsOf_20 : decode cX6_putWordsOf 20 = .ok (.aload_n 0, 1) := by decide +kernel
theorem dX6_putWordsOf_21 : decode cX6_putWordsOf 21 = .ok (.aload_n 1, 1) := by decide +kernel
theorem dX6_putWordsOf_22 : decode cX6_putWordsOf 22 = .ok (.getfield 39, 3) := by decide +kernel
theorem dX6_putWordsOf_25 : decode cX6_putWordsOf 25 = .ok (.iload 4, 2) := by decide +kernel
theorem dX6_putWordsOf_27 : decode cX6_putWordsOf 27 = .ok (.iaload, 1) := by decide +kernel
theorem dX6_putWordsOf_28 : decode cX6_putWordsOf 28 = .ok (.invokevirtual 42, 3) := by decide +kernel
theorem dX6_putWordsOf_31 : decode cX6_putWordsOf 31 = .ok (.pop, 1) := by decide +kernel
theorem dX6_putWordsOf_32 : decode cX6_putWordsOf 32 = .ok (.aload_n 1, 1) := by decide +kernel
theorem dX6_putWordsOf_33 : decode cX6_putWordsOf 33 = .ok (.getfield 46, 3) := by decide +kernel
theorem dX6_putWordsOf_36 : decode cX6_putWordsOf 36 = .ok (.iload 4, 2) := by decide +kernel
theorem dX6_putWordsOf_38 : decode cX6_putWordsOf 38 = .ok (.iaload, 1) := by decide +kernel
theorem dX6_putWordsOf_39 : decode cX6_putWordsOf 39 = .ok (.iconst 2, 1) := by decide +kernel
theorem dX6_putWordsOf_40 : decode cX6_putWordsOf 40 = .ok (.if_icmp .ne 15, 3) := by decide +kernel
theorem dX6_putWordsOf_43 : decode cX6_putWordsOf 43 = .ok (.aload_n 0, 1) := by decide +kernel
theorem dX6_putWordsOf_44 : decode cX6_putWordsOf 44 = .ok (.aload_n 1, 1) := by decide +kernel
theorem dX6_putWordsOf_45 : decode cX6_putWordsOf 45 = .ok (.getfield 49, 3) := by decide +kernel
theorem dX6_putWordsOf_48 : decode cX6_putWordsOf 48 = .ok (.iload 4, 2) := by decide +kernel
theorem dX6_putWordsOf_50 : decode cX6_putWordsOf 50 = .ok (.iaload, 1) := by decide +kernel
theorem dX6_putWordsOf_51 : decode cX6_putWordsOf 51 = .ok (.invokevirtual 42, 3) := by decide +kernel
theorem dX6_putWordsOf_54 : decode cX6_putWordsOf 54 = .ok (.pop, 1) := by decide +kernel
theorem dX6_putWordsOf_55 : decode cX6_putWordsOf 55 = .ok (.iinc 3 1, 3) := by decide +kernel
theorem dX6_putWordsOf_58 : decode cX6_putWordsOf 58 = .ok (.goto (-56), 3) := by decide +kernel
theorem dX6_putWordsOf_61 : decode cX6_putWordsOf 61 = .ok (.return_, 1) := by decide +kernel
abbrev mdX6_putWordsOf : MD := (cX6_putWordsOf, RX6, 5, none, yX6_putWordsOf.name, 2, 44, eT)
set_option maxHeartbeats 2000000 in
set_option maxRecDepth 20000 in
theorem p_X6_putWordsOf_J55 (C : KX) (l0 : Nat) (l1 : Nat) (l2 : Int32) (l3 : Int32) (k2 : Int32 → Mo Unit) (hk2 : ∀ s, Cmp C mdX6_putWordsOf (QM rvV) 2 [(0, .ref (kB C + l0)), (1, .ref (kB C + l1)), (2, .int l2), (3, .int s)] [] (k2 s)) : Cmp C mdX6_putWordsOf (QM rvV) 55 [(0, .ref (kB C + l0)), (1, .ref (kB C + l1)), (2, .int l2), (3, .int l3)] [] (m_X6_putWordsOf_J55 l0 l1 l2 l3 k2) := by
  unfold m_X6_putWordsOf_J55
  refine C_iinc (D := mdX6_putWordsOf) (j := 3) (v := (l3 + 1)) (ls' := [(3, .int (l3 + 1)), (0, .ref (kB C + l0)), (1, .ref (kB C + l1)), (2, .int l2)]) dX6_putWordsOf_55 rfl rfl rfl (by decide) rfl ?_
  refine C_goto (D := mdX6_putWordsOf) (pc' := 2) dX6_putWordsOf_58 (by decide) ?_
  exact C_sub [1, 2, 3, 0] rfl (hk2 ((l3 + 1)))
set_option maxHeartbeats 2000000 in
set_option maxRecDepth 20000 in
theorem p_X6_putWordsOf_B2 (C : KX) (l0 : Nat) (l1 : Nat) (l2 : Int32)  (k2 : Int32 → Mo Unit) (hk2 : ∀ s, Cmp C mdX6_putWordsOf (QM rvV) 2 [(0, .ref (kB C + l0)), (1, .ref (kB C + l1)), (2, .int l2), (3, .int s)] [] (k2 s)) (l3 : Int32) : Cmp C mdX6_putWordsOf (QM rvV) 2 [(0, .ref (kB C + l0)), (1, .ref (kB C + l1)), (2, .int l2), (3, .int l3)] [] (m_X6_putWordsOf_B2 l0 l1 l2 k2 l3) := by
  unfold m_X6_putWordsOf_B2
  refine C_iload_n (D := mdX6_putWordsOf) (x := l3) dX6_putWordsOf_2 rfl 3 rfl ?_
  refine C_aload_n (D := mdX6_putWordsOf) (x := kB C + l1) dX6_putWordsOf_3 rfl 1 rfl ?_
  refine C_getR (D := mdX6_putWordsOf) (p := l1) f_X6_32 rfl dX6_putWordsOf_4 rfl (fun parts1 => ?_)
  refine C_iload_n (D := mdX6_putWordsOf) (x := l2) dX6_putWordsOf_7 rfl 2 rfl ?_
  refine C_aI (D := mdX6_putWordsOf) (p := parts1) dX6_putWordsOf_8 rfl (fun x2 => ?_)
  refine C_icmp_ge (D := mdX6_putWordsOf) (tgt := 61) dX6_putWordsOf_9 (by decide) rfl ?_ ?_
  · exact C_vret rfl dX6_putWordsOf_61
  · refine C_aload_n (D := mdX6_putWordsOf) (x := kB C + l1) dX6_putWordsOf_12 rfl 1 rfl ?_
    refine C_iload_n (D := mdX6_putWordsOf) (x := l2) dX6_putWordsOf_13 rfl 2 rfl ?_
    refine C_iload_n (D := mdX6_putWordsOf) (x := l3) dX6_putWordsOf_14 rfl 3 rfl ?_
    refine C_callV (D := mdX6_putWordsOf) (p := l1) (st := []) [.int l2, .int l3] v_X6_35 (i_X1_place C l1 l2 l3) dX6_putWordsOf_15 rfl rfl rfl (Nat.le_of_ble_eq_true rfl) (by decide) (by decide) (fun c3 => ?_)
    refine C_istore (D := mdX6_putWordsOf) (ls' := [(4, .int c3), (0, .ref (kB C + l0)), (1, .ref (kB C + l1)), (2, .int l2), (3, .int l3)]) dX6_putWordsOf_18 rfl (by decide) rfl ?_
    refine C_aload_n (D := mdX6_putWordsOf) (x := kB C + l0) dX6_putWordsOf_20 rfl 1 rfl ?_
    refine C_aload_n (D := mdX6_putWordsOf) (x := kB C + l1) dX6_putWordsOf_21 rfl 2 rfl ?_
    refine C_getR (D := mdX6_putWordsOf) (p := l1) f_X6_39 rfl dX6_putWordsOf_22 rfl (fun word4 => ?_)
    refine C_iload (D := mdX6_putWordsOf) (x := c3) dX6_putWordsOf_25 rfl 0 rfl ?_
    refine C_aI (D := mdX6_putWordsOf) (p := word4) dX6_putWordsOf_27 rfl (fun x5 => ?_)
    refine C_callV (D := mdX6_putWordsOf) (p := l0) (st := []) [.int x5] v_X6_42 (i_X6_put C l0 x5) dX6_putWordsOf_28 rfl rfl rfl (Nat.le_of_ble_eq_true rfl) (by decide) (by decide) (fun c6 => ?_)
    refine C_pop (D := mdX6_putWordsOf) dX6_putWordsOf_31 rfl rfl ?_
    refine C_aload_n (D := mdX6_putWordsOf) (x := kB C + l1) dX6_putWordsOf_32 rfl 2 rfl ?_
    refine C_getR (D := mdX6_putWordsOf) (p := l1) f_X6_46 rfl dX6_putWordsOf_33 rfl (fun sort7 => ?_)
    refine C_iload (D := mdX6_putWordsOf) (x := c3) dX6_putWordsOf_36 rfl 0 rfl ?_
    refine C_aI (D := mdX6_putWordsOf) (p := sort7) dX6_putWordsOf_38 rfl (fun x8 => ?_)
    refine C_iconst (D := mdX6_putWordsOf) (v := 2) dX6_putWordsOf_39 rfl (by decide) ?_
    refine C_icmp_ne (D := mdX6_putWordsOf) (tgt := 55) dX6_putWordsOf_40 (by decide) rfl ?_ ?_
    · exact C_sub [1, 2, 3, 4] rfl (p_X6_putWordsOf_J55 C l0 l1 l2 l3 k2 hk2)
    · refine C_aload_n (D := mdX6_putWordsOf) (x := kB C + l0) dX6_putWordsOf_43 rfl 1 rfl ?_
      refine C_aload_n (D := mdX6_putWordsOf) (x := kB C + l1) dX6_putWordsOf_44 rfl 2 rfl ?_
      refine C_getR (D := mdX6_putWordsOf) (p := l1) f_X6_49 rfl dX6_putWordsOf_45 rfl (fun earlier9 => ?_)
      refine C_iload (D := mdX6_putWordsOf) (x := c3) dX6_putWordsOf_48 rfl 0 rfl ?_
      refine C_aI (D := mdX6_putWordsOf) (p := earlier9) dX6_putWordsOf_50 rfl (fun x10 => ?_)
      refine C_callV (D := mdX6_putWordsOf) (p := l0) (st := []) [.int x10] v_X6_42 (i_X6_put C l0 x10) dX6_putWordsOf_51 rfl rfl rfl (Nat.le_of_ble_eq_true rfl) (by decide) (by decide) (fun c11 => ?_)
      refine C_pop (D := mdX6_putWordsOf) dX6_putWordsOf_54 rfl rfl ?_
      exact C_sub [1, 2, 3, 4] rfl (p_X6_putWordsOf_J55 C l0 l1 l2 l3 k2 hk2)
set_option maxHeartbeats 2000000 in
set_option maxRecDepth 20000 in
theorem i_X6_putWordsOf (C : KX) (l0 : Nat) (l1 : Nat) (l2 : Int32) : Imp C yX6_putWordsOf cX6_putWordsOf 5 none 2 44 rvV [.ref (kB C + l0), .ref (kB C + l1), .int l2] (m_X6_putWordsOf l0 l1 l2) := by
  refine Imp.of (by decide) (Nat.le_of_ble_eq_true rfl) [(0, .ref (kB C + l0)), (1, .ref (kB C + l1)), (2, .int l2)] rfl ?_
  show Cmp C mdX6_putWordsOf (QM rvV) 0 [(0, .ref (kB C + l0)), (1, .ref (kB C + l1)), (2, .int l2)] [] (m_X6_putWordsOf l0 l1 l2)
  unfold m_X6_putWordsOf
  refine C_iconst (D := mdX6_putWordsOf) (v := 0) dX6_putWordsOf_0 rfl (by decide) ?_
  refine C_istore_n (D := mdX6_putWordsOf) (ls' := [(3, .int 0), (0, .ref (kB C + l0)), (1, .ref (kB C + l1)), (2, .int l2)]) dX6_putWordsOf_1 rfl rfl (by decide) rfl ?_
  exact C_sub [1, 2, 3, 0] rfl (C_loop (fun s => [(0, .ref (kB C + l0)), (1, .ref (kB C + l1)), (2, .int l2), (3, .int s)]) (fun k hk s => p_X6_putWordsOf_B2 C l0 l1 l2  k hk s) FU 0)

-- StandingQueries$Words.gatherAll(LStandingQueries$Held;)V
theorem dX6_gatherAll_0 : decode cX6_gatherAll 0 = .ok (.aload_n 0, 1) := by decide +kernel
theorem dX6_gatherAll_1 : decode cX6_gatherAll 1 = .ok (.iconst 0, 1) := by decide +kernel
theorem dX6_gatherAll_2 : decode cX6_gatherAll 2 = .ok (.putfield 15, 3) := by decide +kernel
theorem dX6_gatherAll_5 : decode cX6_gatherAll 5 = .ok (.iconst 0, 1) := by decide +kernel
theorem dX6_gatherAll_6 : decode cX6_gatherAll 6 = .ok (.istore_n 2, 1) := by decide +kernel
theorem dX6_gatherAll_7 : decode cX6_gatherAll 7 = .ok (.iload_n 2, 1) := by decide +kernel
theorem dX6_gatherAll_8 : decode cX6_gatherAll 8 = .ok (.aload_n 1, 1) := by decide +kernel
theorem dX6_gatherAll_9 : decode cX6_gatherAll 9 = .ok (.getfield 23, 3) := by decide +kernel
theorem dX6_gatherAll_12 : decode cX6_gatherAll 12 = .ok (.if_icmp .ge 15, 3) := by decide +kernel
theorem dX6_gatherAll_15 : decode cX6_gatherAll 15 = .ok (.aload_n 0, 1) := by decide +kernel
theorem dX6_gatherAll_16 : decode cX6_gatherAll 16 = .ok (.aload_n 1, 1) := by decide +kernel
theorem dX6_gatherAll_17 : decode cX6_gatherAll 17 = .ok (.iload_n 2, 1) := by decide +kernel
theorem dX6_gatherAll_18 : decode cX6_gatherAll 18 = .ok (.invokevirtual 28, 3) := by decide +kernel
theorem dX6_gatherAll_21 : decode cX6_gatherAll 21 = .ok (.iinc 2 1, 3) := by decide +kernel
theorem dX6_gatherAll_24 : decode cX6_gatherAll 24 = .ok (.goto (-17), 3) := by decide +kernel
theorem dX6_gatherAll_27 : decode cX6_gatherAll 27 = .ok (.return_, 1) := by decide +kernel
abbrev mdX6_gatherAll : MD := (cX6_gatherAll, RX6, 3, none, yX6_gatherAll.name, 3, 68, eT)
set_option maxHeartbeats 2000000 in
set_option maxRecDepth 20000 in
theorem p_X6_gatherAll_B7 (C : KX) (l0 : Nat) (l1 : Nat)  (k7 : Int32 → Mo Unit) (hk7 : ∀ s, Cmp C mdX6_gatherAll (QM rvV) 7 [(0, .ref (kB C + l0)), (1, .ref (kB C + l1)), (2, .int s)] [] (k7 s)) (l2 : Int32) : Cmp C mdX6_gatherAll (QM rvV) 7 [(0, .ref (kB C + l0)), (1, .ref (kB C + l1)), (2, .int l2)] [] (m_X6_gatherAll_B7 l0 l1 k7 l2) := by
  unfold m_X6_gatherAll_B7
  refine C_iload_n (D := mdX6_gatherAll) (x := l2) dX6_gatherAll_7 rfl 2 rfl ?_
  refine C_aload_n (D := mdX6_gatherAll) (x := kB C + l1) dX6_gatherAll_8 rfl 1 rfl ?_
  refine C_getI (D := mdX6_gatherAll) (p := l1) f_X6_23 rfl dX6_gatherAll_9 rfl (fun queries1 => ?_)
  refine C_icmp_ge (D := mdX6_gatherAll) (tgt := 27) dX6_gatherAll_12 (by decide) rfl ?_ ?_
  · exact C_vret rfl dX6_gatherAll_27
  · refine C_aload_n (D := mdX6_gatherAll) (x := kB C + l0) dX6_gatherAll_15 rfl 0 rfl ?_
    refine C_aload_n (D := mdX6_gatherAll) (x := kB C + l1) dX6_gatherAll_16 rfl 1 rfl ?_
    refine C_iload_n (D := mdX6_gatherAll) (x := l2) dX6_gatherAll_17 rfl 2 rfl ?_
    refine C_callV (D := mdX6_gatherAll) (p := l0) (st := []) [.ref (kB C + l1), .int l2] v_X6_28 (i_X6_putWordsOf C l0 l1 l2) dX6_gatherAll_18 rfl rfl rfl (Nat.le_of_ble_eq_true rfl) (by decide) (by decide) (fun _ => ?_)
    refine C_iinc (D := mdX6_gatherAll) (j := 2) (v := (l2 + 1)) (ls' := [(2, .int (l2 + 1)), (0, .ref (kB C + l0)), (1, .ref (kB C + l1))]) dX6_gatherAll_21 rfl rfl rfl (by decide) rfl ?_
    refine C_goto (D := mdX6_gatherAll) (pc' := 7) dX6_gatherAll_24 (by decide) ?_
    exact C_sub [1, 2, 0] rfl (hk7 ((l2 + 1)))
set_option maxHeartbeats 2000000 in
set_option maxRecDepth 20000 in
theorem i_X6_gatherAll (C : KX) (l0 : Nat) (l1 : Nat) : Imp C yX6_gatherAll cX6_gatherAll 3 none 3 68 rvV [.ref (kB C + l0), .ref (kB C + l1)] (m_X6_gatherAll l0 l1) := by
  refine Imp.of (by decide) (Nat.le_of_ble_eq_true rfl) [(0, .ref (kB C + l0)), (1, .ref (kB C + l1))] rfl ?_
  show Cmp C mdX6_gatherAll (QM rvV) 0 [(0, .ref (kB C + l0)), (1, .ref (kB C + l1))] [] (m_X6_gatherAll l0 l1)
  unfold m_X6_gatherAll
  refine C_aload_n (D := mdX6_gatherAll) (x := kB C + l0) dX6_gatherAll_0 rfl 0 rfl ?_
  refine C_iconst (D := mdX6_gatherAll) (v := 0) dX6_gatherAll_1 rfl (by decide) ?_
  refine C_putI (D := mdX6_gatherAll) (p := l0) f_X6_15 rfl dX6_gatherAll_2 rfl ?_
  refine C_iconst (D := mdX6_gatherAll) (v := 0) dX6_gatherAll_5 rfl (by decide) ?_
  refine C_istore_n (D := mdX6_gatherAll) (ls' := [(2, .int 0), (0, .ref (kB C + l0)), (1, .ref (kB C + l1))]) dX6_gatherAll_6 rfl rfl (by decide) rfl ?_
  exact C_sub [1, 2, 0] rfl (C_loop (fun s => [(0, .ref (kB C + l0)), (1, .ref (kB C + l1)), (2, .int s)]) (fun k hk s => p_X6_gatherAll_B7 C l0 l1  k hk s) FU 0)

-- StandingQueries$Text.kindOf(I)I
theorem dX5_kindOf_0 : decode cX5_kindOf 0 = .ok (.iload_n 0, 1) := by decide +kernel
theorem dX5_kindOf_1 : decode cX5_kindOf 1 = .ok (.bipush 97, 2) := by decide +kernel
theorem dX5_kindOf_3 : decode cX5_kindOf 3 = .ok (.if_icmp .lt 11, 3) := by decide +kernel
theorem dX5_kindOf_6 : decode cX5_kindOf 6 = .ok (.iload_n 0, 1) := by decide +kernel
theorem dX5_kindOf_7 : decode cX5_kindOf 7 = .ok (.bipush 122, 2) := by decide +kernel
theorem dX5_kindOf_9 : decode cX5_kindOf 9 = .ok (.if_icmp .gt 5, 3) := by decide +kernel
theorem dX5_kindOf_12 : decode cX5_kindOf 12 = .ok (.iconst 1, 1) := by decide +kernel
theorem dX5_kindOf_13 : decode cX5_kindOf 13 = .ok (.ireturn, 1) := by decide +kernel
theorem dX5_kindOf_14 : decode cX5_kindOf 14 = .ok (.iload_n 0, 1) := by decide +kernel
theorem dX5_kindOf_15 : decode cX5_kindOf 15 = .ok (.bipush 48, 2) := by decide +kernel
theorem dX5_kindOf_17 : decode cX5_kindOf 17 = .ok (.if_icmp .lt 11, 3) := by decide +kernel
theorem dX5_kindOf_20 : decode cX5_kindOf 20 = .ok (.iload_n 0, 1) := by decide +kernel
theorem dX5_kindOf_21 : decode cX5_kindOf 21 = .ok (.bipush 57, 2) := by decide +kernel
theorem dX5_kindOf_23 : decode cX5_kindOf 23 = .ok (.if_icmp .gt 5, 3) := by decide +kernel
theorem dX5_kindOf_26 : decode cX5_kindOf 26 = .ok (.iconst 2, 1) := by decide +kernel
theorem dX5_kindOf_27 : decode cX5_kindOf 27 = .ok (.ireturn, 1) := by decide +kernel
theorem dX5_kindOf_28 : decode cX5_kindOf 28 = .ok (.iload_n 0, 1) := by decide +kernel
theorem dX5_kindOf_29 : decode cX5_kindOf 29 = .ok (.bipush 59, 2) := by decide +kernel
theorem dX5_kindOf_31 : decode cX5_kindOf 31 = .ok (.if_icmp .ne 7, 3) := by decide +kernel
theorem dX5_kindOf_34 : decode cX5_kindOf 34 = .ok (.iconst 3, 1) := by decide +kernel
theorem dX5_kindOf_35 : decode cX5_kindOf 35 = .ok (.goto 4, 3) := by decide +kernel
theorem dX5_kindOf_38 : decode cX5_kindOf 38 = .ok (.iconst 4, 1) := by decide +kernel
theorem dX5_kindOf_39 : decode cX5_kindOf 39 = .ok (.ireturn, 1) := by decide +kernel
abbrev mdX5_kindOf : MD := (cX5_kindOf, RX5, 1, (some .int), yX5_kindOf.name, 0, 0, eT)
set_option maxHeartbeats 2000000 in
set_option maxRecDepth 20000 in
theorem p_X5_kindOf_J28 (C : KX) (l0 : Int32)  : Cmp C mdX5_kindOf (QM rvI) 28 [(0, .int l0)] [] (m_X5_kindOf_J28 l0) := by
  unfold m_X5_kindOf_J28
  refine C_iload_n (D := mdX5_kindOf) (x := l0) dX5_kindOf_28 rfl 0 rfl ?_
  refine C_bipush (D := mdX5_kindOf) (v := 59) dX5_kindOf_29 rfl (by decide) ?_
  refine C_icmp_ne (D := mdX5_kindOf) (tgt := 38) dX5_kindOf_31 (by decide) rfl ?_ ?_
  · refine C_iconst (D := mdX5_kindOf) (v := 4) dX5_kindOf_38 rfl (by decide) ?_
    exact C_iret rfl dX5_kindOf_39
  · refine C_iconst (D := mdX5_kindOf) (v := 3) dX5_kindOf_34 rfl (by decide) ?_
    refine C_goto (D := mdX5_kindOf) (pc' := 39) dX5_kindOf_35 (by decide) ?_
    exact C_iret rfl dX5_kindOf_39
set_option maxHeartbeats 2000000 in
set_option maxRecDepth 20000 in
theorem p_X5_kindOf_J14 (C : KX) (l0 : Int32)  : Cmp C mdX5_kindOf (QM rvI) 14 [(0, .int l0)] [] (m_X5_kindOf_J14 l0) := by
  unfold m_X5_kindOf_J14
  refine C_iload_n (D := mdX5_kindOf) (x := l0) dX5_kindOf_14 rfl 0 rfl ?_
  refine C_bipush (D := mdX5_kindOf) (v := 48) dX5_kindOf_15 rfl (by decide) ?_
  refine C_icmp_lt (D := mdX5_kindOf) (tgt := 28) dX5_kindOf_17 (by decide) rfl ?_ ?_
  · exact C_sub [0] rfl (p_X5_kindOf_J28 C l0)
  · refine C_iload_n (D := mdX5_kindOf) (x := l0) dX5_kindOf_20 rfl 0 rfl ?_
    refine C_bipush (D := mdX5_kindOf) (v := 57) dX5_kindOf_21 rfl (by decide) ?_
    refine C_icmp_gt (D := mdX5_kindOf) (tgt := 28) dX5_kindOf_23 (by decide) rfl ?_ ?_
    · exact C_sub [0] rfl (p_X5_kindOf_J28 C l0)
    · refine C_iconst (D := mdX5_kindOf) (v := 2) dX5_kindOf_26 rfl (by decide) ?_
      exact C_iret rfl dX5_kindOf_27
set_option maxHeartbeats 2000000 in
set_option maxRecDepth 20000 in
theorem i_X5_kindOf (C : KX) (l0 : Int32) : Imp C yX5_kindOf cX5_kindOf 1 (some .int) 0 0 rvI [.int l0] (m_X5_kindOf l0) := by
  refine Imp.of (by decide) (Nat.le_of_ble_eq_true rfl) [(0, .int l0)] rfl ?_
  show Cmp C mdX5_kindOf (QM rvI) 0 [(0, .int l0)] [] (m_X5_kindOf l0)
  unfold m_X5_kindOf
  refine C_iload_n (D := mdX5_kindOf) (x := l0) dX5_kindOf_0 rfl 0 rfl ?_
  refine C_bipush (D := mdX5_kindOf) (v := 97) dX5_kindOf_1 rfl (by decide) ?_
  refine C_icmp_lt (D := mdX5_kindOf) (tgt := 14) dX5_kindOf_3 (by decide) rfl ?_ ?_
  · exact C_sub [0] rfl (p_X5_kindOf_J14 C l0)
  · refine C_iload_n (D := mdX5_kindOf) (x := l0) dX5_kindOf_6 rfl 0 rfl ?_
    refine C_bipush (D := mdX5_kindOf) (v := 122) dX5_kindOf_7 rfl (by decide) ?_
    refine C_icmp_gt (D := mdX5_kindOf) (tgt := 14) dX5_kindOf_9 (by decide) rfl ?_ ?_
    · exact C_sub [0] rfl (p_X5_kindOf_J14 C l0)
    · refine C_iconst (D := mdX5_kindOf) (v := 1) dX5_kindOf_12 rfl (by decide) ?_
      exact C_iret rfl dX5_kindOf_13

-- StandingQueries$Text.advance()V
theorem dX5_advance_0 : decode cX5_advance 0 = .ok (.aload_n 0, 1) := by decide +kernel
theorem dX5_advance_1 : decode cX5_advance 1 = .ok (.aload_n 0, 1) := by decide +kernel
theorem dX5_advance_2 : decode cX5_advance 2 = .ok (.getfield 48, 3) := by decide +kernel
theorem dX5_advance_5 : decode cX5_advance 5 = .ok (.putfield 61, 3) := by decide +kernel
theorem dX5_advance_8 : decode cX5_advance 8 = .ok (.aload_n 0, 1) := by decide +kernel
theorem dX5_advance_9 : decode cX5_advance 9 = .ok (.getfield 61, 3) := by decide +kernel
theorem dX5_advance_12 : decode cX5_advance 12 = .ok (.aload_n 0, 1) := by decide +kernel
theorem dX5_advance_13 : decode cX5_advance 13 = .ok (.getfield 31, 3) := by decide +kernel
theorem dX5_advance_16 : decode cX5_advance 16 = .ok (.if_icmp .ge 30, 3) := by decide +kernel
theorem dX5_advance_19 : decode cX5_advance 19 = .ok (.aload_n 0, 1) := by decide +kernel
theorem dX5_advance_20 : decode cX5_advance 20 = .ok (.getfield 9, 3) := by decide +kernel
theorem dX5_advance_23 : decode cX5_advance 23 = .ok (.aload_n 0, 1) := by decide +kernel
theorem dX5_advance_24 : decode cX5_advance 24 = .ok (.getfield 61, 3) := by decide +kernel
theorem dX5_advance_27 : decode cX5_advance 27 = .ok (.iaload, 1) := by decide +kernel
theorem dX5_advance_28 : decode cX5_advance 28 = .ok (.bipush 32, 2) := by decide +kernel
theorem dX5_advance_30 : decode cX5_advance 30 = .ok (.if_icmp .ne 16, 3) := by decide +kernel
theorem dX5_advance_33 : decode cX5_advance 33 = .ok (.aload_n 0, 1) := by decide +kernel
theorem dX5_advance_34 : decode cX5_advance 34 = .ok (.dup, 1) := by decide +kernel
theorem dX5_advance_35 : decode cX5_advance 35 = .ok (.getfield 61, 3) := by decide +kernel
theorem dX5_advance_38 : decode cX5_advance 38 = .ok (.iconst 1, 1) := by decide +kernel
theorem dX5_advance_39 : decode cX5_advance 39 = .ok (.iadd, 1) := by decide +kernel
theorem dX5_advance_40 : decode cX5_advance 40 = .ok (.putfield 61, 3) := by decide +kernel
theorem dX5_advance_43 : decode cX5_advance 43 = .ok (.goto (-35), 3) := by decide +kernel
theorem dX5_advance_46 : decode cX5_advance 46 = .ok (.aload_n 0, 1) := by decide +kernel
theorem dX5_advance_47 : decode cX5_advance 47 = .ok (.aload_n 0, 1) := by decide +kernel
theorem dX5_advance_48 : decode cX5_advance 48 = .ok (.getfield 61, 3) := by decide +kernel
theorem dX5_advance_51 : decode cX5_advance 51 = .ok (.putfield 48, 3) := by decide +kernel
theorem dX5_advance_54 : decode cX5_advance 54 = .ok (.aload_n 0, 1) := by decide +kernel
theorem dX5_advance_55 : decode cX5_advance 55 = .ok (.getfield 61, 3) := by decide +kernel
theorem dX5_advance_58 : decode cX5_advance 58 = .ok (.aload_n 0, 1) := by decide +kernel
theorem dX5_advance_59 : decode cX5_advance 59 = .ok (.getfield 31, 3) := by decide +kernel
theorem dX5_advance_62 : decode cX5_advance 62 = .ok (.if_icmp .lt 9, 3) := by decide +kernel
theorem dX5_advance_65 : decode cX5_advance 65 = .ok (.aload_n 0, 1) := by decide +kernel
theorem dX5_advance_66 : decode cX5_advance 66 = .ok (.iconst 0, 1) := by decide +kernel
theorem dX5_advance_67 : decode cX5_advance 67 = .ok (.putfield 54, 3) := by decide +kernel
theorem dX5_advance_70 : decode cX5_advance 70 = .ok (.return_, 1) := by decide +kernel
theorem dX5_advance_71 : decode cX5_advance 71 = .ok (.aload_n 0, 1) := by decide +kernel
theorem dX5_advance_72 : decode cX5_advance 72 = .ok (.aload_n 0, 1) := by decide +kernel
theorem dX5_advance_73 : decode cX5_advance 73 = .ok (.getfield 9, 3) := by decide +kernel
theorem dX5_advance_76 : decode cX5_advance 76 = .ok (.aload_n 0, 1) := by decide +kernel
theorem dX5_advance_77 : decode cX5_advance 77 = .ok (.getfield 61, 3) := by decide +kernel
theorem dX5_advance_80 : decode cX5_advance 80 = .ok (.iaload, 1) := by decide +kernel
theorem dX5_advance_81 : decode cX5_advance 81 = .ok (.invokestatic 115, 3) := by decide +kernel
theorem dX5_advance_84 : decode cX5_advance 84 = .ok (.putfield 54, 3) := by decide +kernel
theorem dX5_advance_87 : decode cX5_advance 87 = .ok (.aload_n 0, 1) := by decide +kernel
theorem dX5_advance_88 : decode cX5_advance 88 = .ok (.dup, 1) := by decide +kernel
theorem dX5_advance_89 : decode cX5_advance 89 = .ok (.getfield 48, 3) := by decide +kernel
theorem dX5_advance_92 : decode cX5_advance 92 = .ok (.iconst 1, 1) := by decide +kernel
theorem dX5_advance_93 : decode cX5_advance 93 = .ok (.iadd, 1) := by decide +kernel
theorem dX5_advance_94 : decode cX5_advance 94 = .ok (.putfield 48, 3) := by decide +kernel
theorem dX5_advance_97 : decode cX5_advance 97 = .ok (.aload_n 0, 1) := by decide +kernel
theorem dX5_advance_98 : decode cX5_advance 98 = .ok (.getfield 48, 3) := by decide +kernel
theorem dX5_advance_101 : decode cX5_advance 101 = .ok (.aload_n 0, 1) := by decide +kernel
theorem dX5_advance_102 : decode cX5_advance 102 = .ok (.getfield 31, 3) := by decide +kernel
theorem dX5_advance_105 : decode cX5_advance 105 = .ok (.if_icmp .ge 51, 3) := by decide +kernel
theorem dX5_advance_108 : decode cX5_advance 108 = .ok (.aload_n 0, 1) := by decide +kernel
theorem dX5_advance_109 : decode cX5_advance 109 = .ok (.getfield 54, 3) := by decide +kernel
theorem dX5_advance_112 : decode cX5_advance 112 = .ok (.iconst 1, 1) := by decide +kernel
theorem dX5_advance_113 : decode cX5_advance 113 = .ok (.if_icmp .eq 11, 3) := by decide +kernel
theorem dX5_advance_116 : decode cX5_advance 116 = .ok (.aload_n 0, 1) := by decide +kernel
theorem dX5_advance_117 : decode cX5_advance 117 = .ok (.getfield 54, 3) := by decide +kernel
theorem dX5_advance_120 : decode cX5_advance 120 = .ok (.iconst 2, 1) := by decide +kernel
theorem dX5_advance_121 : decode cX5_advance 121 = .ok (.if_icmp .ne 35, 3) := by decide +kernel
theorem dX5_advance_124 : decode cX5_advance 124 = .ok (.aload_n 0, 1) := by decide +kernel
theorem dX5_advance_125 : decode cX5_advance 125 = .ok (.getfield 9, 3) := by decide +kernel
theorem dX5_advance_128 : decode cX5_advance 128 = .ok (.aload_n 0, 1) := by decide +kernel
theorem dX5_advance_129 : decode cX5_advance 129 = .ok (.getfield 48, 3) := by decide +kernel
theorem dX5_advance_132 : decode cX5_advance 132 = .ok (.iaload, 1) := by decide +kernel
theorem dX5_advance_133 : decode cX5_advance 133 = .ok (.invokestatic 115, 3) := by decide +kernel
theorem dX5_advance_136 : decode cX5_advance 136 = .ok (.aload_n 0, 1) := by decide +kernel
theorem dX5_advance_137 : decode cX5_advance 137 = .ok (.getfield 54, 3) := by decide +kernel
theorem dX5_advance_140 : decode cX5_advance 140 = .ok (.if_icmp .ne 16, 3) := by decide +kernel
theorem dX5_advance_143 : decode cX5_advance 143 = .ok (.aload_n 0, 1) := by decide +kernel
theorem dX5_advance_144 : decode cX5_advance 144 = .ok (.dup, 1) := by decide +kernel
theorem dX5_advance_145 : decode cX5_advance 145 = .ok (.getfield 48, 3) := by decide +kernel
theorem dX5_advance_148 : decode cX5_advance 148 = .ok (.iconst 1, 1) := by decide +kernel
theorem dX5_advance_149 : decode cX5_advance 149 = .ok (.iadd, 1) := by decide +kernel
theorem dX5_advance_150 : decode cX5_advance 150 = .ok (.putfield 48, 3) := by decide +kernel
theorem dX5_advance_153 : decode cX5_advance 153 = .ok (.goto (-56), 3) := by decide +kernel
theorem dX5_advance_156 : decode cX5_advance 156 = .ok (.return_, 1) := by decide +kernel
abbrev mdX5_advance : MD := (cX5_advance, RX5, 1, none, yX5_advance.name, 1, 20, eT)
set_option maxHeartbeats 2000000 in
set_option maxRecDepth 20000 in
theorem p_X5_advance_J124 (C : KX) (l0 : Nat) (k97 : Unit → Mo Unit) (hk97 : ∀ s, Cmp C mdX5_advance (QM rvV) 97 [(0, .ref (kB C + l0))] [] (k97 s)) : Cmp C mdX5_advance (QM rvV) 124 [(0, .ref (kB C + l0))] [] (m_X5_advance_J124 l0 k97) := by
  unfold m_X5_advance_J124
  refine C_aload_n (D := mdX5_advance) (x := kB C + l0) dX5_advance_124 rfl 0 rfl ?_
  refine C_getR (D := mdX5_advance) (p := l0) f_X5_9 rfl dX5_advance_125 rfl (fun bytes15 => ?_)
  refine C_aload_n (D := mdX5_advance) (x := kB C + l0) dX5_advance_128 rfl 0 rfl ?_
  refine C_getI (D := mdX5_advance) (p := l0) f_X5_48 rfl dX5_advance_129 rfl (fun end16 => ?_)
  refine C_aI (D := mdX5_advance) (p := bytes15) dX5_advance_132 rfl (fun x17 => ?_)
  refine C_callS (D := mdX5_advance) (st := []) [.int x17] s_X5_115 (i_X5_kindOf C x17) dX5_advance_133 rfl rfl rfl (Nat.le_of_ble_eq_true rfl) (by decide) (by decide) (fun c18 => ?_)
  refine C_aload_n (D := mdX5_advance) (x := kB C + l0) dX5_advance_136 rfl 0 rfl ?_
  refine C_getI (D := mdX5_advance) (p := l0) f_X5_54 rfl dX5_advance_137 rfl (fun kind19 => ?_)
  refine C_icmp_ne (D := mdX5_advance) (tgt := 156) dX5_advance_140 (by decide) rfl ?_ ?_
  · exact C_vret rfl dX5_advance_156
  · refine C_aload_n (D := mdX5_advance) (x := kB C + l0) dX5_advance_143 rfl 0 rfl ?_
    refine C_dup (D := mdX5_advance) dX5_advance_144 rfl rfl ?_
    refine C_getI (D := mdX5_advance) (p := l0) f_X5_48 rfl dX5_advance_145 rfl (fun end20 => ?_)
    refine C_iconst (D := mdX5_advance) (v := 1) dX5_advance_148 rfl (by decide) ?_
    refine C_iadd (D := mdX5_advance) dX5_advance_149 rfl ?_
    refine C_putI (D := mdX5_advance) (p := l0) f_X5_48 rfl dX5_advance_150 rfl ?_
    refine C_goto (D := mdX5_advance) (pc' := 97) dX5_advance_153 (by decide) ?_
    exact C_sub [0] rfl (hk97 ())
set_option maxHeartbeats 2000000 in
set_option maxRecDepth 20000 in
theorem p_X5_advance_B97 (C : KX) (l0 : Nat)  (k97 : Unit → Mo Unit) (hk97 : ∀ s, Cmp C mdX5_advance (QM rvV) 97 [(0, .ref (kB C + l0))] [] (k97 s))  : Cmp C mdX5_advance (QM rvV) 97 [(0, .ref (kB C + l0))] [] (m_X5_advance_B97 l0 k97) := by
  unfold m_X5_advance_B97
  refine C_aload_n (D := mdX5_advance) (x := kB C + l0) dX5_advance_97 rfl 0 rfl ?_
  refine C_getI (D := mdX5_advance) (p := l0) f_X5_48 rfl dX5_advance_98 rfl (fun end12 => ?_)
  refine C_aload_n (D := mdX5_advance) (x := kB C + l0) dX5_advance_101 rfl 0 rfl ?_
  refine C_getI (D := mdX5_advance) (p := l0) f_X5_31 rfl dX5_advance_102 rfl (fun size13 => ?_)
  refine C_icmp_ge (D := mdX5_advance) (tgt := 156) dX5_advance_105 (by decide) rfl ?_ ?_
  · exact C_vret rfl dX5_advance_156
  · refine C_aload_n (D := mdX5_advance) (x := kB C + l0) dX5_advance_108 rfl 0 rfl ?_
    refine C_getI (D := mdX5_advance) (p := l0) f_X5_54 rfl dX5_advance_109 rfl (fun kind14 => ?_)
    refine C_iconst (D := mdX5_advance) (v := 1) dX5_advance_112 rfl (by decide) ?_
    refine C_icmp_eq (D := mdX5_advance) (tgt := 124) dX5_advance_113 (by decide) rfl ?_ ?_
    · exact C_sub [0] rfl (p_X5_advance_J124 C l0 k97 hk97)
    · refine C_aload_n (D := mdX5_advance) (x := kB C + l0) dX5_advance_116 rfl 0 rfl ?_
      refine C_getI (D := mdX5_advance) (p := l0) f_X5_54 rfl dX5_advance_117 rfl (fun kind21 => ?_)
      refine C_iconst (D := mdX5_advance) (v := 2) dX5_advance_120 rfl (by decide) ?_
      refine C_icmp_ne (D := mdX5_advance) (tgt := 156) dX5_advance_121 (by decide) rfl ?_ ?_
      · exact C_vret rfl dX5_advance_156
      · exact C_sub [0] rfl (p_X5_advance_J124 C l0 k97 hk97)
set_option maxHeartbeats 2000000 in
set_option maxRecDepth 20000 in
theorem p_X5_advance_J46 (C : KX) (l0 : Nat)  : Cmp C mdX5_advance (QM rvV) 46 [(0, .ref (kB C + l0))] [] (m_X5_advance_J46 l0) := by
  unfold m_X5_advance_J46
  refine C_aload_n (D := mdX5_advance) (x := kB C + l0) dX5_advance_46 rfl 0 rfl ?_
  refine C_aload_n (D := mdX5_advance) (x := kB C + l0) dX5_advance_47 rfl 0 rfl ?_
  refine C_getI (D := mdX5_advance) (p := l0) f_X5_61 rfl dX5_advance_48 rfl (fun begin4 => ?_)
  refine C_putI (D := mdX5_advance) (p := l0) f_X5_48 rfl dX5_advance_51 rfl ?_
  refine C_aload_n (D := mdX5_advance) (x := kB C + l0) dX5_advance_54 rfl 0 rfl ?_
  refine C_getI (D := mdX5_advance) (p := l0) f_X5_61 rfl dX5_advance_55 rfl (fun begin5 => ?_)
  refine C_aload_n (D := mdX5_advance) (x := kB C + l0) dX5_advance_58 rfl 0 rfl ?_
  refine C_getI (D := mdX5_advance) (p := l0) f_X5_31 rfl dX5_advance_59 rfl (fun size6 => ?_)
  refine C_icmp_lt (D := mdX5_advance) (tgt := 71) dX5_advance_62 (by decide) rfl ?_ ?_
  · refine C_aload_n (D := mdX5_advance) (x := kB C + l0) dX5_advance_71 rfl 0 rfl ?_
    refine C_aload_n (D := mdX5_advance) (x := kB C + l0) dX5_advance_72 rfl 0 rfl ?_
    refine C_getR (D := mdX5_advance) (p := l0) f_X5_9 rfl dX5_advance_73 rfl (fun bytes7 => ?_)
    refine C_aload_n (D := mdX5_advance) (x := kB C + l0) dX5_advance_76 rfl 0 rfl ?_
    refine C_getI (D := mdX5_advance) (p := l0) f_X5_61 rfl dX5_advance_77 rfl (fun begin8 => ?_)
    refine C_aI (D := mdX5_advance) (p := bytes7) dX5_advance_80 rfl (fun x9 => ?_)
    refine C_callS (D := mdX5_advance) (st := [.ref (kB C + l0)]) [.int x9] s_X5_115 (i_X5_kindOf C x9) dX5_advance_81 rfl rfl rfl (Nat.le_of_ble_eq_true rfl) (by decide) (by decide) (fun c10 => ?_)
    refine C_putI (D := mdX5_advance) (p := l0) f_X5_54 rfl dX5_advance_84 rfl ?_
    refine C_aload_n (D := mdX5_advance) (x := kB C + l0) dX5_advance_87 rfl 0 rfl ?_
    refine C_dup (D := mdX5_advance) dX5_advance_88 rfl rfl ?_
    refine C_getI (D := mdX5_advance) (p := l0) f_X5_48 rfl dX5_advance_89 rfl (fun end11 => ?_)
    refine C_iconst (D := mdX5_advance) (v := 1) dX5_advance_92 rfl (by decide) ?_
    refine C_iadd (D := mdX5_advance) dX5_advance_93 rfl ?_
    refine C_putI (D := mdX5_advance) (p := l0) f_X5_48 rfl dX5_advance_94 rfl ?_
    exact C_sub [0] rfl (C_loop (fun s => [(0, .ref (kB C + l0))]) (fun k hk s => p_X5_advance_B97 C l0  k hk ) FU ())
  · refine C_aload_n (D := mdX5_advance) (x := kB C + l0) dX5_advance_65 rfl 0 rfl ?_
    refine C_iconst (D := mdX5_advance) (v := 0) dX5_advance_66 rfl (by decide) ?_
    refine C_putI (D := mdX5_advance) (p := l0) f_X5_54 rfl dX5_advance_67 rfl ?_
    exact C_vret rfl dX5_advance_70
set_option maxHeartbeats 2000000 in
set_option maxRecDepth 20000 in
theorem p_X5_advance_B8 (C : KX) (l0 : Nat)  (k8 : Unit → Mo Unit) (hk8 : ∀ s, Cmp C mdX5_advance (QM rvV) 8 [(0, .ref (kB C + l0))] [] (k8 s))  : Cmp C mdX5_advance (QM rvV) 8 [(0, .ref (kB C + l0))] [] (m_X5_advance_B8 l0 k8) := by
  unfold m_X5_advance_B8
  refine C_aload_n (D := mdX5_advance) (x := kB C + l0) dX5_advance_8 rfl 0 rfl ?_
  refine C_getI (D := mdX5_advance) (p := l0) f_X5_61 rfl dX5_advance_9 rfl (fun begin2 => ?_)
  refine C_aload_n (D := mdX5_advance) (x := kB C + l0) dX5_advance_12 rfl 0 rfl ?_
  refine C_getI (D := mdX5_advance) (p := l0) f_X5_31 rfl dX5_advance_13 rfl (fun size3 => ?_)
  refine C_icmp_ge (D := mdX5_advance) (tgt := 46) dX5_advance_16 (by decide) rfl ?_ ?_
  · exact C_sub [0] rfl (p_X5_advance_J46 C l0)
  · refine C_aload_n (D := mdX5_advance) (x := kB C + l0) dX5_advance_19 rfl 0 rfl ?_
    refine C_getR (D := mdX5_advance) (p := l0) f_X5_9 rfl dX5_advance_20 rfl (fun bytes22 => ?_)
    refine C_aload_n (D := mdX5_advance) (x := kB C + l0) dX5_advance_23 rfl 0 rfl ?_
    refine C_getI (D := mdX5_advance) (p := l0) f_X5_61 rfl dX5_advance_24 rfl (fun begin23 => ?_)
    refine C_aI (D := mdX5_advance) (p := bytes22) dX5_advance_27 rfl (fun x24 => ?_)
    refine C_bipush (D := mdX5_advance) (v := 32) dX5_advance_28 rfl (by decide) ?_
    refine C_icmp_ne (D := mdX5_advance) (tgt := 46) dX5_advance_30 (by decide) rfl ?_ ?_
    · exact C_sub [0] rfl (p_X5_advance_J46 C l0)
    · refine C_aload_n (D := mdX5_advance) (x := kB C + l0) dX5_advance_33 rfl 0 rfl ?_
      refine C_dup (D := mdX5_advance) dX5_advance_34 rfl rfl ?_
      refine C_getI (D := mdX5_advance) (p := l0) f_X5_61 rfl dX5_advance_35 rfl (fun begin25 => ?_)
      refine C_iconst (D := mdX5_advance) (v := 1) dX5_advance_38 rfl (by decide) ?_
      refine C_iadd (D := mdX5_advance) dX5_advance_39 rfl ?_
      refine C_putI (D := mdX5_advance) (p := l0) f_X5_61 rfl dX5_advance_40 rfl ?_
      refine C_goto (D := mdX5_advance) (pc' := 8) dX5_advance_43 (by decide) ?_
      exact C_sub [0] rfl (hk8 ())
set_option maxHeartbeats 2000000 in
set_option maxRecDepth 20000 in
theorem i_X5_advance (C : KX) (l0 : Nat) : Imp C yX5_advance cX5_advance 1 none 1 20 rvV [.ref (kB C + l0)] (m_X5_advance l0) := by
  refine Imp.of (by decide) (Nat.le_of_ble_eq_true rfl) [(0, .ref (kB C + l0))] rfl ?_
  show Cmp C mdX5_advance (QM rvV) 0 [(0, .ref (kB C + l0))] [] (m_X5_advance l0)
  unfold m_X5_advance
  refine C_aload_n (D := mdX5_advance) (x := kB C + l0) dX5_advance_0 rfl 0 rfl ?_
  refine C_aload_n (D := mdX5_advance) (x := kB C + l0) dX5_advance_1 rfl 0 rfl ?_
  refine C_getI (D := mdX5_advance) (p := l0) f_X5_48 rfl dX5_advance_2 rfl (fun end1 => ?_)
  refine C_putI (D := mdX5_advance) (p := l0) f_X5_61 rfl dX5_advance_5 rfl ?_
  exact C_sub [0] rfl (C_loop (fun s => [(0, .ref (kB C + l0))]) (fun k hk s => p_X5_advance_B8 C l0  k hk ) FU ())

-- StandingQueries$Text.hasOpenQuery()Z
theorem dX5_hasOpenQuery_0 : decode cX5_hasOpenQuery 0 = .ok (.aload_n 0, 1) := by decide +kernel
theorem dX5_hasOpenQuery_1 : decode cX5_hasOpenQuery 1 = .ok (.getfield 18, 3) := by decide +kernel
theorem dX5_hasOpenQuery_4 : decode cX5_hasOpenQuery 4 = .ok (.getfield 39, 3) := by decide +kernel
theorem dX5_hasOpenQuery_7 : decode cX5_hasOpenQuery 7 = .ok (.aload_n 0, 1) := by decide +kernel
theorem dX5_hasOpenQuery_8 : decode cX5_hasOpenQuery 8 = .ok (.getfield 42, 3) := by decide +kernel
theorem dX5_hasOpenQuery_11 : decode cX5_hasOpenQuery 11 = .ok (.if_icmp .le 7, 3) := by decide +kernel
theorem dX5_hasOpenQuery_14 : decode cX5_hasOpenQuery 14 = .ok (.iconst 1, 1) := by decide +kernel
theorem dX5_hasOpenQuery_15 : decode cX5_hasOpenQuery 15 = .ok (.goto 4, 3) := by decide +kernel
theorem dX5_hasOpenQuery_18 : decode cX5_hasOpenQuery 18 = .ok (.iconst 0, 1) := by decide +kernel
theorem dX5_hasOpenQuery_19 : decode cX5_hasOpenQuery 19 = .ok (.ireturn, 1) := by decide +kernel
abbrev mdX5_hasOpenQuery : MD := (cX5_hasOpenQuery, RX5, 1, (some .boolean), yX5_hasOpenQuery.name, 0, 0, eT)
set_option maxHeartbeats 2000000 in
set_option maxRecDepth 20000 in
theorem i_X5_hasOpenQuery (C : KX) (l0 : Nat) : Imp C yX5_hasOpenQuery cX5_hasOpenQuery 1 (some .boolean) 0 0 rvI [.ref (kB C + l0)] (m_X5_hasOpenQuery l0) := by
  refine Imp.of (by decide) (Nat.le_of_ble_eq_true rfl) [(0, .ref (kB C + l0))] rfl ?_
  show Cmp C mdX5_hasOpenQuery (QM rvI) 0 [(0, .ref (kB C + l0))] [] (m_X5_hasOpenQuery l0)
  unfold m_X5_hasOpenQuery
  refine C_aload_n (D := mdX5_hasOpenQuery) (x := kB C + l0) dX5_hasOpenQuery_0 rfl 0 rfl ?_
  refine C_getR (D := mdX5_hasOpenQuery) (p := l0) f_X5_18 rfl dX5_hasOpenQuery_1 rfl (fun draft1 => ?_)
  refine C_getI (D := mdX5_hasOpenQuery) (p := draft1) f_X5_39 rfl dX5_hasOpenQuery_4 rfl (fun queries2 => ?_)
  refine C_aload_n (D := mdX5_hasOpenQuery) (x := kB C + l0) dX5_hasOpenQuery_7 rfl 0 rfl ?_
  refine C_getI (D := mdX5_hasOpenQuery) (p := l0) f_X5_42 rfl dX5_hasOpenQuery_8 rfl (fun queriesBefore3 => ?_)
  refine C_icmp_le (D := mdX5_hasOpenQuery) (tgt := 18) dX5_hasOpenQuery_11 (by decide) rfl ?_ ?_
  · refine C_iconst (D := mdX5_hasOpenQuery) (v := 0) dX5_hasOpenQuery_18 rfl (by decide) ?_
    exact C_zret rfl dX5_hasOpenQuery_19
  · refine C_iconst (D := mdX5_hasOpenQuery) (v := 1) dX5_hasOpenQuery_14 rfl (by decide) ?_
    refine C_goto (D := mdX5_hasOpenQuery) (pc' := 19) dX5_hasOpenQuery_15 (by decide) ?_
    exact C_zret rfl dX5_hasOpenQuery_19

-- StandingQueries$Held.partsOfLast()I
theorem dX1_partsOfLast_0 : decode cX1_partsOfLast 0 = .ok (.aload_n 0, 1) := by decide +kernel
theorem dX1_partsOfLast_1 : decode cX1_partsOfLast 1 = .ok (.getfield 30, 3) := by decide +kernel
theorem dX1_partsOfLast_4 : decode cX1_partsOfLast 4 = .ok (.ifCond .le 17, 3) := by decide +kernel
theorem dX1_partsOfLast_7 : decode cX1_partsOfLast 7 = .ok (.aload_n 0, 1) := by decide +kernel
theorem dX1_partsOfLast_8 : decode cX1_partsOfLast 8 = .ok (.getfield 9, 3) := by decide +kernel
theorem dX1_partsOfLast_11 : decode cX1_partsOfLast 11 = .ok (.aload_n 0, 1) := by decide +kernel
theorem dX1_partsOfLast_12 : decode cX1_partsOfLast 12 = .ok (.getfield 30, 3) := by decide +kernel
theorem dX1_partsOfLast_15 : decode cX1_partsOfLast 15 = .ok (.iconst 1, 1) := by decide +kernel
theorem dX1_partsOfLast_16 : decode cX1_partsOfLast 16 = .ok (.isub, 1) := by decide +kernel
theorem dX1_partsOfLast_17 : decode cX1_partsOfLast 17 = .ok (.iaload, 1) := by decide +kernel
theorem dX1_partsOfLast_18 : decode cX1_partsOfLast 18 = .ok (.goto 4, 3) := by decide +kernel
theorem dX1_partsOfLast_21 : decode cX1_partsOfLast 21 = .ok (.iconst 0, 1) := by decide +kernel
theorem dX1_partsOfLast_22 : decode cX1_partsOfLast 22 = .ok (.ireturn, 1) := by decide +kernel
abbrev mdX1_partsOfLast : MD := (cX1_partsOfLast, RX1, 1, (some .int), yX1_partsOfLast.name, 0, 0, eT)
set_option maxHeartbeats 2000000 in
set_option maxRecDepth 20000 in
theorem i_X1_partsOfLast (C : KX) (l0 : Nat) : Imp C yX1_partsOfLast cX1_partsOfLast 1 (some .int) 0 0 rvI [.ref (kB C + l0)] (m_X1_partsOfLast l0) := by
  refine Imp.of (by decide) (Nat.le_of_ble_eq_true rfl) [(0, .ref (kB C + l0))] rfl ?_
  show Cmp C mdX1_partsOfLast (QM rvI) 0 [(0, .ref (kB C + l0))] [] (m_X1_partsOfLast l0)
  unfold m_X1_partsOfLast
  refine C_aload_n (D := mdX1_partsOfLast) (x := kB C + l0) dX1_partsOfLast_0 rfl 0 rfl ?_
  refine C_getI (D := mdX1_partsOfLast) (p := l0) f_X1_30 rfl dX1_partsOfLast_1 rfl (fun queries1 => ?_)
  refine C_if_le (D := mdX1_partsOfLast) (tgt := 21) dX1_partsOfLast_4 (by decide) rfl ?_ ?_
  · refine C_iconst (D := mdX1_partsOfLast) (v := 0) dX1_partsOfLast_21 rfl (by decide) ?_
    exact C_iret rfl dX1_partsOfLast_22
  · refine C_aload_n (D := mdX1_partsOfLast) (x := kB C + l0) dX1_partsOfLast_7 rfl 0 rfl ?_
    refine C_getR (D := mdX1_partsOfLast) (p := l0) f_X1_9 rfl dX1_partsOfLast_8 rfl (fun parts2 => ?_)
    refine C_aload_n (D := mdX1_partsOfLast) (x := kB C + l0) dX1_partsOfLast_11 rfl 0 rfl ?_
    refine C_getI (D := mdX1_partsOfLast) (p := l0) f_X1_30 rfl dX1_partsOfLast_12 rfl (fun queries3 => ?_)
    refine C_iconst (D := mdX1_partsOfLast) (v := 1) dX1_partsOfLast_15 rfl (by decide) ?_
    refine C_isub (D := mdX1_partsOfLast) dX1_partsOfLast_16 rfl ?_
    refine C_aI (D := mdX1_partsOfLast) (p := parts2) dX1_partsOfLast_17 rfl (fun x4 => ?_)
    refine C_goto (D := mdX1_partsOfLast) (pc' := 22) dX1_partsOfLast_18 (by decide) ?_
    exact C_iret rfl dX1_partsOfLast_22

-- StandingQueries$Text.lacksParts()Z
theorem dX5_lacksParts_0 : decode cX5_lacksParts 0 = .ok (.aload_n 0, 1) := by decide +kernel
theorem dX5_lacksParts_1 : decode cX5_lacksParts 1 = .ok (.invokevirtual 67, 3) := by decide +kernel
theorem dX5_lacksParts_4 : decode cX5_lacksParts 4 = .ok (.ifCond .eq 17, 3) := by decide +kernel
theorem dX5_lacksParts_7 : decode cX5_lacksParts 7 = .ok (.aload_n 0, 1) := by decide +kernel
theorem dX5_lacksParts_8 : decode cX5_lacksParts 8 = .ok (.getfield 18, 3) := by decide +kernel
theorem dX5_lacksParts_11 : decode cX5_lacksParts 11 = .ok (.invokevirtual 70, 3) := by decide +kernel
theorem dX5_lacksParts_14 : decode cX5_lacksParts 14 = .ok (.ifCond .ne 7, 3) := by decide +kernel
theorem dX5_lacksParts_17 : decode cX5_lacksParts 17 = .ok (.iconst 1, 1) := by decide +kernel
theorem dX5_lacksParts_18 : decode cX5_lacksParts 18 = .ok (.goto 4, 3) := by decide +kernel
theorem dX5_lacksParts_21 : decode cX5_lacksParts 21 = .ok (.iconst 0, 1) := by decide +kernel
theorem dX5_lacksParts_22 : decode cX5_lacksParts 22 = .ok (.ireturn, 1) := by decide +kernel
abbrev mdX5_lacksParts : MD := (cX5_lacksParts, RX5, 1, (some .boolean), yX5_lacksParts.name, 1, 20, eT)
set_option maxHeartbeats 2000000 in
set_option maxRecDepth 20000 in
theorem i_X5_lacksParts (C : KX) (l0 : Nat) : Imp C yX5_lacksParts cX5_lacksParts 1 (some .boolean) 1 20 rvI [.ref (kB C + l0)] (m_X5_lacksParts l0) := by
  refine Imp.of (by decide) (Nat.le_of_ble_eq_true rfl) [(0, .ref (kB C + l0))] rfl ?_
  show Cmp C mdX5_lacksParts (QM rvI) 0 [(0, .ref (kB C + l0))] [] (m_X5_lacksParts l0)
  unfold m_X5_lacksParts
  refine C_aload_n (D := mdX5_lacksParts) (x := kB C + l0) dX5_lacksParts_0 rfl 0 rfl ?_
  refine C_callV (D := mdX5_lacksParts) (p := l0) (st := []) [] v_X5_67 (i_X5_hasOpenQuery C l0) dX5_lacksParts_1 rfl rfl rfl (Nat.le_of_ble_eq_true rfl) (by decide) (by decide) (fun c1 => ?_)
  refine C_if_eq (D := mdX5_lacksParts) (tgt := 21) dX5_lacksParts_4 (by decide) rfl ?_ ?_
  · refine C_iconst (D := mdX5_lacksParts) (v := 0) dX5_lacksParts_21 rfl (by decide) ?_
    exact C_zret rfl dX5_lacksParts_22
  · refine C_aload_n (D := mdX5_lacksParts) (x := kB C + l0) dX5_lacksParts_7 rfl 0 rfl ?_
    refine C_getR (D := mdX5_lacksParts) (p := l0) f_X5_18 rfl dX5_lacksParts_8 rfl (fun draft2 => ?_)
    refine C_callV (D := mdX5_lacksParts) (p := draft2) (st := []) [] v_X5_70 (i_X1_partsOfLast C draft2) dX5_lacksParts_11 rfl rfl rfl (Nat.le_of_ble_eq_true rfl) (by decide) (by decide) (fun c3 => ?_)
    refine C_if_ne (D := mdX5_lacksParts) (tgt := 21) dX5_lacksParts_14 (by decide) rfl ?_ ?_
    · refine C_iconst (D := mdX5_lacksParts) (v := 0) dX5_lacksParts_21 rfl (by decide) ?_
      exact C_zret rfl dX5_lacksParts_22
    · refine C_iconst (D := mdX5_lacksParts) (v := 1) dX5_lacksParts_17 rfl (by decide) ?_
      refine C_goto (D := mdX5_lacksParts) (pc' := 22) dX5_lacksParts_18 (by decide) ?_
      exact C_zret rfl dX5_lacksParts_22

-- StandingQueries$Text.mayHavePart()Z
theorem dX5_mayHavePart_0 : decode cX5_mayHavePart 0 = .ok (.aload_n 0, 1) := by decide +kernel
theorem dX5_mayHavePart_1 : decode cX5_mayHavePart 1 = .ok (.invokevirtual 67, 3) := by decide +kernel
theorem dX5_mayHavePart_4 : decode cX5_mayHavePart 4 = .ok (.ifCond .eq 18, 3) := by decide +kernel
theorem dX5_mayHavePart_7 : decode cX5_mayHavePart 7 = .ok (.aload_n 0, 1) := by decide +kernel
theorem dX5_mayHavePart_8 : decode cX5_mayHavePart 8 = .ok (.getfield 18, 3) := by decide +kernel
theorem dX5_mayHavePart_11 : decode cX5_mayHavePart 11 = .ok (.invokevirtual 70, 3) := by decide +kernel
theorem dX5_mayHavePart_14 : decode cX5_mayHavePart 14 = .ok (.iconst 4, 1) := by decide +kernel
theorem dX5_mayHavePart_15 : decode cX5_mayHavePart 15 = .ok (.if_icmp .ge 7, 3) := by decide +kernel
theorem dX5_mayHavePart_18 : decode cX5_mayHavePart 18 = .ok (.iconst 1, 1) := by decide +kernel
theorem dX5_mayHavePart_19 : decode cX5_mayHavePart 19 = .ok (.goto 4, 3) := by decide +kernel
theorem dX5_mayHavePart_22 : decode cX5_mayHavePart 22 = .ok (.iconst 0, 1) := by decide +kernel
theorem dX5_mayHavePart_23 : decode cX5_mayHavePart 23 = .ok (.ireturn, 1) := by decide +kernel
abbrev mdX5_mayHavePart : MD := (cX5_mayHavePart, RX5, 1, (some .boolean), yX5_mayHavePart.name, 1, 20, eT)
set_option maxHeartbeats 2000000 in
set_option maxRecDepth 20000 in
theorem i_X5_mayHavePart (C : KX) (l0 : Nat) : Imp C yX5_mayHavePart cX5_mayHavePart 1 (some .boolean) 1 20 rvI [.ref (kB C + l0)] (m_X5_mayHavePart l0) := by
  refine Imp.of (by decide) (Nat.le_of_ble_eq_true rfl) [(0, .ref (kB C + l0))] rfl ?_
  show Cmp C mdX5_mayHavePart (QM rvI) 0 [(0, .ref (kB C + l0))] [] (m_X5_mayHavePart l0)
  unfold m_X5_mayHavePart
  refine C_aload_n (D := mdX5_mayHavePart) (x := kB C + l0) dX5_mayHavePart_0 rfl 0 rfl ?_
  refine C_callV (D := mdX5_mayHavePart) (p := l0) (st := []) [] v_X5_67 (i_X5_hasOpenQuery C l0) dX5_mayHavePart_1 rfl rfl rfl (Nat.le_of_ble_eq_true rfl) (by decide) (by decide) (fun c1 => ?_)
  refine C_if_eq (D := mdX5_mayHavePart) (tgt := 22) dX5_mayHavePart_4 (by decide) rfl ?_ ?_
  · refine C_iconst (D := mdX5_mayHavePart) (v := 0) dX5_mayHavePart_22 rfl (by decide) ?_
    exact C_zret rfl dX5_mayHavePart_23
  · refine C_aload_n (D := mdX5_mayHavePart) (x := kB C + l0) dX5_mayHavePart_7 rfl 0 rfl ?_
    refine C_getR (D := mdX5_mayHavePart) (p := l0) f_X5_18 rfl dX5_mayHavePart_8 rfl (fun draft2 => ?_)
    refine C_callV (D := mdX5_mayHavePart) (p := draft2) (st := []) [] v_X5_70 (i_X1_partsOfLast C draft2) dX5_mayHavePart_11 rfl rfl rfl (Nat.le_of_ble_eq_true rfl) (by decide) (by decide) (fun c3 => ?_)
    refine C_iconst (D := mdX5_mayHavePart) (v := 4) dX5_mayHavePart_14 rfl (by decide) ?_
    refine C_icmp_ge (D := mdX5_mayHavePart) (tgt := 22) dX5_mayHavePart_15 (by decide) rfl ?_ ?_
    · refine C_iconst (D := mdX5_mayHavePart) (v := 0) dX5_mayHavePart_22 rfl (by decide) ?_
      exact C_zret rfl dX5_mayHavePart_23
    · refine C_iconst (D := mdX5_mayHavePart) (v := 1) dX5_mayHavePart_18 rfl (by decide) ?_
      refine C_goto (D := mdX5_mayHavePart) (pc' := 23) dX5_mayHavePart_19 (by decide) ?_
      exact C_zret rfl dX5_mayHavePart_23

-- StandingQueries.isLetter(I)Z
theorem dX7_isLetter_0 : decode cX7_isLetter 0 = .ok (.iload_n 0, 1) := by decide +kernel
theorem dX7_isLetter_1 : decode cX7_isLetter 1 = .ok (.bipush 97, 2) := by decide +kernel
theorem dX7_isLetter_3 : decode cX7_isLetter 3 = .ok (.if_icmp .lt 13, 3) := by decide +kernel
theorem dX7_isLetter_6 : decode cX7_isLetter 6 = .ok (.iload_n 0, 1) := by decide +kernel
theorem dX7_isLetter_7 : decode cX7_isLetter 7 = .ok (.bipush 105, 2) := by decide +kernel
theorem dX7_isLetter_9 : decode cX7_isLetter 9 = .ok (.if_icmp .ge 7, 3) := by decide +kernel
theorem dX7_isLetter_12 : decode cX7_isLetter 12 = .ok (.iconst 1, 1) := by decide +kernel
theorem dX7_isLetter_13 : decode cX7_isLetter 13 = .ok (.goto 4, 3) := by decide +kernel
theorem dX7_isLetter_16 : decode cX7_isLetter 16 = .ok (.iconst 0, 1) := by decide +kernel
theorem dX7_isLetter_17 : decode cX7_isLetter 17 = .ok (.ireturn, 1) := by decide +kernel
abbrev mdX7_isLetter : MD := (cX7_isLetter, RX7, 1, (some .boolean), yX7_isLetter.name, 0, 0, eT)
set_option maxHeartbeats 2000000 in
set_option maxRecDepth 20000 in
theorem i_X7_isLetter (C : KX) (l0 : Int32) : Imp C yX7_isLetter cX7_isLetter 1 (some .boolean) 0 0 rvI [.int l0] (m_X7_isLetter l0) := by
  refine Imp.of (by decide) (Nat.le_of_ble_eq_true rfl) [(0, .int l0)] rfl ?_
  show Cmp C mdX7_isLetter (QM rvI) 0 [(0, .int l0)] [] (m_X7_isLetter l0)
  unfold m_X7_isLetter
  refine C_iload_n (D := mdX7_isLetter) (x := l0) dX7_isLetter_0 rfl 0 rfl ?_
  refine C_bipush (D := mdX7_isLetter) (v := 97) dX7_isLetter_1 rfl (by decide) ?_
  refine C_icmp_lt (D := mdX7_isLetter) (tgt := 16) dX7_isLetter_3 (by decide) rfl ?_ ?_
  · refine C_iconst (D := mdX7_isLetter) (v := 0) dX7_isLetter_16 rfl (by decide) ?_
    exact C_zret rfl dX7_isLetter_17
  · refine C_iload_n (D := mdX7_isLetter) (x := l0) dX7_isLetter_6 rfl 0 rfl ?_
    refine C_bipush (D := mdX7_isLetter) (v := 105) dX7_isLetter_7 rfl (by decide) ?_
    refine C_icmp_ge (D := mdX7_isLetter) (tgt := 16) dX7_isLetter_9 (by decide) rfl ?_ ?_
    · refine C_iconst (D := mdX7_isLetter) (v := 0) dX7_isLetter_16 rfl (by decide) ?_
      exact C_zret rfl dX7_isLetter_17
    · refine C_iconst (D := mdX7_isLetter) (v := 1) dX7_isLetter_12 rfl (by decide) ?_
      refine C_goto (D := mdX7_isLetter) (pc' := 17) dX7_isLetter_13 (by decide) ?_
      exact C_zret rfl dX7_isLetter_17

-- StandingQueries$Packed.shiftOf(I)I
theorem dX3_shiftOf_0 : decode cX3_shiftOf 0 = .ok (.iconst 4, 1) := by decide +kernel
theorem dX3_shiftOf_1 : decode cX3_shiftOf 1 = .ok (.iconst 5, 1) := by decide +kernel
theorem dX3_shiftOf_2 : decode cX3_shiftOf 2 = .ok (.iload_n 0, 1) := by decide +kernel
theorem dX3_shiftOf_3 : decode cX3_shiftOf 3 = .ok (.isub, 1) := by decide +kernel
theorem dX3_shiftOf_4 : decode cX3_shiftOf 4 = .ok (.imul, 1) := by decide +kernel
theorem dX3_shiftOf_5 : decode cX3_shiftOf 5 = .ok (.ireturn, 1) := by decide +kernel
abbrev mdX3_shiftOf : MD := (cX3_shiftOf, RX3, 1, (some .int), yX3_shiftOf.name, 0, 0, eT)
set_option maxHeartbeats 2000000 in
set_option maxRecDepth 20000 in
theorem i_X3_shiftOf (C : KX) (l0 : Int32) : Imp C yX3_shiftOf cX3_shiftOf 1 (some .int) 0 0 rvI [.int l0] (m_X3_shiftOf l0) := by
  refine Imp.of (by decide) (Nat.le_of_ble_eq_true rfl) [(0, .int l0)] rfl ?_
  show Cmp C mdX3_shiftOf (QM rvI) 0 [(0, .int l0)] [] (m_X3_shiftOf l0)
  unfold m_X3_shiftOf
  refine C_iconst (D := mdX3_shiftOf) (v := 4) dX3_shiftOf_0 rfl (by decide) ?_
  refine C_iconst (D := mdX3_shiftOf) (v := 5) dX3_shiftOf_1 rfl (by decide) ?_
  refine C_iload_n (D := mdX3_shiftOf) (x := l0) dX3_shiftOf_2 rfl 0 rfl ?_
  refine C_isub (D := mdX3_shiftOf) dX3_shiftOf_3 rfl ?_
  refine C_imul (D := mdX3_shiftOf) dX3_shiftOf_4 rfl ?_
  exact C_iret rfl dX3_shiftOf_5

-- StandingQueries$Packed.withLetter(III)I
theorem dX3_withLetter_0 : decode cX3_withLetter 0 = .ok (.iload_n 0, 1) := by decide +kernel
theorem dX3_withLetter_1 : decode cX3_withLetter 1 = .ok (.iload_n 2, 1) := by decide +kernel
theorem dX3_withLetter_2 : decode cX3_withLetter 2 = .ok (.iconst 1, 1) := by decide +kernel
theorem dX3_withLetter_3 : decode cX3_withLetter 3 = .ok (.iadd, 1) := by decide +kernel
theorem dX3_withLetter_4 : decode cX3_withLetter 4 = .ok (.iload_n 1, 1) := by decide +kernel
theorem dX3_withLetter_5 : decode cX3_withLetter 5 = .ok (.invokestatic 11, 3) := by decide +kernel
theorem dX3_withLetter_8 : decode cX3_withLetter 8 = .ok (.ishl, 1) := by decide +kernel
theorem dX3_withLetter_9 : decode cX3_withLetter 9 = .ok (.ior, 1) := by decide +kernel
theorem dX3_withLetter_10 : decode cX3_withLetter 10 = .ok (.ireturn, 1) := by decide +kernel
abbrev mdX3_withLetter : MD := (cX3_withLetter, RX3, 3, (some .int), yX3_withLetter.name, 1, 20, eT)
set_option maxHeartbeats 2000000 in
set_option maxRecDepth 20000 in
theorem i_X3_withLetter (C : KX) (l0 : Int32) (l1 : Int32) (l2 : Int32) : Imp C yX3_withLetter cX3_withLetter 3 (some .int) 1 20 rvI [.int l0, .int l1, .int l2] (m_X3_withLetter l0 l1 l2) := by
  refine Imp.of (by decide) (Nat.le_of_ble_eq_true rfl) [(0, .int l0), (1, .int l1), (2, .int l2)] rfl ?_
  show Cmp C mdX3_withLetter (QM rvI) 0 [(0, .int l0), (1, .int l1), (2, .int l2)] [] (m_X3_withLetter l0 l1 l2)
  unfold m_X3_withLetter
  refine C_iload_n (D := mdX3_withLetter) (x := l0) dX3_withLetter_0 rfl 0 rfl ?_
  refine C_iload_n (D := mdX3_withLetter) (x := l2) dX3_withLetter_1 rfl 2 rfl ?_
  refine C_iconst (D := mdX3_withLetter) (v := 1) dX3_withLetter_2 rfl (by decide) ?_
  refine C_iadd (D := mdX3_withLetter) dX3_withLetter_3 rfl ?_
  refine C_iload_n (D := mdX3_withLetter) (x := l1) dX3_withLetter_4 rfl 1 rfl ?_
  refine C_callS (D := mdX3_withLetter) (st := [.int (l2 + 1), .int l0]) [.int l1] s_X3_11 (i_X3_shiftOf C l1) dX3_withLetter_5 rfl rfl rfl (Nat.le_of_ble_eq_true rfl) (by decide) (by decide) (fun c1 => ?_)
  refine C_ishl (D := mdX3_withLetter) dX3_withLetter_8 rfl ?_
  refine C_ior (D := mdX3_withLetter) dX3_withLetter_9 rfl ?_
  exact C_iret rfl dX3_withLetter_10

-- StandingQueries$Text.readWord()I
theorem dX5_readWord_0 : decode cX5_readWord 0 = .ok (.aload_n 0, 1) := by decide +kernel
theorem dX5_readWord_1 : decode cX5_readWord 1 = .ok (.getfield 54, 3) := by decide +kernel
theorem dX5_readWord_4 : decode cX5_readWord 4 = .ok (.iconst 1, 1) := by decide +kernel
theorem dX5_readWord_5 : decode cX5_readWord 5 = .ok (.if_icmp .ne 17, 3) := by decide +kernel
theorem dX5_readWord_8 : decode cX5_readWord 8 = .ok (.aload_n 0, 1) := by decide +kernel
theorem dX5_readWord_9 : decode cX5_readWord 9 = .ok (.getfield 48, 3) := by decide +kernel
theorem dX5_readWord_12 : decode cX5_readWord 12 = .ok (.aload_n 0, 1) := by decide +kernel
theorem dX5_readWord_13 : decode cX5_readWord 13 = .ok (.getfield 61, 3) := by decide +kernel
theorem dX5_readWord_16 : decode cX5_readWord 16 = .ok (.isub, 1) := by decide +kernel
theorem dX5_readWord_17 : decode cX5_readWord 17 = .ok (.bipush 6, 2) := by decide +kernel
theorem dX5_readWord_19 : decode cX5_readWord 19 = .ok (.if_icmp .le 5, 3) := by decide +kernel
theorem dX5_readWord_22 : decode cX5_readWord 22 = .ok (.iconst 0, 1) := by decide +kernel
theorem dX5_readWord_23 : decode cX5_readWord 23 = .ok (.ireturn, 1) := by decide +kernel
theorem dX5_readWord_24 : decode cX5_readWord 24 = .ok (.iconst 0, 1) := by decide +kernel
theorem dX5_readWord_25 : decode cX5_readWord 25 = .ok (.istore_n 1, 1) := by decide +kernel
theorem dX5_readWord_26 : decode cX5_readWord 26 = .ok (.aload_n 0, 1) := by decide +kernel
theorem dX5_readWord_27 : decode cX5_readWord 27 = .ok (.getfield 61, 3) := by decide +kernel
theorem dX5_readWord_30 : decode cX5_readWord 30 = .ok (.istore_n 2, 1) := by decide +kernel
theorem dX5_readWord_31 : decode cX5_readWord 31 = .ok (.iload_n 2, 1) := by decide +kernel
theorem dX5_readWord_32 : decode cX5_readWord 32 = .ok (.aload_n 0, 1) := by decide +kernel
theorem dX5_readWord_33 : decode cX5_readWord 33 = .ok (.getfield 48, 3) := by decide +kernel
theorem dX5_readWord_36 : decode cX5_readWord 36 = .ok (.if_icmp .ge 43, 3) := by decide +kernel
theorem dX5_readWord_39 : decode cX5_readWord 39 = .ok (.aload_n 0, 1) := by decide +kernel
theorem dX5_readWord_40 : decode cX5_readWord 40 = .ok (.getfield 9, 3) := by decide +kernel
theorem dX5_readWord_43 : decode cX5_readWord 43 = .ok (.iload_n 2, 1) := by decide +kernel
theorem dX5_readWord_44 : decode cX5_readWord 44 = .ok (.iaload, 1) := by decide +kernel
theorem dX5_readWord_45 : decode cX5_readWord 45 = .ok (.invokestatic 105, 3) := by decide +kernel
theorem dX5_readWord_48 : decode cX5_readWord 48 = .ok (.ifCond .ne 5, 3) := by decide +kernel
theorem dX5_readWord_51 : decode cX5_readWord 51 = .ok (.iconst 0, 1) := by decide +kernel
theorem dX5_readWord_52 : decode cX5_readWord 52 = .ok (.ireturn, 1) := by decide +kernel
theorem dX5_readWord_53 : decode cX5_readWord 53 = .ok (.iload_n 1, 1) := by decide +kernel
theorem dX5_readWord_54 : decode cX5_readWord 54 = .ok (.iload_n 2, 1) := by decide +kernel
theorem dX5_readWord_55 : decode cX5_readWord 55 = .ok (.aload_n 0, 1) := by decide +kernel
theorem dX5_readWord_56 : decode cX5_readWord 56 = .ok (.getfield 61, 3) := by decide +kernel
theorem dX5_readWord_59 : decode cX5_readWord 59 = .ok (.isub, 1) := by decide +kernel
theorem dX5_readWord_60 : decode cX5_readWord 60 = .ok (.aload_n 0, 1) := by decide +kernel
theorem dX5_readWord_61 : decode cX5_readWord 61 = .ok (.getfield 9, 3) := by decide +kernel
theorem dX5_readWord_64 : decode cX5_readWord 64 = .ok (.iload_n 2, 1) := by decide +kernel
theorem dX5_readWord_65 : decode cX5_readWord 65 = .ok (.iaload, 1) := by decide +kernel
theorem dX5_readWord_66 : decode cX5_readWord 66 = .ok (.bipush 97, 2) := by decide +kernel
theorem dX5_readWord_68 : decode cX5_readWord 68 = .ok (.isub, 1) := by decide +kernel
theorem dX5_readWord_69 : decode cX5_readWord 69 = .ok (.invokestatic 108, 3) := by decide +kernel
theorem dX5_readWord_72 : decode cX5_readWord 72 = .ok (.istore_n 1, 1) := by decide +kernel
theorem dX5_readWord_73 : decode cX5_readWord 73 = .ok (.iinc 2 1, 3) := by decide +kernel
theorem dX5_readWord_76 : decode cX5_readWord 76 = .ok (.goto (-45), 3) := by decide +kernel
theorem dX5_readWord_79 : decode cX5_readWord 79 = .ok (.aload_n 0, 1) := by decide +kernel
theorem dX5_readWord_80 : decode cX5_readWord 80 = .ok (.getfield 27, 3) := by decide +kernel
theorem dX5_readWord_83 : decode cX5_readWord 83 = .ok (.iload_n 1, 1) := by decide +kernel
theorem dX5_readWord_84 : decode cX5_readWord 84 = .ok (.invokevirtual 112, 3) := by decide +kernel
theorem dX5_readWord_87 : decode cX5_readWord 87 = .ok (.ifCond .ne 5, 3) := by decide +kernel
theorem dX5_readWord_90 : decode cX5_readWord 90 = .ok (.iconst 0, 1) := by decide +kernel
theorem dX5_readWord_91 : decode cX5_readWord 91 = .ok (.ireturn, 1) := by decide +kernel
theorem dX5_readWord_92 : decode cX5_readWord 92 = .ok (.aload_n 0, 1) := by decide +kernel
theorem dX5_readWord_93 : decode cX5_readWord 93 = .ok (.invokevirtual 51, 3) := by decide +kernel
theorem dX5_readWord_96 : decode cX5_readWord 96 = .ok (.iload_n 1, 1) := by decide +kernel
theorem dX5_readWord_97 : decode cX5_readWord 97 = .ok (.ireturn, 1) := by decide +kernel
abbrev mdX5_readWord : MD := (cX5_readWord, RX5, 3, (some .int), yX5_readWord.name, 2, 44, eT)
set_option maxHeartbeats 2000000 in
set_option maxRecDepth 20000 in
theorem p_X5_readWord_B31 (C : KX) (l0 : Nat)  (k31 : Int32 × Int32 → Mo Int32) (hk31 : ∀ s, Cmp C mdX5_readWord (QM rvI) 31 [(0, .ref (kB C + l0)), (1, .int s.1), (2, .int s.2)] [] (k31 s)) (l1 : Int32) (l2 : Int32) : Cmp C mdX5_readWord (QM rvI) 31 [(0, .ref (kB C + l0)), (1, .int l1), (2, .int l2)] [] (m_X5_readWord_B31 l0 k31 l1 l2) := by
  unfold m_X5_readWord_B31
  refine C_iload_n (D := mdX5_readWord) (x := l2) dX5_readWord_31 rfl 2 rfl ?_
  refine C_aload_n (D := mdX5_readWord) (x := kB C + l0) dX5_readWord_32 rfl 0 rfl ?_
  refine C_getI (D := mdX5_readWord) (p := l0) f_X5_48 rfl dX5_readWord_33 rfl (fun end5 => ?_)
  refine C_icmp_ge (D := mdX5_readWord) (tgt := 79) dX5_readWord_36 (by decide) rfl ?_ ?_
  · refine C_aload_n (D := mdX5_readWord) (x := kB C + l0) dX5_readWord_79 rfl 0 rfl ?_
    refine C_getR (D := mdX5_readWord) (p := l0) f_X5_27 rfl dX5_readWord_80 rfl (fun words6 => ?_)
    refine C_iload_n (D := mdX5_readWord) (x := l1) dX5_readWord_83 rfl 1 rfl ?_
    refine C_callV (D := mdX5_readWord) (p := words6) (st := []) [.int l1] v_X5_112 (i_X6_put C words6 l1) dX5_readWord_84 rfl rfl rfl (Nat.le_of_ble_eq_true rfl) (by decide) (by decide) (fun c7 => ?_)
    refine C_if_ne (D := mdX5_readWord) (tgt := 92) dX5_readWord_87 (by decide) rfl ?_ ?_
    · refine C_aload_n (D := mdX5_readWord) (x := kB C + l0) dX5_readWord_92 rfl 0 rfl ?_
      refine C_callV (D := mdX5_readWord) (p := l0) (st := []) [] v_X5_51 (i_X5_advance C l0) dX5_readWord_93 rfl rfl rfl (Nat.le_of_ble_eq_true rfl) (by decide) (by decide) (fun _ => ?_)
      refine C_iload_n (D := mdX5_readWord) (x := l1) dX5_readWord_96 rfl 1 rfl ?_
      exact C_iret rfl dX5_readWord_97
    · refine C_iconst (D := mdX5_readWord) (v := 0) dX5_readWord_90 rfl (by decide) ?_
      exact C_iret rfl dX5_readWord_91
  · refine C_aload_n (D := mdX5_readWord) (x := kB C + l0) dX5_readWord_39 rfl 0 rfl ?_
    refine C_getR (D := mdX5_readWord) (p := l0) f_X5_9 rfl dX5_readWord_40 rfl (fun bytes8 => ?_)
    refine C_iload_n (D := mdX5_readWord) (x := l2) dX5_readWord_43 rfl 2 rfl ?_
    refine C_aI (D := mdX5_readWord) (p := bytes8) dX5_readWord_44 rfl (fun x9 => ?_)
    refine C_callSN (D := mdX5_readWord) (st := []) [.int x9] s_X5_105 (i_X7_isLetter C x9) dX5_readWord_45 rfl rfl rfl (Nat.le_of_ble_eq_true rfl) (by decide) (by decide) (fun c10 => ?_)
    refine C_if_ne (D := mdX5_readWord) (tgt := 53) dX5_readWord_48 (by decide) rfl ?_ ?_
    · refine C_iload_n (D := mdX5_readWord) (x := l1) dX5_readWord_53 rfl 1 rfl ?_
      refine C_iload_n (D := mdX5_readWord) (x := l2) dX5_readWord_54 rfl 2 rfl ?_
      refine C_aload_n (D := mdX5_readWord) (x := kB C + l0) dX5_readWord_55 rfl 0 rfl ?_
      refine C_getI (D := mdX5_readWord) (p := l0) f_X5_61 rfl dX5_readWord_56 rfl (fun begin11 => ?_)
      refine C_isub (D := mdX5_readWord) dX5_readWord_59 rfl ?_
      refine C_aload_n (D := mdX5_readWord) (x := kB C + l0) dX5_readWord_60 rfl 0 rfl ?_
      refine C_getR (D := mdX5_readWord) (p := l0) f_X5_9 rfl dX5_readWord_61 rfl (fun bytes12 => ?_)
      refine C_iload_n (D := mdX5_readWord) (x := l2) dX5_readWord_64 rfl 2 rfl ?_
      refine C_aI (D := mdX5_readWord) (p := bytes12) dX5_readWord_65 rfl (fun x13 => ?_)
      refine C_bipush (D := mdX5_readWord) (v := 97) dX5_readWord_66 rfl (by decide) ?_
      refine C_isub (D := mdX5_readWord) dX5_readWord_68 rfl ?_
      refine C_callS (D := mdX5_readWord) (st := []) [.int l1, .int (l2 - begin11), .int (x13 - 97)] s_X5_108 (i_X3_withLetter C l1 ((l2 - begin11)) ((x13 - 97))) dX5_readWord_69 rfl rfl rfl (Nat.le_of_ble_eq_true rfl) (by decide) (by decide) (fun c14 => ?_)
      refine C_istore_n (D := mdX5_readWord) (ls' := [(1, .int c14), (0, .ref (kB C + l0)), (2, .int l2)]) dX5_readWord_72 rfl rfl (by decide) rfl ?_
      refine C_iinc (D := mdX5_readWord) (j := 2) (v := (l2 + 1)) (ls' := [(2, .int (l2 + 1)), (1, .int c14), (0, .ref (kB C + l0))]) dX5_readWord_73 rfl rfl rfl (by decide) rfl ?_
      refine C_goto (D := mdX5_readWord) (pc' := 31) dX5_readWord_76 (by decide) ?_
      exact C_sub [2, 1, 0] rfl (hk31 (c14, (l2 + 1)))
    · refine C_iconst (D := mdX5_readWord) (v := 0) dX5_readWord_51 rfl (by decide) ?_
      exact C_iret rfl dX5_readWord_52
set_option maxHeartbeats 2000000 in
set_option maxRecDepth 20000 in
theorem i_X5_readWord (C : KX) (l0 : Nat) : Imp C yX5_readWord cX5_readWord 3 (some .int) 2 44 rvI [.ref (kB C + l0)] (m_X5_readWord l0) := by
  refine Imp.of (by decide) (Nat.le_of_ble_eq_true rfl) [(0, .ref (kB C + l0))] rfl ?_
  show Cmp C mdX5_readWord (QM rvI) 0 [(0, .ref (kB C + l0))] [] (m_X5_readWord l0)
  unfold m_X5_readWord
  refine C_aload_n (D := mdX5_readWord) (x := kB C + l0) dX5_readWord_0 rfl 0 rfl ?_
  refine C_getI (D := mdX5_readWord) (p := l0) f_X5_54 rfl dX5_readWord_1 rfl (fun kind1 => ?_)
  refine C_iconst (D := mdX5_readWord) (v := 1) dX5_readWord_4 rfl (by decide) ?_
  refine C_icmp_ne (D := mdX5_readWord) (tgt := 22) dX5_readWord_5 (by decide) rfl ?_ ?_
  · refine C_iconst (D := mdX5_readWord) (v := 0) dX5_readWord_22 rfl (by decide) ?_
    exact C_iret rfl dX5_readWord_23
  · refine C_aload_n (D := mdX5_readWord) (x := kB C + l0) dX5_readWord_8 rfl 0 rfl ?_
    refine C_getI (D := mdX5_readWord) (p := l0) f_X5_48 rfl dX5_readWord_9 rfl (fun end2 => ?_)
    refine C_aload_n (D := mdX5_readWord) (x := kB C + l0) dX5_readWord_12 rfl 0 rfl ?_
    refine C_getI (D := mdX5_readWord) (p := l0) f_X5_61 rfl dX5_readWord_13 rfl (fun begin3 => ?_)
    refine C_isub (D := mdX5_readWord) dX5_readWord_16 rfl ?_
    refine C_bipush (D := mdX5_readWord) (v := 6) dX5_readWord_17 rfl (by decide) ?_
    refine C_icmp_le (D := mdX5_readWord) (tgt := 24) dX5_readWord_19 (by decide) rfl ?_ ?_
    · refine C_iconst (D := mdX5_readWord) (v := 0) dX5_readWord_24 rfl (by decide) ?_
      refine C_istore_n (D := mdX5_readWord) (ls' := [(1, .int 0), (0, .ref (kB C + l0))]) dX5_readWord_25 rfl rfl (by decide) rfl ?_
      refine C_aload_n (D := mdX5_readWord) (x := kB C + l0) dX5_readWord_26 rfl 1 rfl ?_
      refine C_getI (D := mdX5_readWord) (p := l0) f_X5_61 rfl dX5_readWord_27 rfl (fun begin4 => ?_)
      refine C_istore_n (D := mdX5_readWord) (ls' := [(2, .int begin4), (1, .int 0), (0, .ref (kB C + l0))]) dX5_readWord_30 rfl rfl (by decide) rfl ?_
      exact C_sub [2, 1, 0] rfl (C_loop (fun s => [(0, .ref (kB C + l0)), (1, .int s.1), (2, .int s.2)]) (fun k hk s => p_X5_readWord_B31 C l0  k hk s.1 s.2) FU (0, begin4))
    · refine C_iconst (D := mdX5_readWord) (v := 0) dX5_readWord_22 rfl (by decide) ?_
      exact C_iret rfl dX5_readWord_23

-- StandingQueries$Held.addPart(IIII)V
theorem dX1_addPart_0 : decode cX1_addPart 0 = .ok (.aload_n 0, 1) := by decide +kernel
theorem dX1_addPart_1 : decode cX1_addPart 1 = .ok (.getfield 30, 3) := by decide +kernel
theorem dX1_addPart_4 : decode cX1_addPart 4 = .ok (.ifCond .le 11, 3) := by decide +kernel
theorem dX1_addPart_7 : decode cX1_addPart 7 = .ok (.aload_n 0, 1) := by decide +kernel
theorem dX1_addPart_8 : decode cX1_addPart 8 = .ok (.invokevirtual 43, 3) := by decide +kernel
theorem dX1_addPart_11 : decode cX1_addPart 11 = .ok (.iconst 4, 1) := by decide +kernel
theorem dX1_addPart_12 : decode cX1_addPart 12 = .ok (.if_icmp .lt 4, 3) := by decide +kernel
theorem dX1_addPart_15 : decode cX1_addPart 15 = .ok (.return_, 1) := by decide +kernel
theorem dX1_addPart_16 : decode cX1_addPart 16 = .ok (.aload_n 0, 1) := by decide +kernel
theorem dX1_addPart_17 : decode cX1_addPart 17 = .ok (.aload_n 0, 1) := by decide +kernel
theorem dX1_addPart_18 : decode cX1_addPart 18 = .ok (.getfield 30, 3) := by decide +kernel
theorem dX1_addPart_21 : decode cX1_addPart 21 = .ok (.iconst 1, 1) := by decide +kernel
theorem dX1_addPart_22 : decode cX1_addPart 22 = .ok (.isub, 1) := by decide +kernel
theorem dX1_addPart_23 : decode cX1_addPart 23 = .ok (.aload_n 0, 1) := by decide +kernel
theorem dX1_addPart_24 : decode cX1_addPart 24 = .ok (.invokevirtual 43, 3) := by decide +kernel
theorem dX1_addPart_27 : decode cX1_addPart 27 = .ok (.invokevirtual 47, 3) := by decide +kernel
theorem dX1_addPart_30 : decode cX1_addPart 30 = .ok (.istore 5, 2) := by decide +kernel
theorem dX1_addPart_32 : decode cX1_addPart 32 = .ok (.aload_n 0, 1) := by decide +kernel
theorem dX1_addPart_33 : decode cX1_addPart 33 = .ok (.getfield 15, 3) := by decide +kernel
theorem dX1_addPart_36 : decode cX1_addPart 36 = .ok (.iload 5, 2) := by decide +kernel
theorem dX1_addPart_38 : decode cX1_addPart 38 = .ok (.iload_n 1, 1) := by decide +kernel
theorem dX1_addPart_39 : decode cX1_addPart 39 = .ok (.iastore, 1) := by decide +kernel
theorem dX1_addPart_40 : decode cX1_addPart 40 = .ok (.aload_n 0, 1) := by decide +kernel
theorem dX1_addPart_41 : decode cX1_addPart 41 = .ok (.getfield 18, 3) := by decide +kernel
theorem dX1_addPart_44 : decode cX1_addPart 44 = .ok (.iload 5, 2) := by decide +kernel
theorem dX1_addPart_46 : decode cX1_addPart 46 = .ok (.iload_n 2, 1) := by decide +kernel
theorem dX1_addPart_47 : decode cX1_addPart 47 = .ok (.iastore, 1) := by decide +kernel
theorem dX1_addPart_48 : decode cX1_addPart 48 = .ok (.aload_n 0, 1) := by decide +kernel
theorem dX1_addPart_49 : decode cX1_addPart 49 = .ok (.getfield 21, 3) := by decide +kernel
theorem dX1_addPart_52 : decode cX1_addPart 52 = .ok (.iload 5, 2) := by decide +kernel
theorem dX1_addPart_54 : decode cX1_addPart 54 = .ok (.iload_n 3, 1) := by decide +kernel
theorem dX1_addPart_55 : decode cX1_addPart 55 = .ok (.iastore, 1) := by decide +kernel
theorem dX1_addPart_56 : decode cX1_addPart 56 = .ok (.aload_n 0, 1) := by decide +kernel
theorem dX1_addPart_57 : decode cX1_addPart 57 = .ok (.getfield 24, 3) := by decide +kernel
theorem dX1_addPart_60 : decode cX1_addPart 60 = .ok (.iload 5, 2) := by decide +kernel
theorem dX1_addPart_62 : decode cX1_addPart 62 = .ok (.iload 4, 2) := by decide +kernel
theorem dX1_addPart_64 : decode cX1_addPart 64 = .ok (.iastore, 1) := by decide +kernel
theorem dX1_addPart_65 : decode cX1_addPart 65 = .ok (.aload_n 0, 1) := by decide +kernel
theorem dX1_addPart_66 : decode cX1_addPart 66 = .ok (.getfield 9, 3) := by decide +kernel
theorem dX1_addPart_69 : decode cX1_addPart 69 = .ok (.aload_n 0, 1) := by decide +kernel
theorem dX1_addPart_70 : decode cX1_addPart 70 = .ok (.getfield 30, 3) := by decide +kernel
theorem dX1_addPart_73 : decode cX1_addPart 73 = .ok (.iconst 1, 1) := by decide +kernel
theorem dX1_addPart_74 : decode cX1_addPart 74 = .ok (.isub, 1) := by decide +kernel
theorem dX1_addPart_75 : decode cX1_addPart 75 = .ok (.dup2, 1) := by decide +kernel
theorem dX1_addPart_76 : decode cX1_addPart 76 = .ok (.iaload, 1) := by decide +kernel
theorem dX1_addPart_77 : decode cX1_addPart 77 = .ok (.iconst 1, 1) := by decide +kernel
theorem dX1_addPart_78 : decode cX1_addPart 78 = .ok (.iadd, 1) := by decide +kernel
theorem dX1_addPart_79 : decode cX1_addPart 79 = .ok (.iastore, 1) := by decide +kernel
theorem dX1_addPart_80 : decode cX1_addPart 80 = .ok (.return_, 1) := by decide +kernel
abbrev mdX1_addPart : MD := (cX1_addPart, RX1, 6, none, yX1_addPart.name, 1, 22, eT)
set_option maxHeartbeats 2000000 in
set_option maxRecDepth 20000 in
theorem i_X1_addPart (C : KX) (l0 : Nat) (l1 : Int32) (l2 : Int32) (l3 : Int32) (l4 : Int32) : Imp C yX1_addPart cX1_addPart 6 none 1 22 rvV [.ref (kB C + l0), .int l1, .int l2, .int l3, .int l4] (m_X1_addPart l0 l1 l2 l3 l4) := by
  refine Imp.of (by decide) (Nat.le_of_ble_eq_true rfl) [(0, .ref (kB C + l0)), (1, .int l1), (2, .int l2), (3, .int l3), (4, .int l4)] rfl ?_
  show Cmp C mdX1_addPart (QM rvV) 0 [(0, .ref (kB C + l0)), (1, .int l1), (2, .int l2), (3, .int l3), (4, .int l4)] [] (m_X1_addPart l0 l1 l2 l3 l4)
  unfold m_X1_addPart
  refine C_aload_n (D := mdX1_addPart) (x := kB C + l0) dX1_addPart_0 rfl 0 rfl ?_
  refine C_getI (D := mdX1_addPart) (p := l0) f_X1_30 rfl dX1_addPart_1 rfl (fun queries1 => ?_)
  refine C_if_le (D := mdX1_addPart) (tgt := 15) dX1_addPart_4 (by decide) rfl ?_ ?_
  · exact C_vret rfl dX1_addPart_15
  · refine C_aload_n (D := mdX1_addPart) (x := kB C + l0) dX1_addPart_7 rfl 0 rfl ?_
    refine C_callV (D := mdX1_addPart) (p := l0) (st := []) [] v_X1_43 (i_X1_partsOfLast C l0) dX1_addPart_8 rfl rfl rfl (Nat.le_of_ble_eq_true rfl) (by decide) (by decide) (fun c2 => ?_)
    refine C_iconst (D := mdX1_addPart) (v := 4) dX1_addPart_11 rfl (by decide) ?_
    refine C_icmp_lt (D := mdX1_addPart) (tgt := 16) dX1_addPart_12 (by decide) rfl ?_ ?_
    · refine C_aload_n (D := mdX1_addPart) (x := kB C + l0) dX1_addPart_16 rfl 0 rfl ?_
      refine C_aload_n (D := mdX1_addPart) (x := kB C + l0) dX1_addPart_17 rfl 0 rfl ?_
      refine C_getI (D := mdX1_addPart) (p := l0) f_X1_30 rfl dX1_addPart_18 rfl (fun queries3 => ?_)
      refine C_iconst (D := mdX1_addPart) (v := 1) dX1_addPart_21 rfl (by decide) ?_
      refine C_isub (D := mdX1_addPart) dX1_addPart_22 rfl ?_
      refine C_aload_n (D := mdX1_addPart) (x := kB C + l0) dX1_addPart_23 rfl 0 rfl ?_
      refine C_callV (D := mdX1_addPart) (p := l0) (st := [.int (queries3 - 1), .ref (kB C + l0)]) [] v_X1_43 (i_X1_partsOfLast C l0) dX1_addPart_24 rfl rfl rfl (Nat.le_of_ble_eq_true rfl) (by decide) (by decide) (fun c4 => ?_)
      refine C_callV (D := mdX1_addPart) (p := l0) (st := []) [.int (queries3 - 1), .int c4] v_X1_47 (i_X1_place C l0 ((queries3 - 1)) c4) dX1_addPart_27 rfl rfl rfl (Nat.le_of_ble_eq_true rfl) (by decide) (by decide) (fun c5 => ?_)
      refine C_istore (D := mdX1_addPart) (ls' := [(5, .int c5), (0, .ref (kB C + l0)), (1, .int l1), (2, .int l2), (3, .int l3), (4, .int l4)]) dX1_addPart_30 rfl (by decide) rfl ?_
      refine C_aload_n (D := mdX1_addPart) (x := kB C + l0) dX1_addPart_32 rfl 1 rfl ?_
      refine C_getR (D := mdX1_addPart) (p := l0) f_X1_15 rfl dX1_addPart_33 rfl (fun sort6 => ?_)
      refine C_iload (D := mdX1_addPart) (x := c5) dX1_addPart_36 rfl 0 rfl ?_
      refine C_iload_n (D := mdX1_addPart) (x := l1) dX1_addPart_38 rfl 2 rfl ?_
      refine C_tI (D := mdX1_addPart) (p := sort6) dX1_addPart_39 rfl ?_
      refine C_aload_n (D := mdX1_addPart) (x := kB C + l0) dX1_addPart_40 rfl 1 rfl ?_
      refine C_getR (D := mdX1_addPart) (p := l0) f_X1_18 rfl dX1_addPart_41 rfl (fun word7 => ?_)
      refine C_iload (D := mdX1_addPart) (x := c5) dX1_addPart_44 rfl 0 rfl ?_
      refine C_iload_n (D := mdX1_addPart) (x := l2) dX1_addPart_46 rfl 3 rfl ?_
      refine C_tI (D := mdX1_addPart) (p := word7) dX1_addPart_47 rfl ?_
      refine C_aload_n (D := mdX1_addPart) (x := kB C + l0) dX1_addPart_48 rfl 1 rfl ?_
      refine C_getR (D := mdX1_addPart) (p := l0) f_X1_21 rfl dX1_addPart_49 rfl (fun earlier8 => ?_)
      refine C_iload (D := mdX1_addPart) (x := c5) dX1_addPart_52 rfl 0 rfl ?_
      refine C_iload_n (D := mdX1_addPart) (x := l3) dX1_addPart_54 rfl 4 rfl ?_
      refine C_tI (D := mdX1_addPart) (p := earlier8) dX1_addPart_55 rfl ?_
      refine C_aload_n (D := mdX1_addPart) (x := kB C + l0) dX1_addPart_56 rfl 1 rfl ?_
      refine C_getR (D := mdX1_addPart) (p := l0) f_X1_24 rfl dX1_addPart_57 rfl (fun reach9 => ?_)
      refine C_iload (D := mdX1_addPart) (x := c5) dX1_addPart_60 rfl 0 rfl ?_
      refine C_iload (D := mdX1_addPart) (x := l4) dX1_addPart_62 rfl 5 rfl ?_
      refine C_tI (D := mdX1_addPart) (p := reach9) dX1_addPart_64 rfl ?_
      refine C_aload_n (D := mdX1_addPart) (x := kB C + l0) dX1_addPart_65 rfl 1 rfl ?_
      refine C_getR (D := mdX1_addPart) (p := l0) f_X1_9 rfl dX1_addPart_66 rfl (fun parts10 => ?_)
      refine C_aload_n (D := mdX1_addPart) (x := kB C + l0) dX1_addPart_69 rfl 1 rfl ?_
      refine C_getI (D := mdX1_addPart) (p := l0) f_X1_30 rfl dX1_addPart_70 rfl (fun queries11 => ?_)
      refine C_iconst (D := mdX1_addPart) (v := 1) dX1_addPart_73 rfl (by decide) ?_
      refine C_isub (D := mdX1_addPart) dX1_addPart_74 rfl ?_
      refine C_dup2 (D := mdX1_addPart) dX1_addPart_75 rfl rfl rfl ?_
      refine C_aI (D := mdX1_addPart) (p := parts10) dX1_addPart_76 rfl (fun x12 => ?_)
      refine C_iconst (D := mdX1_addPart) (v := 1) dX1_addPart_77 rfl (by decide) ?_
      refine C_iadd (D := mdX1_addPart) dX1_addPart_78 rfl ?_
      refine C_tI (D := mdX1_addPart) (p := parts10) dX1_addPart_79 rfl ?_
      exact C_vret rfl dX1_addPart_80
    · exact C_vret rfl dX1_addPart_15

-- StandingQueries$Text.readStop()Z
theorem dX5_readStop_0 : decode cX5_readStop 0 = .ok (.aload_n 0, 1) := by decide +kernel
theorem dX5_readStop_1 : decode cX5_readStop 1 = .ok (.getfield 54, 3) := by decide +kernel
theorem dX5_readStop_4 : decode cX5_readStop 4 = .ok (.iconst 3, 1) := by decide +kernel
theorem dX5_readStop_5 : decode cX5_readStop 5 = .ok (.if_icmp .eq 5, 3) := by decide +kernel
theorem dX5_readStop_8 : decode cX5_readStop 8 = .ok (.iconst 0, 1) := by decide +kernel
theorem dX5_readStop_9 : decode cX5_readStop 9 = .ok (.ireturn, 1) := by decide +kernel
theorem dX5_readStop_10 : decode cX5_readStop 10 = .ok (.aload_n 0, 1) := by decide +kernel
theorem dX5_readStop_11 : decode cX5_readStop 11 = .ok (.invokevirtual 51, 3) := by decide +kernel
theorem dX5_readStop_14 : decode cX5_readStop 14 = .ok (.iconst 1, 1) := by decide +kernel
theorem dX5_readStop_15 : decode cX5_readStop 15 = .ok (.ireturn, 1) := by decide +kernel
abbrev mdX5_readStop : MD := (cX5_readStop, RX5, 1, (some .boolean), yX5_readStop.name, 2, 40, eT)
set_option maxHeartbeats 2000000 in
set_option maxRecDepth 20000 in
theorem i_X5_readStop (C : KX) (l0 : Nat) : Imp C yX5_readStop cX5_readStop 1 (some .boolean) 2 40 rvI [.ref (kB C + l0)] (m_X5_readStop l0) := by
  refine Imp.of (by decide) (Nat.le_of_ble_eq_true rfl) [(0, .ref (kB C + l0))] rfl ?_
  show Cmp C mdX5_readStop (QM rvI) 0 [(0, .ref (kB C + l0))] [] (m_X5_readStop l0)
  unfold m_X5_readStop
  refine C_aload_n (D := mdX5_readStop) (x := kB C + l0) dX5_readStop_0 rfl 0 rfl ?_
  refine C_getI (D := mdX5_readStop) (p := l0) f_X5_54 rfl dX5_readStop_1 rfl (fun kind1 => ?_)
  refine C_iconst (D := mdX5_readStop) (v := 3) dX5_readStop_4 rfl (by decide) ?_
  refine C_icmp_eq (D := mdX5_readStop) (tgt := 10) dX5_readStop_5 (by decide) rfl ?_ ?_
  · refine C_aload_n (D := mdX5_readStop) (x := kB C + l0) dX5_readStop_10 rfl 0 rfl ?_
    refine C_callV (D := mdX5_readStop) (p := l0) (st := []) [] v_X5_51 (i_X5_advance C l0) dX5_readStop_11 rfl rfl rfl (Nat.le_of_ble_eq_true rfl) (by decide) (by decide) (fun _ => ?_)
    refine C_iconst (D := mdX5_readStop) (v := 1) dX5_readStop_14 rfl (by decide) ?_
    exact C_zret rfl dX5_readStop_15
  · refine C_iconst (D := mdX5_readStop) (v := 0) dX5_readStop_8 rfl (by decide) ?_
    exact C_zret rfl dX5_readStop_9

-- StandingQueries$Text.readPart(I)Z
theorem dX5_readPart_0 : decode cX5_readPart 0 = .ok (.aload_n 0, 1) := by decide +kernel
theorem dX5_readPart_1 : decode cX5_readPart 1 = .ok (.invokevirtual 90, 3) := by decide +kernel
theorem dX5_readPart_4 : decode cX5_readPart 4 = .ok (.ifCond .ne 5, 3) := by decide +kernel
theorem dX5_readPart_7 : decode cX5_readPart 7 = .ok (.iconst 0, 1) := by decide +kernel
theorem dX5_readPart_8 : decode cX5_readPart 8 = .ok (.ireturn, 1) := by decide +kernel
theorem dX5_readPart_9 : decode cX5_readPart 9 = .ok (.aload_n 0, 1) := by decide +kernel
theorem dX5_readPart_10 : decode cX5_readPart 10 = .ok (.invokevirtual 51, 3) := by decide +kernel
theorem dX5_readPart_13 : decode cX5_readPart 13 = .ok (.aload_n 0, 1) := by decide +kernel
theorem dX5_readPart_14 : decode cX5_readPart 14 = .ok (.invokevirtual 93, 3) := by decide +kernel
theorem dX5_readPart_17 : decode cX5_readPart 17 = .ok (.istore_n 2, 1) := by decide +kernel
theorem dX5_readPart_18 : decode cX5_readPart 18 = .ok (.iload_n 2, 1) := by decide +kernel
theorem dX5_readPart_19 : decode cX5_readPart 19 = .ok (.ifCond .ne 5, 3) := by decide +kernel
theorem dX5_readPart_22 : decode cX5_readPart 22 = .ok (.iconst 0, 1) := by decide +kernel
theorem dX5_readPart_23 : decode cX5_readPart 23 = .ok (.ireturn, 1) := by decide +kernel
theorem dX5_readPart_24 : decode cX5_readPart 24 = .ok (.aload_n 0, 1) := by decide +kernel
theorem dX5_readPart_25 : decode cX5_readPart 25 = .ok (.getfield 18, 3) := by decide +kernel
theorem dX5_readPart_28 : decode cX5_readPart 28 = .ok (.iload_n 1, 1) := by decide +kernel
theorem dX5_readPart_29 : decode cX5_readPart 29 = .ok (.iload_n 2, 1) := by decide +kernel
theorem dX5_readPart_30 : decode cX5_readPart 30 = .ok (.iconst 0, 1) := by decide +kernel
theorem dX5_readPart_31 : decode cX5_readPart 31 = .ok (.iconst 0, 1) := by decide +kernel
theorem dX5_readPart_32 : decode cX5_readPart 32 = .ok (.invokevirtual 98, 3) := by decide +kernel
theorem dX5_readPart_35 : decode cX5_readPart 35 = .ok (.aload_n 0, 1) := by decide +kernel
theorem dX5_readPart_36 : decode cX5_readPart 36 = .ok (.invokevirtual 87, 3) := by decide +kernel
theorem dX5_readPart_39 : decode cX5_readPart 39 = .ok (.ireturn, 1) := by decide +kernel
abbrev mdX5_readPart : MD := (cX5_readPart, RX5, 3, (some .boolean), yX5_readPart.name, 3, 66, eT)
set_option maxHeartbeats 2000000 in
set_option maxRecDepth 20000 in
theorem i_X5_readPart (C : KX) (l0 : Nat) (l1 : Int32) : Imp C yX5_readPart cX5_readPart 3 (some .boolean) 3 66 rvI [.ref (kB C + l0), .int l1] (m_X5_readPart l0 l1) := by
  refine Imp.of (by decide) (Nat.le_of_ble_eq_true rfl) [(0, .ref (kB C + l0)), (1, .int l1)] rfl ?_
  show Cmp C mdX5_readPart (QM rvI) 0 [(0, .ref (kB C + l0)), (1, .int l1)] [] (m_X5_readPart l0 l1)
  unfold m_X5_readPart
  refine C_aload_n (D := mdX5_readPart) (x := kB C + l0) dX5_readPart_0 rfl 0 rfl ?_
  refine C_callV (D := mdX5_readPart) (p := l0) (st := []) [] v_X5_90 (i_X5_mayHavePart C l0) dX5_readPart_1 rfl rfl rfl (Nat.le_of_ble_eq_true rfl) (by decide) (by decide) (fun c1 => ?_)
  refine C_if_ne (D := mdX5_readPart) (tgt := 9) dX5_readPart_4 (by decide) rfl ?_ ?_
  · refine C_aload_n (D := mdX5_readPart) (x := kB C + l0) dX5_readPart_9 rfl 0 rfl ?_
    refine C_callV (D := mdX5_readPart) (p := l0) (st := []) [] v_X5_51 (i_X5_advance C l0) dX5_readPart_10 rfl rfl rfl (Nat.le_of_ble_eq_true rfl) (by decide) (by decide) (fun _ => ?_)
    refine C_aload_n (D := mdX5_readPart) (x := kB C + l0) dX5_readPart_13 rfl 0 rfl ?_
    refine C_callV (D := mdX5_readPart) (p := l0) (st := []) [] v_X5_93 (i_X5_readWord C l0) dX5_readPart_14 rfl rfl rfl (Nat.le_of_ble_eq_true rfl) (by decide) (by decide) (fun c2 => ?_)
    refine C_istore_n (D := mdX5_readPart) (ls' := [(2, .int c2), (0, .ref (kB C + l0)), (1, .int l1)]) dX5_readPart_17 rfl rfl (by decide) rfl ?_
    refine C_iload_n (D := mdX5_readPart) (x := c2) dX5_readPart_18 rfl 0 rfl ?_
    refine C_if_ne (D := mdX5_readPart) (tgt := 24) dX5_readPart_19 (by decide) rfl ?_ ?_
    · refine C_aload_n (D := mdX5_readPart) (x := kB C + l0) dX5_readPart_24 rfl 1 rfl ?_
      refine C_getR (D := mdX5_readPart) (p := l0) f_X5_18 rfl dX5_readPart_25 rfl (fun draft3 => ?_)
      refine C_iload_n (D := mdX5_readPart) (x := l1) dX5_readPart_28 rfl 2 rfl ?_
      refine C_iload_n (D := mdX5_readPart) (x := c2) dX5_readPart_29 rfl 0 rfl ?_
      refine C_iconst (D := mdX5_readPart) (v := 0) dX5_readPart_30 rfl (by decide) ?_
      refine C_iconst (D := mdX5_readPart) (v := 0) dX5_readPart_31 rfl (by decide) ?_
      refine C_callV (D := mdX5_readPart) (p := draft3) (st := []) [.int l1, .int c2, .int 0, .int 0] v_X5_98 (i_X1_addPart C draft3 l1 c2 0 0) dX5_readPart_32 rfl rfl rfl (Nat.le_of_ble_eq_true rfl) (by decide) (by decide) (fun _ => ?_)
      refine C_aload_n (D := mdX5_readPart) (x := kB C + l0) dX5_readPart_35 rfl 1 rfl ?_
      refine C_callV (D := mdX5_readPart) (p := l0) (st := []) [] v_X5_87 (i_X5_readStop C l0) dX5_readPart_36 rfl rfl rfl (Nat.le_of_ble_eq_true rfl) (by decide) (by decide) (fun c4 => ?_)
      exact C_zret rfl dX5_readPart_39
    · refine C_iconst (D := mdX5_readPart) (v := 0) dX5_readPart_22 rfl (by decide) ?_
      exact C_zret rfl dX5_readPart_23
  · refine C_iconst (D := mdX5_readPart) (v := 0) dX5_readPart_7 rfl (by decide) ?_
    exact C_zret rfl dX5_readPart_8

-- StandingQueries$Held.lastHasNear()Z
theorem dX1_lastHasNear_0 : decode cX1_lastHasNear 0 = .ok (.iconst 0, 1) := by decide +kernel
theorem dX1_lastHasNear_1 : decode cX1_lastHasNear 1 = .ok (.istore_n 1, 1) := by decide +kernel
theorem dX1_lastHasNear_2 : decode cX1_lastHasNear 2 = .ok (.iload_n 1, 1) := by decide +kernel
theorem dX1_lastHasNear_3 : decode cX1_lastHasNear 3 = .ok (.aload_n 0, 1) := by decide +kernel
theorem dX1_lastHasNear_4 : decode cX1_lastHasNear 4 = .ok (.invokevirtual 43, 3) := by decide +kernel
theorem dX1_lastHasNear_7 : decode cX1_lastHasNear 7 = .ok (.if_icmp .ge 31, 3) := by decide +kernel
theorem dX1_lastHasNear_10 : decode cX1_lastHasNear 10 = .ok (.aload_n 0, 1) := by decide +kernel
theorem dX1_lastHasNear_11 : decode cX1_lastHasNear 11 = .ok (.getfield 15, 3) := by decide +kernel
theorem dX1_lastHasNear_14 : decode cX1_lastHasNear 14 = .ok (.aload_n 0, 1) := by decide +kernel
theorem dX1_lastHasNear_15 : decode cX1_lastHasNear 15 = .ok (.aload_n 0, 1) := by decide +kernel
theorem dX1_lastHasNear_16 : decode cX1_lastHasNear 16 = .ok (.getfield 30, 3) := by decide +kernel
theorem dX1_lastHasNear_19 : decode cX1_lastHasNear 19 = .ok (.iconst 1, 1) := by decide +kernel
theorem dX1_lastHasNear_20 : decode cX1_lastHasNear 20 = .ok (.isub, 1) := by decide +kernel
theorem dX1_lastHasNear_21 : decode cX1_lastHasNear 21 = .ok (.iload_n 1, 1) := by decide +kernel
theorem dX1_lastHasNear_22 : decode cX1_lastHasNear 22 = .ok (.invokevirtual 47, 3) := by decide +kernel
theorem dX1_lastHasNear_25 : decode cX1_lastHasNear 25 = .ok (.iaload, 1) := by decide +kernel
theorem dX1_lastHasNear_26 : decode cX1_lastHasNear 26 = .ok (.iconst 2, 1) := by decide +kernel
theorem dX1_lastHasNear_27 : decode cX1_lastHasNear 27 = .ok (.if_icmp .ne 5, 3) := by decide +kernel
theorem dX1_lastHasNear_30 : decode cX1_lastHasNear 30 = .ok (.iconst 1, 1) := by decide +kernel
theorem dX1_lastHasNear_31 : decode cX1_lastHasNear 31 = .ok (.ireturn, 1) := by decide +kernel
theorem dX1_lastHasNear_32 : decode cX1_lastHasNear 32 = .ok (.iinc 1 1, 3) := by decide +kernel
theorem dX1_lastHasNear_35 : decode cX1_lastHasNear 35 = .ok (.goto (-33), 3) := by decide +kernel
theorem dX1_lastHasNear_38 : decode cX1_lastHasNear 38 = .ok (.iconst 0, 1) := by decide +kernel
theorem dX1_lastHasNear_39 : decode cX1_lastHasNear 39 = .ok (.ireturn, 1) := by decide +kernel
abbrev mdX1_lastHasNear : MD := (cX1_lastHasNear, RX1, 2, (some .boolean), yX1_lastHasNear.name, 1, 22, eT)
set_option maxHeartbeats 2000000 in
set_option maxRecDepth 20000 in
theorem p_X1_lastHasNear_B2 (C : KX) (l0 : Nat)  (k2 : Int32 → Mo Int32) (hk2 : ∀ s, Cmp C mdX1_lastHasNear (QM rvI) 2 [(0, .ref (kB C + l0)), (1, .int s)] [] (k2 s)) (l1 : Int32) : Cmp C mdX1_lastHasNear (QM rvI) 2 [(0, .ref (kB C + l0)), (1, .int l1)] [] (m_X1_lastHasNear_B2 l0 k2 l1) := by
  unfold m_X1_lastHasNear_B2
  refine C_iload_n (D := mdX1_lastHasNear) (x := l1) dX1_lastHasNear_2 rfl 1 rfl ?_
  refine C_aload_n (D := mdX1_lastHasNear) (x := kB C + l0) dX1_lastHasNear_3 rfl 0 rfl ?_
  refine C_callV (D := mdX1_lastHasNear) (p := l0) (st := [.int l1]) [] v_X1_43 (i_X1_partsOfLast C l0) dX1_lastHasNear_4 rfl rfl rfl (Nat.le_of_ble_eq_true rfl) (by decide) (by decide) (fun c1 => ?_)
  refine C_icmp_ge (D := mdX1_lastHasNear) (tgt := 38) dX1_lastHasNear_7 (by decide) rfl ?_ ?_
  · refine C_iconst (D := mdX1_lastHasNear) (v := 0) dX1_lastHasNear_38 rfl (by decide) ?_
    exact C_zret rfl dX1_lastHasNear_39
  · refine C_aload_n (D := mdX1_lastHasNear) (x := kB C + l0) dX1_lastHasNear_10 rfl 0 rfl ?_
    refine C_getR (D := mdX1_lastHasNear) (p := l0) f_X1_15 rfl dX1_lastHasNear_11 rfl (fun sort2 => ?_)
    refine C_aload_n (D := mdX1_lastHasNear) (x := kB C + l0) dX1_lastHasNear_14 rfl 0 rfl ?_
    refine C_aload_n (D := mdX1_lastHasNear) (x := kB C + l0) dX1_lastHasNear_15 rfl 0 rfl ?_
    refine C_getI (D := mdX1_lastHasNear) (p := l0) f_X1_30 rfl dX1_lastHasNear_16 rfl (fun queries3 => ?_)
    refine C_iconst (D := mdX1_lastHasNear) (v := 1) dX1_lastHasNear_19 rfl (by decide) ?_
    refine C_isub (D := mdX1_lastHasNear) dX1_lastHasNear_20 rfl ?_
    refine C_iload_n (D := mdX1_lastHasNear) (x := l1) dX1_lastHasNear_21 rfl 1 rfl ?_
    refine C_callV (D := mdX1_lastHasNear) (p := l0) (st := [.ref (kB C + sort2)]) [.int (queries3 - 1), .int l1] v_X1_47 (i_X1_place C l0 ((queries3 - 1)) l1) dX1_lastHasNear_22 rfl rfl rfl (Nat.le_of_ble_eq_true rfl) (by decide) (by decide) (fun c4 => ?_)
    refine C_aI (D := mdX1_lastHasNear) (p := sort2) dX1_lastHasNear_25 rfl (fun x5 => ?_)
    refine C_iconst (D := mdX1_lastHasNear) (v := 2) dX1_lastHasNear_26 rfl (by decide) ?_
    refine C_icmp_ne (D := mdX1_lastHasNear) (tgt := 32) dX1_lastHasNear_27 (by decide) rfl ?_ ?_
    · refine C_iinc (D := mdX1_lastHasNear) (j := 1) (v := (l1 + 1)) (ls' := [(1, .int (l1 + 1)), (0, .ref (kB C + l0))]) dX1_lastHasNear_32 rfl rfl rfl (by decide) rfl ?_
      refine C_goto (D := mdX1_lastHasNear) (pc' := 2) dX1_lastHasNear_35 (by decide) ?_
      exact C_sub [1, 0] rfl (hk2 ((l1 + 1)))
    · refine C_iconst (D := mdX1_lastHasNear) (v := 1) dX1_lastHasNear_30 rfl (by decide) ?_
      exact C_zret rfl dX1_lastHasNear_31
set_option maxHeartbeats 2000000 in
set_option maxRecDepth 20000 in
theorem i_X1_lastHasNear (C : KX) (l0 : Nat) : Imp C yX1_lastHasNear cX1_lastHasNear 2 (some .boolean) 1 22 rvI [.ref (kB C + l0)] (m_X1_lastHasNear l0) := by
  refine Imp.of (by decide) (Nat.le_of_ble_eq_true rfl) [(0, .ref (kB C + l0))] rfl ?_
  show Cmp C mdX1_lastHasNear (QM rvI) 0 [(0, .ref (kB C + l0))] [] (m_X1_lastHasNear l0)
  unfold m_X1_lastHasNear
  refine C_iconst (D := mdX1_lastHasNear) (v := 0) dX1_lastHasNear_0 rfl (by decide) ?_
  refine C_istore_n (D := mdX1_lastHasNear) (ls' := [(1, .int 0), (0, .ref (kB C + l0))]) dX1_lastHasNear_1 rfl rfl (by decide) rfl ?_
  exact C_sub [1, 0] rfl (C_loop (fun s => [(0, .ref (kB C + l0)), (1, .int s)]) (fun k hk s => p_X1_lastHasNear_B2 C l0  k hk s) FU 0)
end
