section
-- ===== PART A: goes FIRST, ahead of the names: the tables' words, and 'selects' of the private methods out of them =====
/-- a private method of a class that the tables say can be made, by its rows of tables_1 -/
def lw_okq (q : MethodName × Nat) : Prop := (q.1.cls ≠ "java/lang/invoke/MethodHandle" ∧ q.1.cls ≠ "java/lang/invoke/VarHandle") ∧ Cond.instantiable q.1.cls q.2 ∈ tables_1 ∧ Cond.privateMethod q.1 ∈ tables_1 ∧ Cond.instanceMethod q.1 ∈ tables_1
theorem lw_p0 : lw_okq (⟨"StandingQueries$Words", "putWordsOf", "(LStandingQueries$Held;I)V"⟩, 2) := ⟨⟨by decide +kernel, by decide +kernel⟩, List.mem_of_getElem? (i := 82) (by decide +kernel), List.mem_of_getElem? (i := 250) (by decide +kernel), List.mem_of_getElem? (i := 251) (by decide +kernel)⟩
theorem lw_p1 : lw_okq (⟨"StandingQueries$Text", "advance", "()V"⟩, 8) := ⟨⟨by decide +kernel, by decide +kernel⟩, List.mem_of_getElem? (i := 23) (by decide +kernel), List.mem_of_getElem? (i := 266) (by decide +kernel), List.mem_of_getElem? (i := 267) (by decide +kernel)⟩
theorem lw_p2 : lw_okq (⟨"StandingQueries$Text", "readItem", "()Z"⟩, 8) := ⟨⟨by decide +kernel, by decide +kernel⟩, List.mem_of_getElem? (i := 23) (by decide +kernel), List.mem_of_getElem? (i := 273) (by decide +kernel), List.mem_of_getElem? (i := 274) (by decide +kernel)⟩
theorem lw_p3 : lw_okq (⟨"StandingQueries$Text", "readQuery", "()Z"⟩, 8) := ⟨⟨by decide +kernel, by decide +kernel⟩, List.mem_of_getElem? (i := 23) (by decide +kernel), List.mem_of_getElem? (i := 277) (by decide +kernel), List.mem_of_getElem? (i := 278) (by decide +kernel)⟩
theorem lw_p4 : lw_okq (⟨"StandingQueries$Text", "lacksParts", "()Z"⟩, 8) := ⟨⟨by decide +kernel, by decide +kernel⟩, List.mem_of_getElem? (i := 23) (by decide +kernel), List.mem_of_getElem? (i := 281) (by decide +kernel), List.mem_of_getElem? (i := 282) (by decide +kernel)⟩
theorem lw_p5 : lw_okq (⟨"StandingQueries$Text", "hasOpenQuery", "()Z"⟩, 8) := ⟨⟨by decide +kernel, by decide +kernel⟩, List.mem_of_getElem? (i := 23) (by decide +kernel), List.mem_of_getElem? (i := 285) (by decide +kernel), List.mem_of_getElem? (i := 286) (by decide +kernel)⟩
theorem lw_p6 : lw_okq (⟨"StandingQueries$Text", "readStop", "()Z"⟩, 8) := ⟨⟨by decide +kernel, by decide +kernel⟩, List.mem_of_getElem? (i := 23) (by decide +kernel), List.mem_of_getElem? (i := 297) (by decide +kernel), List.mem_of_getElem? (i := 298) (by decide +kernel)⟩
theorem lw_p7 : lw_okq (⟨"StandingQueries$Text", "readPart", "(I)Z"⟩, 8) := ⟨⟨by decide +kernel, by decide +kernel⟩, List.mem_of_getElem? (i := 23) (by decide +kernel), List.mem_of_getElem? (i := 301) (by decide +kernel), List.mem_of_getElem? (i := 302) (by decide +kernel)⟩
theorem lw_p8 : lw_okq (⟨"StandingQueries$Text", "mayHavePart", "()Z"⟩, 8) := ⟨⟨by decide +kernel, by decide +kernel⟩, List.mem_of_getElem? (i := 23) (by decide +kernel), List.mem_of_getElem? (i := 305) (by decide +kernel), List.mem_of_getElem? (i := 306) (by decide +kernel)⟩
theorem lw_p9 : lw_okq (⟨"StandingQueries$Text", "readWord", "()I"⟩, 8) := ⟨⟨by decide +kernel, by decide +kernel⟩, List.mem_of_getElem? (i := 23) (by decide +kernel), List.mem_of_getElem? (i := 309) (by decide +kernel), List.mem_of_getElem? (i := 310) (by decide +kernel)⟩
theorem lw_p10 : lw_okq (⟨"StandingQueries$Text", "readNear", "()Z"⟩, 8) := ⟨⟨by decide +kernel, by decide +kernel⟩, List.mem_of_getElem? (i := 23) (by decide +kernel), List.mem_of_getElem? (i := 329) (by decide +kernel), List.mem_of_getElem? (i := 330) (by decide +kernel)⟩
theorem lw_p11 : lw_okq (⟨"StandingQueries", "rebuild", "()V"⟩, 9) := ⟨⟨by decide +kernel, by decide +kernel⟩, List.mem_of_getElem? (i := 15) (by decide +kernel), List.mem_of_getElem? (i := 347) (by decide +kernel), List.mem_of_getElem? (i := 348) (by decide +kernel)⟩
theorem lw_p12 : lw_okq (⟨"StandingQueries$Automaton", "growTo", "(ILStandingQueries$Words;)V"⟩, 8) := ⟨⟨by decide +kernel, by decide +kernel⟩, List.mem_of_getElem? (i := 149) (by decide +kernel), List.mem_of_getElem? (i := 359) (by decide +kernel), List.mem_of_getElem? (i := 360) (by decide +kernel)⟩
theorem lw_p13 : lw_okq (⟨"StandingQueries$Automaton", "addNode", "(III)V"⟩, 8) := ⟨⟨by decide +kernel, by decide +kernel⟩, List.mem_of_getElem? (i := 149) (by decide +kernel), List.mem_of_getElem? (i := 375) (by decide +kernel), List.mem_of_getElem? (i := 376) (by decide +kernel)⟩
theorem lw_p14 : lw_okq (⟨"StandingQueries$Automaton", "link", "()V"⟩, 8) := ⟨⟨by decide +kernel, by decide +kernel⟩, List.mem_of_getElem? (i := 149) (by decide +kernel), List.mem_of_getElem? (i := 379) (by decide +kernel), List.mem_of_getElem? (i := 380) (by decide +kernel)⟩
theorem lw_p15 : lw_okq (⟨"StandingQueries", "walk", "()V"⟩, 9) := ⟨⟨by decide +kernel, by decide +kernel⟩, List.mem_of_getElem? (i := 15) (by decide +kernel), List.mem_of_getElem? (i := 383) (by decide +kernel), List.mem_of_getElem? (i := 384) (by decide +kernel)⟩
def lw_privs_1 : List (MethodName × Nat) := [(⟨"StandingQueries$Words", "putWordsOf", "(LStandingQueries$Held;I)V"⟩, 2), (⟨"StandingQueries$Text", "advance", "()V"⟩, 8), (⟨"StandingQueries$Text", "readItem", "()Z"⟩, 8), (⟨"StandingQueries$Text", "readQuery", "()Z"⟩, 8), (⟨"StandingQueries$Text", "lacksParts", "()Z"⟩, 8), (⟨"StandingQueries$Text", "hasOpenQuery", "()Z"⟩, 8), (⟨"StandingQueries$Text", "readStop", "()Z"⟩, 8), (⟨"StandingQueries$Text", "readPart", "(I)Z"⟩, 8), (⟨"StandingQueries$Text", "mayHavePart", "()Z"⟩, 8), (⟨"StandingQueries$Text", "readWord", "()I"⟩, 8), (⟨"StandingQueries$Text", "readNear", "()Z"⟩, 8), (⟨"StandingQueries", "rebuild", "()V"⟩, 9), (⟨"StandingQueries$Automaton", "growTo", "(ILStandingQueries$Words;)V"⟩, 8), (⟨"StandingQueries$Automaton", "addNode", "(III)V"⟩, 8), (⟨"StandingQueries$Automaton", "link", "()V"⟩, 8), (⟨"StandingQueries", "walk", "()V"⟩, 9)]
theorem lw_r1 : ∀ q ∈ lw_privs_1, lw_okq q := List.forall_mem_cons.mpr ⟨lw_p0, List.forall_mem_cons.mpr ⟨lw_p1, List.forall_mem_cons.mpr ⟨lw_p2, List.forall_mem_cons.mpr ⟨lw_p3, List.forall_mem_cons.mpr ⟨lw_p4, List.forall_mem_cons.mpr ⟨lw_p5, List.forall_mem_cons.mpr ⟨lw_p6, List.forall_mem_cons.mpr ⟨lw_p7, List.forall_mem_cons.mpr ⟨lw_p8, List.forall_mem_cons.mpr ⟨lw_p9, List.forall_mem_cons.mpr ⟨lw_p10, List.forall_mem_cons.mpr ⟨lw_p11, List.forall_mem_cons.mpr ⟨lw_p12, List.forall_mem_cons.mpr ⟨lw_p13, List.forall_mem_cons.mpr ⟨lw_p14, List.forall_mem_cons.mpr ⟨lw_p15, fun _ h => absurd h List.not_mem_nil⟩⟩⟩⟩⟩⟩⟩⟩⟩⟩⟩⟩⟩⟩⟩⟩
theorem lw_p16 : lw_okq (⟨"StandingQueries", "isQuery", "(I)Z"⟩, 9) := ⟨⟨by decide +kernel, by decide +kernel⟩, List.mem_of_getElem? (i := 15) (by decide +kernel), List.mem_of_getElem? (i := 394) (by decide +kernel), List.mem_of_getElem? (i := 395) (by decide +kernel)⟩
theorem lw_p17 : lw_okq (⟨"StandingQueries$Held", "movePart", "(II)V"⟩, 8) := ⟨⟨by decide +kernel, by decide +kernel⟩, List.mem_of_getElem? (i := 29) (by decide +kernel), List.mem_of_getElem? (i := 402) (by decide +kernel), List.mem_of_getElem? (i := 403) (by decide +kernel)⟩
theorem lw_p18 : lw_okq (⟨"StandingQueries", "matches", "(II)Z"⟩, 9) := ⟨⟨by decide +kernel, by decide +kernel⟩, List.mem_of_getElem? (i := 15) (by decide +kernel), List.mem_of_getElem? (i := 427) (by decide +kernel), List.mem_of_getElem? (i := 428) (by decide +kernel)⟩
theorem lw_p19 : lw_okq (⟨"StandingQueries", "holds", "(II)Z"⟩, 9) := ⟨⟨by decide +kernel, by decide +kernel⟩, List.mem_of_getElem? (i := 15) (by decide +kernel), List.mem_of_getElem? (i := 432) (by decide +kernel), List.mem_of_getElem? (i := 433) (by decide +kernel)⟩
theorem lw_p20 : lw_okq (⟨"StandingQueries", "hitsOf", "(I)J"⟩, 9) := ⟨⟨by decide +kernel, by decide +kernel⟩, List.mem_of_getElem? (i := 15) (by decide +kernel), List.mem_of_getElem? (i := 436) (by decide +kernel), List.mem_of_getElem? (i := 437) (by decide +kernel)⟩
theorem lw_p21 : lw_okq (⟨"StandingQueries", "since", "(I)I"⟩, 9) := ⟨⟨by decide +kernel, by decide +kernel⟩, List.mem_of_getElem? (i := 15) (by decide +kernel), List.mem_of_getElem? (i := 444) (by decide +kernel), List.mem_of_getElem? (i := 445) (by decide +kernel)⟩
theorem lw_p22 : lw_okq (⟨"StandingQueries", "keyOf", "(I)I"⟩, 9) := ⟨⟨by decide +kernel, by decide +kernel⟩, List.mem_of_getElem? (i := 15) (by decide +kernel), List.mem_of_getElem? (i := 448) (by decide +kernel), List.mem_of_getElem? (i := 449) (by decide +kernel)⟩
theorem lw_p23 : lw_okq (⟨"StandingQueries", "isAsked", "(I)Z"⟩, 9) := ⟨⟨by decide +kernel, by decide +kernel⟩, List.mem_of_getElem? (i := 15) (by decide +kernel), List.mem_of_getElem? (i := 456) (by decide +kernel), List.mem_of_getElem? (i := 457) (by decide +kernel)⟩
theorem lw_p24 : lw_okq (⟨"StandingQueries", "searchFor", "(I)LStandingQueries$Search;"⟩, 9) := ⟨⟨by decide +kernel, by decide +kernel⟩, List.mem_of_getElem? (i := 15) (by decide +kernel), List.mem_of_getElem? (i := 468) (by decide +kernel), List.mem_of_getElem? (i := 469) (by decide +kernel)⟩
theorem lw_p25 : lw_okq (⟨"StandingQueries$Search", "markNodes", "(II)V"⟩, 13) := ⟨⟨by decide +kernel, by decide +kernel⟩, List.mem_of_getElem? (i := 472) (by decide +kernel), List.mem_of_getElem? (i := 533) (by decide +kernel), List.mem_of_getElem? (i := 534) (by decide +kernel)⟩
theorem lw_p26 : lw_okq (⟨"StandingQueries$Search", "isMatch", "(I)Z"⟩, 13) := ⟨⟨by decide +kernel, by decide +kernel⟩, List.mem_of_getElem? (i := 472) (by decide +kernel), List.mem_of_getElem? (i := 543) (by decide +kernel), List.mem_of_getElem? (i := 544) (by decide +kernel)⟩
theorem lw_p27 : lw_okq (⟨"StandingQueries$Search", "spread", "(II)I"⟩, 13) := ⟨⟨by decide +kernel, by decide +kernel⟩, List.mem_of_getElem? (i := 472) (by decide +kernel), List.mem_of_getElem? (i := 547) (by decide +kernel), List.mem_of_getElem? (i := 548) (by decide +kernel)⟩
theorem lw_p28 : lw_okq (⟨"StandingQueries$Search", "step", "(II)I"⟩, 13) := ⟨⟨by decide +kernel, by decide +kernel⟩, List.mem_of_getElem? (i := 472) (by decide +kernel), List.mem_of_getElem? (i := 551) (by decide +kernel), List.mem_of_getElem? (i := 552) (by decide +kernel)⟩
theorem lw_p29 : lw_okq (⟨"StandingQueries$Search", "stepNear", "(II)I"⟩, 13) := ⟨⟨by decide +kernel, by decide +kernel⟩, List.mem_of_getElem? (i := 472) (by decide +kernel), List.mem_of_getElem? (i := 555) (by decide +kernel), List.mem_of_getElem? (i := 556) (by decide +kernel)⟩
theorem lw_p30 : lw_okq (⟨"StandingQueries$Search", "lengthenRows", "()V"⟩, 13) := ⟨⟨by decide +kernel, by decide +kernel⟩, List.mem_of_getElem? (i := 472) (by decide +kernel), List.mem_of_getElem? (i := 581) (by decide +kernel), List.mem_of_getElem? (i := 582) (by decide +kernel)⟩
theorem lw_p31 : lw_okq (⟨"StandingQueries", "isWord", "(I)Z"⟩, 9) := ⟨⟨by decide +kernel, by decide +kernel⟩, List.mem_of_getElem? (i := 15) (by decide +kernel), List.mem_of_getElem? (i := 589) (by decide +kernel), List.mem_of_getElem? (i := 590) (by decide +kernel)⟩
def lw_privs_2 : List (MethodName × Nat) := [(⟨"StandingQueries", "isQuery", "(I)Z"⟩, 9), (⟨"StandingQueries$Held", "movePart", "(II)V"⟩, 8), (⟨"StandingQueries", "matches", "(II)Z"⟩, 9), (⟨"StandingQueries", "holds", "(II)Z"⟩, 9), (⟨"StandingQueries", "hitsOf", "(I)J"⟩, 9), (⟨"StandingQueries", "since", "(I)I"⟩, 9), (⟨"StandingQueries", "keyOf", "(I)I"⟩, 9), (⟨"StandingQueries", "isAsked", "(I)Z"⟩, 9), (⟨"StandingQueries", "searchFor", "(I)LStandingQueries$Search;"⟩, 9), (⟨"StandingQueries$Search", "markNodes", "(II)V"⟩, 13), (⟨"StandingQueries$Search", "isMatch", "(I)Z"⟩, 13), (⟨"StandingQueries$Search", "spread", "(II)I"⟩, 13), (⟨"StandingQueries$Search", "step", "(II)I"⟩, 13), (⟨"StandingQueries$Search", "stepNear", "(II)I"⟩, 13), (⟨"StandingQueries$Search", "lengthenRows", "()V"⟩, 13), (⟨"StandingQueries", "isWord", "(I)Z"⟩, 9)]
theorem lw_r2 : ∀ q ∈ lw_privs_2, lw_okq q := List.forall_mem_cons.mpr ⟨lw_p16, List.forall_mem_cons.mpr ⟨lw_p17, List.forall_mem_cons.mpr ⟨lw_p18, List.forall_mem_cons.mpr ⟨lw_p19, List.forall_mem_cons.mpr ⟨lw_p20, List.forall_mem_cons.mpr ⟨lw_p21, List.forall_mem_cons.mpr ⟨lw_p22, List.forall_mem_cons.mpr ⟨lw_p23, List.forall_mem_cons.mpr ⟨lw_p24, List.forall_mem_cons.mpr ⟨lw_p25, List.forall_mem_cons.mpr ⟨lw_p26, List.forall_mem_cons.mpr ⟨lw_p27, List.forall_mem_cons.mpr ⟨lw_p28, List.forall_mem_cons.mpr ⟨lw_p29, List.forall_mem_cons.mpr ⟨lw_p30, List.forall_mem_cons.mpr ⟨lw_p31, fun _ h => absurd h List.not_mem_nil⟩⟩⟩⟩⟩⟩⟩⟩⟩⟩⟩⟩⟩⟩⟩⟩
theorem lw_p32 : lw_okq (⟨"StandingQueries", "isNode", "(I)Z"⟩, 9) := ⟨⟨by decide +kernel, by decide +kernel⟩, List.mem_of_getElem? (i := 15) (by decide +kernel), List.mem_of_getElem? (i := 611) (by decide +kernel), List.mem_of_getElem? (i := 612) (by decide +kernel)⟩
theorem lw_p33 : lw_okq (⟨"StandingQueries", "matching", "(I)I"⟩, 9) := ⟨⟨by decide +kernel, by decide +kernel⟩, List.mem_of_getElem? (i := 15) (by decide +kernel), List.mem_of_getElem? (i := 627) (by decide +kernel), List.mem_of_getElem? (i := 628) (by decide +kernel)⟩
theorem lw_p34 : lw_okq (⟨"StandingQueries", "withoutLast", "()I"⟩, 9) := ⟨⟨by decide +kernel, by decide +kernel⟩, List.mem_of_getElem? (i := 15) (by decide +kernel), List.mem_of_getElem? (i := 631) (by decide +kernel), List.mem_of_getElem? (i := 632) (by decide +kernel)⟩
theorem lw_p35 : lw_okq (⟨"StandingQueries", "asked", "()I"⟩, 9) := ⟨⟨by decide +kernel, by decide +kernel⟩, List.mem_of_getElem? (i := 15) (by decide +kernel), List.mem_of_getElem? (i := 636) (by decide +kernel), List.mem_of_getElem? (i := 637) (by decide +kernel)⟩
theorem lw_p36 : lw_okq (⟨"StandingQueries", "allHits", "()I"⟩, 9) := ⟨⟨by decide +kernel, by decide +kernel⟩, List.mem_of_getElem? (i := 15) (by decide +kernel), List.mem_of_getElem? (i := 640) (by decide +kernel), List.mem_of_getElem? (i := 641) (by decide +kernel)⟩
theorem lw_p37 : lw_okq (⟨"StandingQueriesModel", "make", "()V"⟩, 31) := ⟨⟨by decide +kernel, by decide +kernel⟩, List.mem_of_getElem? (i := 672) (by decide +kernel), List.mem_of_getElem? (i := 678) (by decide +kernel), List.mem_of_getElem? (i := 679) (by decide +kernel)⟩
theorem lw_p38 : lw_okq (⟨"StandingQueriesModel", "layWords", "([I)V"⟩, 31) := ⟨⟨by decide +kernel, by decide +kernel⟩, List.mem_of_getElem? (i := 672) (by decide +kernel), List.mem_of_getElem? (i := 682) (by decide +kernel), List.mem_of_getElem? (i := 683) (by decide +kernel)⟩
theorem lw_p39 : lw_okq (⟨"StandingQueriesModel", "addWord", "(I)V"⟩, 31) := ⟨⟨by decide +kernel, by decide +kernel⟩, List.mem_of_getElem? (i := 672) (by decide +kernel), List.mem_of_getElem? (i := 692) (by decide +kernel), List.mem_of_getElem? (i := 693) (by decide +kernel)⟩
theorem lw_p40 : lw_okq (⟨"StandingQueriesModel", "addNode", "(I)V"⟩, 31) := ⟨⟨by decide +kernel, by decide +kernel⟩, List.mem_of_getElem? (i := 672) (by decide +kernel), List.mem_of_getElem? (i := 703) (by decide +kernel), List.mem_of_getElem? (i := 704) (by decide +kernel)⟩
theorem lw_p41 : lw_okq (⟨"StandingQueriesModel", "longest", "(II)I"⟩, 31) := ⟨⟨by decide +kernel, by decide +kernel⟩, List.mem_of_getElem? (i := 672) (by decide +kernel), List.mem_of_getElem? (i := 711) (by decide +kernel), List.mem_of_getElem? (i := 712) (by decide +kernel)⟩
theorem lw_p42 : lw_okq (⟨"StandingQueriesModel", "nodeOf", "(I)I"⟩, 31) := ⟨⟨by decide +kernel, by decide +kernel⟩, List.mem_of_getElem? (i := 672) (by decide +kernel), List.mem_of_getElem? (i := 718) (by decide +kernel), List.mem_of_getElem? (i := 719) (by decide +kernel)⟩
theorem lw_p43 : lw_okq (⟨"StandingQueriesModel", "step", "()V"⟩, 31) := ⟨⟨by decide +kernel, by decide +kernel⟩, List.mem_of_getElem? (i := 672) (by decide +kernel), List.mem_of_getElem? (i := 828) (by decide +kernel), List.mem_of_getElem? (i := 829) (by decide +kernel)⟩
theorem lw_p44 : lw_okq (⟨"StandingQueriesModel", "byteAt", "(I)I"⟩, 31) := ⟨⟨by decide +kernel, by decide +kernel⟩, List.mem_of_getElem? (i := 672) (by decide +kernel), List.mem_of_getElem? (i := 832) (by decide +kernel), List.mem_of_getElem? (i := 833) (by decide +kernel)⟩
theorem lw_p45 : lw_okq (⟨"StandingQueriesModel", "readItem", "()Z"⟩, 31) := ⟨⟨by decide +kernel, by decide +kernel⟩, List.mem_of_getElem? (i := 672) (by decide +kernel), List.mem_of_getElem? (i := 840) (by decide +kernel), List.mem_of_getElem? (i := 841) (by decide +kernel)⟩
theorem lw_p46 : lw_okq (⟨"StandingQueriesModel", "isName", "(I)Z"⟩, 31) := ⟨⟨by decide +kernel, by decide +kernel⟩, List.mem_of_getElem? (i := 672) (by decide +kernel), List.mem_of_getElem? (i := 844) (by decide +kernel), List.mem_of_getElem? (i := 845) (by decide +kernel)⟩
theorem lw_p47 : lw_okq (⟨"StandingQueriesModel", "isWhole", "()Z"⟩, 31) := ⟨⟨by decide +kernel, by decide +kernel⟩, List.mem_of_getElem? (i := 672) (by decide +kernel), List.mem_of_getElem? (i := 848) (by decide +kernel), List.mem_of_getElem? (i := 849) (by decide +kernel)⟩
def lw_privs_3 : List (MethodName × Nat) := [(⟨"StandingQueries", "isNode", "(I)Z"⟩, 9), (⟨"StandingQueries", "matching", "(I)I"⟩, 9), (⟨"StandingQueries", "withoutLast", "()I"⟩, 9), (⟨"StandingQueries", "asked", "()I"⟩, 9), (⟨"StandingQueries", "allHits", "()I"⟩, 9), (⟨"StandingQueriesModel", "make", "()V"⟩, 31), (⟨"StandingQueriesModel", "layWords", "([I)V"⟩, 31), (⟨"StandingQueriesModel", "addWord", "(I)V"⟩, 31), (⟨"StandingQueriesModel", "addNode", "(I)V"⟩, 31), (⟨"StandingQueriesModel", "longest", "(II)I"⟩, 31), (⟨"StandingQueriesModel", "nodeOf", "(I)I"⟩, 31), (⟨"StandingQueriesModel", "step", "()V"⟩, 31), (⟨"StandingQueriesModel", "byteAt", "(I)I"⟩, 31), (⟨"StandingQueriesModel", "readItem", "()Z"⟩, 31), (⟨"StandingQueriesModel", "isName", "(I)Z"⟩, 31), (⟨"StandingQueriesModel", "isWhole", "()Z"⟩, 31)]
theorem lw_r3 : ∀ q ∈ lw_privs_3, lw_okq q := List.forall_mem_cons.mpr ⟨lw_p32, List.forall_mem_cons.mpr ⟨lw_p33, List.forall_mem_cons.mpr ⟨lw_p34, List.forall_mem_cons.mpr ⟨lw_p35, List.forall_mem_cons.mpr ⟨lw_p36, List.forall_mem_cons.mpr ⟨lw_p37, List.forall_mem_cons.mpr ⟨lw_p38, List.forall_mem_cons.mpr ⟨lw_p39, List.forall_mem_cons.mpr ⟨lw_p40, List.forall_mem_cons.mpr ⟨lw_p41, List.forall_mem_cons.mpr ⟨lw_p42, List.forall_mem_cons.mpr ⟨lw_p43, List.forall_mem_cons.mpr ⟨lw_p44, List.forall_mem_cons.mpr ⟨lw_p45, List.forall_mem_cons.mpr ⟨lw_p46, List.forall_mem_cons.mpr ⟨lw_p47, fun _ h => absurd h List.not_mem_nil⟩⟩⟩⟩⟩⟩⟩⟩⟩⟩⟩⟩⟩⟩⟩⟩
theorem lw_p48 : lw_okq (⟨"StandingQueriesModel", "hasNear", "(I)Z"⟩, 31) := ⟨⟨by decide +kernel, by decide +kernel⟩, List.mem_of_getElem? (i := 672) (by decide +kernel), List.mem_of_getElem? (i := 852) (by decide +kernel), List.mem_of_getElem? (i := 853) (by decide +kernel)⟩
theorem lw_p49 : lw_okq (⟨"StandingQueriesModel", "readPart", "(I)Z"⟩, 31) := ⟨⟨by decide +kernel, by decide +kernel⟩, List.mem_of_getElem? (i := 672) (by decide +kernel), List.mem_of_getElem? (i := 856) (by decide +kernel), List.mem_of_getElem? (i := 857) (by decide +kernel)⟩
theorem lw_p50 : lw_okq (⟨"StandingQueriesModel", "readWord", "()I"⟩, 31) := ⟨⟨by decide +kernel, by decide +kernel⟩, List.mem_of_getElem? (i := 672) (by decide +kernel), List.mem_of_getElem? (i := 860) (by decide +kernel), List.mem_of_getElem? (i := 861) (by decide +kernel)⟩
theorem lw_p51 : lw_okq (⟨"StandingQueriesModel", "keepAct", "()V"⟩, 31) := ⟨⟨by decide +kernel, by decide +kernel⟩, List.mem_of_getElem? (i := 672) (by decide +kernel), List.mem_of_getElem? (i := 865) (by decide +kernel), List.mem_of_getElem? (i := 866) (by decide +kernel)⟩
theorem lw_p52 : lw_okq (⟨"StandingQueriesModel", "isQuery", "(I)Z"⟩, 31) := ⟨⟨by decide +kernel, by decide +kernel⟩, List.mem_of_getElem? (i := 672) (by decide +kernel), List.mem_of_getElem? (i := 873) (by decide +kernel), List.mem_of_getElem? (i := 874) (by decide +kernel)⟩
theorem lw_p53 : lw_okq (⟨"StandingQueriesModel", "nodeAt", "(I)I"⟩, 31) := ⟨⟨by decide +kernel, by decide +kernel⟩, List.mem_of_getElem? (i := 672) (by decide +kernel), List.mem_of_getElem? (i := 882) (by decide +kernel), List.mem_of_getElem? (i := 883) (by decide +kernel)⟩
theorem lw_p54 : lw_okq (⟨"StandingQueriesModel", "layEnds", "()V"⟩, 31) := ⟨⟨by decide +kernel, by decide +kernel⟩, List.mem_of_getElem? (i := 672) (by decide +kernel), List.mem_of_getElem? (i := 898) (by decide +kernel), List.mem_of_getElem? (i := 899) (by decide +kernel)⟩
theorem lw_p55 : lw_okq (⟨"StandingQueriesModel", "matches", "(II)Z"⟩, 31) := ⟨⟨by decide +kernel, by decide +kernel⟩, List.mem_of_getElem? (i := 672) (by decide +kernel), List.mem_of_getElem? (i := 902) (by decide +kernel), List.mem_of_getElem? (i := 903) (by decide +kernel)⟩
theorem lw_p56 : lw_okq (⟨"StandingQueriesModel", "holds", "(III)Z"⟩, 31) := ⟨⟨by decide +kernel, by decide +kernel⟩, List.mem_of_getElem? (i := 672) (by decide +kernel), List.mem_of_getElem? (i := 906) (by decide +kernel), List.mem_of_getElem? (i := 907) (by decide +kernel)⟩
theorem lw_p57 : lw_okq (⟨"StandingQueriesModel", "numberOf", "(I)I"⟩, 31) := ⟨⟨by decide +kernel, by decide +kernel⟩, List.mem_of_getElem? (i := 672) (by decide +kernel), List.mem_of_getElem? (i := 910) (by decide +kernel), List.mem_of_getElem? (i := 911) (by decide +kernel)⟩
theorem lw_p58 : lw_okq (⟨"StandingQueriesModel", "hits", "(II)I"⟩, 31) := ⟨⟨by decide +kernel, by decide +kernel⟩, List.mem_of_getElem? (i := 672) (by decide +kernel), List.mem_of_getElem? (i := 914) (by decide +kernel), List.mem_of_getElem? (i := 915) (by decide +kernel)⟩
theorem lw_p59 : lw_okq (⟨"StandingQueriesModel", "since", "(I)I"⟩, 31) := ⟨⟨by decide +kernel, by decide +kernel⟩, List.mem_of_getElem? (i := 672) (by decide +kernel), List.mem_of_getElem? (i := 921) (by decide +kernel), List.mem_of_getElem? (i := 922) (by decide +kernel)⟩
theorem lw_p60 : lw_okq (⟨"StandingQueriesModel", "key", "(I)I"⟩, 31) := ⟨⟨by decide +kernel, by decide +kernel⟩, List.mem_of_getElem? (i := 672) (by decide +kernel), List.mem_of_getElem? (i := 925) (by decide +kernel), List.mem_of_getElem? (i := 926) (by decide +kernel)⟩
theorem lw_p61 : lw_okq (⟨"StandingQueriesModel", "isAsked", "(I)Z"⟩, 31) := ⟨⟨by decide +kernel, by decide +kernel⟩, List.mem_of_getElem? (i := 672) (by decide +kernel), List.mem_of_getElem? (i := 929) (by decide +kernel), List.mem_of_getElem? (i := 930) (by decide +kernel)⟩
theorem lw_p62 : lw_okq (⟨"StandingQueriesModel", "takes", "(I)V"⟩, 31) := ⟨⟨by decide +kernel, by decide +kernel⟩, List.mem_of_getElem? (i := 672) (by decide +kernel), List.mem_of_getElem? (i := 941) (by decide +kernel), List.mem_of_getElem? (i := 942) (by decide +kernel)⟩
theorem lw_p63 : lw_okq (⟨"StandingQueriesModel", "begins", "()I"⟩, 31) := ⟨⟨by decide +kernel, by decide +kernel⟩, List.mem_of_getElem? (i := 672) (by decide +kernel), List.mem_of_getElem? (i := 945) (by decide +kernel), List.mem_of_getElem? (i := 946) (by decide +kernel)⟩
def lw_privs_4 : List (MethodName × Nat) := [(⟨"StandingQueriesModel", "hasNear", "(I)Z"⟩, 31), (⟨"StandingQueriesModel", "readPart", "(I)Z"⟩, 31), (⟨"StandingQueriesModel", "readWord", "()I"⟩, 31), (⟨"StandingQueriesModel", "keepAct", "()V"⟩, 31), (⟨"StandingQueriesModel", "isQuery", "(I)Z"⟩, 31), (⟨"StandingQueriesModel", "nodeAt", "(I)I"⟩, 31), (⟨"StandingQueriesModel", "layEnds", "()V"⟩, 31), (⟨"StandingQueriesModel", "matches", "(II)Z"⟩, 31), (⟨"StandingQueriesModel", "holds", "(III)Z"⟩, 31), (⟨"StandingQueriesModel", "numberOf", "(I)I"⟩, 31), (⟨"StandingQueriesModel", "hits", "(II)I"⟩, 31), (⟨"StandingQueriesModel", "since", "(I)I"⟩, 31), (⟨"StandingQueriesModel", "key", "(I)I"⟩, 31), (⟨"StandingQueriesModel", "isAsked", "(I)Z"⟩, 31), (⟨"StandingQueriesModel", "takes", "(I)V"⟩, 31), (⟨"StandingQueriesModel", "begins", "()I"⟩, 31)]
theorem lw_r4 : ∀ q ∈ lw_privs_4, lw_okq q := List.forall_mem_cons.mpr ⟨lw_p48, List.forall_mem_cons.mpr ⟨lw_p49, List.forall_mem_cons.mpr ⟨lw_p50, List.forall_mem_cons.mpr ⟨lw_p51, List.forall_mem_cons.mpr ⟨lw_p52, List.forall_mem_cons.mpr ⟨lw_p53, List.forall_mem_cons.mpr ⟨lw_p54, List.forall_mem_cons.mpr ⟨lw_p55, List.forall_mem_cons.mpr ⟨lw_p56, List.forall_mem_cons.mpr ⟨lw_p57, List.forall_mem_cons.mpr ⟨lw_p58, List.forall_mem_cons.mpr ⟨lw_p59, List.forall_mem_cons.mpr ⟨lw_p60, List.forall_mem_cons.mpr ⟨lw_p61, List.forall_mem_cons.mpr ⟨lw_p62, List.forall_mem_cons.mpr ⟨lw_p63, fun _ h => absurd h List.not_mem_nil⟩⟩⟩⟩⟩⟩⟩⟩⟩⟩⟩⟩⟩⟩⟩⟩
theorem lw_p64 : lw_okq (⟨"StandingQueriesModel", "nearest", "(II)I"⟩, 31) := ⟨⟨by decide +kernel, by decide +kernel⟩, List.mem_of_getElem? (i := 672) (by decide +kernel), List.mem_of_getElem? (i := 952) (by decide +kernel), List.mem_of_getElem? (i := 953) (by decide +kernel)⟩
theorem lw_p65 : lw_okq (⟨"StandingQueriesModel", "isDone", "(I)Z"⟩, 31) := ⟨⟨by decide +kernel, by decide +kernel⟩, List.mem_of_getElem? (i := 672) (by decide +kernel), List.mem_of_getElem? (i := 956) (by decide +kernel), List.mem_of_getElem? (i := 957) (by decide +kernel)⟩
theorem lw_p66 : lw_okq (⟨"StandingQueriesModel", "behind", "(III)I"⟩, 31) := ⟨⟨by decide +kernel, by decide +kernel⟩, List.mem_of_getElem? (i := 672) (by decide +kernel), List.mem_of_getElem? (i := 961) (by decide +kernel), List.mem_of_getElem? (i := 962) (by decide +kernel)⟩
theorem lw_p67 : lw_okq (⟨"StandingQueriesModel", "allHits", "()I"⟩, 31) := ⟨⟨by decide +kernel, by decide +kernel⟩, List.mem_of_getElem? (i := 672) (by decide +kernel), List.mem_of_getElem? (i := 1001) (by decide +kernel), List.mem_of_getElem? (i := 1002) (by decide +kernel)⟩
def lw_privs_5 : List (MethodName × Nat) := [(⟨"StandingQueriesModel", "nearest", "(II)I"⟩, 31), (⟨"StandingQueriesModel", "isDone", "(I)Z"⟩, 31), (⟨"StandingQueriesModel", "behind", "(III)I"⟩, 31), (⟨"StandingQueriesModel", "allHits", "()I"⟩, 31)]
theorem lw_r5 : ∀ q ∈ lw_privs_5, lw_okq q := List.forall_mem_cons.mpr ⟨lw_p64, List.forall_mem_cons.mpr ⟨lw_p65, List.forall_mem_cons.mpr ⟨lw_p66, List.forall_mem_cons.mpr ⟨lw_p67, fun _ h => absurd h List.not_mem_nil⟩⟩⟩⟩
def lw_privs : List (MethodName × Nat) := lw_privs_1 ++ (lw_privs_2 ++ (lw_privs_3 ++ (lw_privs_4 ++ (lw_privs_5))))
def lw_tbl : List Cond := k2_sels lw_privs ++ tables_1
theorem lw_privs_ok : ∀ q ∈ lw_privs, lw_okq q := by
  show ∀ q ∈ lw_privs_1 ++ (lw_privs_2 ++ (lw_privs_3 ++ (lw_privs_4 ++ (lw_privs_5)))), lw_okq q
  exact List.forall_mem_append.mpr ⟨lw_r1, List.forall_mem_append.mpr ⟨lw_r2, List.forall_mem_append.mpr ⟨lw_r3, List.forall_mem_append.mpr ⟨lw_r4, lw_r5⟩⟩⟩⟩
end
section
def RX0 : String := "StandingQueries$Automaton"
def TX0 : u_T := fun k => match k with
  | 0 => ("StandingQueries$Automaton", "nodes", "I", false)
  | 1 => ("StandingQueries$Automaton", "size", "[I", true)
  | 2 => ("StandingQueries$Automaton", "last", "[I", true)
  | 3 => ("StandingQueries$Automaton", "parent", "[I", true)
  | 4 => ("StandingQueries$Automaton", "fail", "[I", true)
  | 5 => ("StandingQueries$Automaton", "ends", "[I", true)
  | 6 => ("StandingQueries$Automaton", "follow", "[I", true)
  | _ => ("StandingQueries$Automaton", "reached", "[I", true)
def tyX0 : Nat → FieldType := fun k => match k with
  | 0 => .int
  | 1 => .array .int
  | 2 => .array .int
  | 3 => .array .int
  | 4 => .array .int
  | 5 => .array .int
  | 6 => .array .int
  | _ => .array .int
theorem nmX0 : ∀ a, a < 8 → ∀ b, b < 8 → a ≠ b → (TX0 a).2.1 ≠ (TX0 b).2.1 := by decide +kernel
theorem tyX0_ok : ∀ k, k < 8 → parseFieldDescriptor (TX0 k).2.2.1 = some (tyX0 k) := by decide +kernel
abbrev cX0_init : ByteArray := prog_2_method_1_code
def yX0_init : MethodName := ⟨RX0, "<init>", "(I)V"⟩
abbrev cX0_build : ByteArray := prog_2_method_2_code
def yX0_build : MethodName := ⟨RX0, "build", "(LStandingQueries$Words;)V"⟩
abbrev cX0_growTo : ByteArray := prog_2_method_3_code
def yX0_growTo : MethodName := ⟨RX0, "growTo", "(ILStandingQueries$Words;)V"⟩
abbrev cX0_addNode : ByteArray := prog_2_method_4_code
def yX0_addNode : MethodName := ⟨RX0, "addNode", "(III)V"⟩
abbrev cX0_link : ByteArray := prog_2_method_5_code
def yX0_link : MethodName := ⟨RX0, "link", "()V"⟩
def RX1 : String := "StandingQueries$Held"
def TX1 : u_T := fun k => match k with
  | 0 => ("StandingQueries$Held", "queries", "I", false)
  | 1 => ("StandingQueries$Held", "letters", "I", false)
  | 2 => ("StandingQueries$Held", "parts", "[I", true)
  | 3 => ("StandingQueries$Held", "sort", "[I", true)
  | 4 => ("StandingQueries$Held", "word", "[I", true)
  | 5 => ("StandingQueries$Held", "earlier", "[I", true)
  | 6 => ("StandingQueries$Held", "reach", "[I", true)
  | _ => ("StandingQueries$Held", "row", "[I", true)
def tyX1 : Nat → FieldType := fun k => match k with
  | 0 => .int
  | 1 => .int
  | 2 => .array .int
  | 3 => .array .int
  | 4 => .array .int
  | 5 => .array .int
  | 6 => .array .int
  | _ => .array .int
theorem nmX1 : ∀ a, a < 8 → ∀ b, b < 8 → a ≠ b → (TX1 a).2.1 ≠ (TX1 b).2.1 := by decide +kernel
theorem tyX1_ok : ∀ k, k < 8 → parseFieldDescriptor (TX1 k).2.2.1 = some (tyX1 k) := by decide +kernel
abbrev cX1_init : ByteArray := prog_3_method_1_code
def yX1_init : MethodName := ⟨RX1, "<init>", "()V"⟩
abbrev cX1_place : ByteArray := prog_3_method_2_code
def yX1_place : MethodName := ⟨RX1, "place", "(II)I"⟩
abbrev cX1_take : ByteArray := prog_3_method_3_code
def yX1_take : MethodName := ⟨RX1, "take", "(LStandingQueries$Held;)V"⟩
abbrev cX1_startQuery : ByteArray := prog_3_method_4_code
def yX1_startQuery : MethodName := ⟨RX1, "startQuery", "()Z"⟩
abbrev cX1_partsOfLast : ByteArray := prog_3_method_5_code
def yX1_partsOfLast : MethodName := ⟨RX1, "partsOfLast", "()I"⟩
abbrev cX1_lastHasNear : ByteArray := prog_3_method_6_code
def yX1_lastHasNear : MethodName := ⟨RX1, "lastHasNear", "()Z"⟩
abbrev cX1_addPart : ByteArray := prog_3_method_7_code
def yX1_addPart : MethodName := ⟨RX1, "addPart", "(IIII)V"⟩
abbrev cX1_dropQuery : ByteArray := prog_3_method_8_code
def yX1_dropQuery : MethodName := ⟨RX1, "dropQuery", "(I)V"⟩
abbrev cX1_movePart : ByteArray := prog_3_method_9_code
def yX1_movePart : MethodName := ⟨RX1, "movePart", "(II)V"⟩
def RX2 : String := "StandingQueries$History"
def TX2 : u_T := fun k => match k with
  | 0 => ("StandingQueries$History", "ring", "[LStandingQueries$Held;", true)
  | 1 => ("StandingQueries$History", "latest", "I", false)
  | _ => ("StandingQueries$History", "known", "I", false)
def tyX2 : Nat → FieldType := fun k => match k with
  | 0 => .array (.object "StandingQueries$Held")
  | 1 => .int
  | _ => .int
theorem nmX2 : ∀ a, a < 3 → ∀ b, b < 3 → a ≠ b → (TX2 a).2.1 ≠ (TX2 b).2.1 := by decide +kernel
theorem tyX2_ok : ∀ k, k < 3 → parseFieldDescriptor (TX2 k).2.2.1 = some (tyX2 k) := by decide +kernel
abbrev cX2_init : ByteArray := prog_4_method_1_code
def yX2_init : MethodName := ⟨RX2, "<init>", "()V"⟩
abbrev cX2_push : ByteArray := prog_4_method_2_code
def yX2_push : MethodName := ⟨RX2, "push", "(LStandingQueries$Held;)V"⟩
abbrev cX2_popInto : ByteArray := prog_4_method_3_code
def yX2_popInto : MethodName := ⟨RX2, "popInto", "(LStandingQueries$Held;)Z"⟩
abbrev cX2_forget : ByteArray := prog_4_method_4_code
def yX2_forget : MethodName := ⟨RX2, "forget", "()V"⟩
def RX3 : String := "StandingQueries$Packed"
def TX3 : u_T := fun k => match k with
  | _ => ("", "", "", false)
def tyX3 : Nat → FieldType := fun k => match k with
  | _ => .int
theorem nmX3 : ∀ a, a < 0 → ∀ b, b < 0 → a ≠ b → (TX3 a).2.1 ≠ (TX3 b).2.1 := by decide +kernel
theorem tyX3_ok : ∀ k, k < 0 → parseFieldDescriptor (TX3 k).2.2.1 = some (tyX3 k) := by decide +kernel
abbrev cX3_shiftOf : ByteArray := prog_5_method_2_code
def yX3_shiftOf : MethodName := ⟨RX3, "shiftOf", "(I)I"⟩
abbrev cX3_sizeOf : ByteArray := prog_5_method_3_code
def yX3_sizeOf : MethodName := ⟨RX3, "sizeOf", "(I)I"⟩
abbrev cX3_letterAt : ByteArray := prog_5_method_4_code
def yX3_letterAt : MethodName := ⟨RX3, "letterAt", "(II)I"⟩
abbrev cX3_withLetter : ByteArray := prog_5_method_5_code
def yX3_withLetter : MethodName := ⟨RX3, "withLetter", "(III)I"⟩
abbrev cX3_headOf : ByteArray := prog_5_method_6_code
def yX3_headOf : MethodName := ⟨RX3, "headOf", "(II)I"⟩
def RX4 : String := "StandingQueries$Search"
def TX4 : u_T := fun k => match k with
  | 0 => ("StandingQueries$Search", "words", "LStandingQueries$Words;", true)
  | 1 => ("StandingQueries$Search", "automaton", "LStandingQueries$Automaton;", true)
  | 2 => ("StandingQueries$Search", "marks", "[I", true)
  | 3 => ("StandingQueries$Search", "from", "[I", true)
  | 4 => ("StandingQueries$Search", "queue", "[I", true)
  | 5 => ("StandingQueries$Search", "ways", "[J", false)
  | 6 => ("StandingQueries$Search", "waysThen", "[J", false)
  | 7 => ("StandingQueries$Search", "nearBits", "I", false)
  | 8 => ("StandingQueries$Search", "reach", "I", false)
  | 9 => ("StandingQueries$Search", "width", "I", false)
  | 10 => ("StandingQueries$Search", "matched", "I", false)
  | 11 => ("StandingQueries$Search", "states", "I", false)
  | _ => ("StandingQueries$Search", "found", "I", false)
def tyX4 : Nat → FieldType := fun k => match k with
  | 0 => .object "StandingQueries$Words"
  | 1 => .object "StandingQueries$Automaton"
  | 2 => .array .int
  | 3 => .array .int
  | 4 => .array .int
  | 5 => .array .long
  | 6 => .array .long
  | 7 => .int
  | 8 => .int
  | 9 => .int
  | 10 => .int
  | 11 => .int
  | _ => .int
theorem nmX4 : ∀ a, a < 13 → ∀ b, b < 13 → a ≠ b → (TX4 a).2.1 ≠ (TX4 b).2.1 := by decide +kernel
theorem tyX4_ok : ∀ k, k < 13 → parseFieldDescriptor (TX4 k).2.2.1 = some (tyX4 k) := by decide +kernel
abbrev cX4_init : ByteArray := prog_6_method_1_code
def yX4_init : MethodName := ⟨RX4, "<init>", "()V"⟩
abbrev cX4_prepare : ByteArray := prog_6_method_2_code
def yX4_prepare : MethodName := ⟨RX4, "prepare", "(LStandingQueries$Held;I)V"⟩
abbrev cX4_markNodes : ByteArray := prog_6_method_3_code
def yX4_markNodes : MethodName := ⟨RX4, "markNodes", "(II)V"⟩
abbrev cX4_isMatch : ByteArray := prog_6_method_4_code
def yX4_isMatch : MethodName := ⟨RX4, "isMatch", "(I)Z"⟩
abbrev cX4_step : ByteArray := prog_6_method_5_code
def yX4_step : MethodName := ⟨RX4, "step", "(II)I"⟩
abbrev cX4_stepNear : ByteArray := prog_6_method_6_code
def yX4_stepNear : MethodName := ⟨RX4, "stepNear", "(II)I"⟩
abbrev cX4_stateBehind : ByteArray := prog_6_method_7_code
def yX4_stateBehind : MethodName := ⟨RX4, "stateBehind", "(LStandingQueries$Held;)I"⟩
abbrev cX4_fewestFrom : ByteArray := prog_6_method_8_code
def yX4_fewestFrom : MethodName := ⟨RX4, "fewestFrom", "(I)I"⟩
abbrev cX4_spread : ByteArray := prog_6_method_9_code
def yX4_spread : MethodName := ⟨RX4, "spread", "(II)I"⟩
abbrev cX4_letterOfRow : ByteArray := prog_6_method_10_code
def yX4_letterOfRow : MethodName := ⟨RX4, "letterOfRow", "(II)I"⟩
abbrev cX4_rowsOf : ByteArray := prog_6_method_11_code
def yX4_rowsOf : MethodName := ⟨RX4, "rowsOf", "(I)J"⟩
abbrev cX4_lengthenRows : ByteArray := prog_6_method_12_code
def yX4_lengthenRows : MethodName := ⟨RX4, "lengthenRows", "()V"⟩
def RX5 : String := "StandingQueries$Text"
def TX5 : u_T := fun k => match k with
  | 0 => ("StandingQueries$Text", "bytes", "[I", true)
  | 1 => ("StandingQueries$Text", "size", "I", false)
  | 2 => ("StandingQueries$Text", "draft", "LStandingQueries$Held;", true)
  | 3 => ("StandingQueries$Text", "words", "LStandingQueries$Words;", true)
  | 4 => ("StandingQueries$Text", "begin", "I", false)
  | 5 => ("StandingQueries$Text", "end", "I", false)
  | 6 => ("StandingQueries$Text", "kind", "I", false)
  | _ => ("StandingQueries$Text", "queriesBefore", "I", false)
def tyX5 : Nat → FieldType := fun k => match k with
  | 0 => .array .int
  | 1 => .int
  | 2 => .object "StandingQueries$Held"
  | 3 => .object "StandingQueries$Words"
  | 4 => .int
  | 5 => .int
  | 6 => .int
  | _ => .int
theorem nmX5 : ∀ a, a < 8 → ∀ b, b < 8 → a ≠ b → (TX5 a).2.1 ≠ (TX5 b).2.1 := by decide +kernel
theorem tyX5_ok : ∀ k, k < 8 → parseFieldDescriptor (TX5 k).2.2.1 = some (tyX5 k) := by decide +kernel
abbrev cX5_init : ByteArray := prog_7_method_1_code
def yX5_init : MethodName := ⟨RX5, "<init>", "()V"⟩
abbrev cX5_append : ByteArray := prog_7_method_2_code
def yX5_append : MethodName := ⟨RX5, "append", "(I)Z"⟩
abbrev cX5_readBehind : ByteArray := prog_7_method_3_code
def yX5_readBehind : MethodName := ⟨RX5, "readBehind", "(LStandingQueries$Held;)I"⟩
abbrev cX5_hasOpenQuery : ByteArray := prog_7_method_4_code
def yX5_hasOpenQuery : MethodName := ⟨RX5, "hasOpenQuery", "()Z"⟩
abbrev cX5_lacksParts : ByteArray := prog_7_method_5_code
def yX5_lacksParts : MethodName := ⟨RX5, "lacksParts", "()Z"⟩
abbrev cX5_mayHavePart : ByteArray := prog_7_method_6_code
def yX5_mayHavePart : MethodName := ⟨RX5, "mayHavePart", "()Z"⟩
abbrev cX5_readItem : ByteArray := prog_7_method_7_code
def yX5_readItem : MethodName := ⟨RX5, "readItem", "()Z"⟩
abbrev cX5_readQuery : ByteArray := prog_7_method_8_code
def yX5_readQuery : MethodName := ⟨RX5, "readQuery", "()Z"⟩
abbrev cX5_readPart : ByteArray := prog_7_method_9_code
def yX5_readPart : MethodName := ⟨RX5, "readPart", "(I)Z"⟩
abbrev cX5_readNear : ByteArray := prog_7_method_10_code
def yX5_readNear : MethodName := ⟨RX5, "readNear", "()Z"⟩
abbrev cX5_readStop : ByteArray := prog_7_method_11_code
def yX5_readStop : MethodName := ⟨RX5, "readStop", "()Z"⟩
abbrev cX5_readWord : ByteArray := prog_7_method_12_code
def yX5_readWord : MethodName := ⟨RX5, "readWord", "()I"⟩
abbrev cX5_advance : ByteArray := prog_7_method_13_code
def yX5_advance : MethodName := ⟨RX5, "advance", "()V"⟩
abbrev cX5_kindOf : ByteArray := prog_7_method_14_code
def yX5_kindOf : MethodName := ⟨RX5, "kindOf", "(I)I"⟩
def RX6 : String := "StandingQueries$Words"
def TX6 : u_T := fun k => match k with
  | 0 => ("StandingQueries$Words", "codes", "[I", true)
  | _ => ("StandingQueries$Words", "count", "I", false)
def tyX6 : Nat → FieldType := fun k => match k with
  | 0 => .array .int
  | _ => .int
theorem nmX6 : ∀ a, a < 2 → ∀ b, b < 2 → a ≠ b → (TX6 a).2.1 ≠ (TX6 b).2.1 := by decide +kernel
theorem tyX6_ok : ∀ k, k < 2 → parseFieldDescriptor (TX6 k).2.2.1 = some (tyX6 k) := by decide +kernel
abbrev cX6_init : ByteArray := prog_8_method_1_code
def yX6_init : MethodName := ⟨RX6, "<init>", "(I)V"⟩
abbrev cX6_find : ByteArray := prog_8_method_2_code
def yX6_find : MethodName := ⟨RX6, "find", "(I)I"⟩
abbrev cX6_put : ByteArray := prog_8_method_3_code
def yX6_put : MethodName := ⟨RX6, "put", "(I)Z"⟩
abbrev cX6_gatherAll : ByteArray := prog_8_method_4_code
def yX6_gatherAll : MethodName := ⟨RX6, "gatherAll", "(LStandingQueries$Held;)V"⟩
abbrev cX6_gatherOne : ByteArray := prog_8_method_5_code
def yX6_gatherOne : MethodName := ⟨RX6, "gatherOne", "(LStandingQueries$Held;I)V"⟩
abbrev cX6_putWordsOf : ByteArray := prog_8_method_6_code
def yX6_putWordsOf : MethodName := ⟨RX6, "putWordsOf", "(LStandingQueries$Held;I)V"⟩
def RX7 : String := "StandingQueries"
def TX7 : u_T := fun k => match k with
  | 0 => ("StandingQueries", "text", "LStandingQueries$Text;", true)
  | 1 => ("StandingQueries", "held", "LStandingQueries$Held;", true)
  | 2 => ("StandingQueries", "history", "LStandingQueries$History;", true)
  | 3 => ("StandingQueries", "images", "[LStandingQueries$Held;", true)
  | 4 => ("StandingQueries", "words", "LStandingQueries$Words;", true)
  | 5 => ("StandingQueries", "automaton", "LStandingQueries$Automaton;", true)
  | 6 => ("StandingQueries", "hits", "[J", true)
  | 7 => ("StandingQueries", "at", "I", false)
  | _ => ("StandingQueries", "search", "LStandingQueries$Search;", false)
def tyX7 : Nat → FieldType := fun k => match k with
  | 0 => .object "StandingQueries$Text"
  | 1 => .object "StandingQueries$Held"
  | 2 => .object "StandingQueries$History"
  | 3 => .array (.object "StandingQueries$Held")
  | 4 => .object "StandingQueries$Words"
  | 5 => .object "StandingQueries$Automaton"
  | 6 => .array .long
  | 7 => .int
  | _ => .object "StandingQueries$Search"
theorem nmX7 : ∀ a, a < 9 → ∀ b, b < 9 → a ≠ b → (TX7 a).2.1 ≠ (TX7 b).2.1 := by decide +kernel
theorem tyX7_ok : ∀ k, k < 9 → parseFieldDescriptor (TX7 k).2.2.1 = some (tyX7 k) := by decide +kernel
abbrev cX7_init : ByteArray := prog_1_method_1_code
def yX7_init : MethodName := ⟨RX7, "<init>", "()V"⟩
abbrev cX7_type : ByteArray := prog_1_method_2_code
def yX7_type : MethodName := ⟨RX7, "type", "(I)I"⟩
abbrev cX7_clear : ByteArray := prog_1_method_3_code
def yX7_clear : MethodName := ⟨RX7, "clear", "()I"⟩
abbrev cX7_adds : ByteArray := prog_1_method_4_code
def yX7_adds : MethodName := ⟨RX7, "adds", "()I"⟩
abbrev cX7_drops : ByteArray := prog_1_method_5_code
def yX7_drops : MethodName := ⟨RX7, "drops", "(I)I"⟩
abbrev cX7_feeds : ByteArray := prog_1_method_6_code
def yX7_feeds : MethodName := ⟨RX7, "feeds", "(I)I"⟩
abbrev cX7_cuts : ByteArray := prog_1_method_7_code
def yX7_cuts : MethodName := ⟨RX7, "cuts", "()I"⟩
abbrev cX7_undo : ByteArray := prog_1_method_8_code
def yX7_undo : MethodName := ⟨RX7, "undo", "()I"⟩
abbrev cX7_query : ByteArray := prog_1_method_9_code
def yX7_query : MethodName := ⟨RX7, "query", "(II)I"⟩
abbrev cX7_part : ByteArray := prog_1_method_10_code
def yX7_part : MethodName := ⟨RX7, "part", "(III)I"⟩
abbrev cX7_shortest : ByteArray := prog_1_method_11_code
def yX7_shortest : MethodName := ⟨RX7, "shortest", "(II)I"⟩
abbrev cX7_more : ByteArray := prog_1_method_12_code
def yX7_more : MethodName := ⟨RX7, "more", "(I)I"⟩
abbrev cX7_many : ByteArray := prog_1_method_13_code
def yX7_many : MethodName := ⟨RX7, "many", "(II)J"⟩
abbrev cX7_word : ByteArray := prog_1_method_14_code
def yX7_word : MethodName := ⟨RX7, "word", "(II)I"⟩
abbrev cX7_hit : ByteArray := prog_1_method_15_code
def yX7_hit : MethodName := ⟨RX7, "hit", "(II)I"⟩
abbrev cX7_node : ByteArray := prog_1_method_16_code
def yX7_node : MethodName := ⟨RX7, "node", "(II)I"⟩
abbrev cX7_next : ByteArray := prog_1_method_17_code
def yX7_next : MethodName := ⟨RX7, "next", "(II)I"⟩
abbrev cX7_letter : ByteArray := prog_1_method_18_code
def yX7_letter : MethodName := ⟨RX7, "letter", "(I)I"⟩
abbrev cX7_now : ByteArray := prog_1_method_19_code
def yX7_now : MethodName := ⟨RX7, "now", "(I)I"⟩
abbrev cX7_keep : ByteArray := prog_1_method_20_code
def yX7_keep : MethodName := ⟨RX7, "keep", "(I)I"⟩
abbrev cX7_back : ByteArray := prog_1_method_21_code
def yX7_back : MethodName := ⟨RX7, "back", "(I)I"⟩
abbrev cX7_count : ByteArray := prog_1_method_22_code
def yX7_count : MethodName := ⟨RX7, "count", "(I)I"⟩
abbrev cX7_isQuery : ByteArray := prog_1_method_23_code
def yX7_isQuery : MethodName := ⟨RX7, "isQuery", "(I)Z"⟩
abbrev cX7_isWord : ByteArray := prog_1_method_24_code
def yX7_isWord : MethodName := ⟨RX7, "isWord", "(I)Z"⟩
abbrev cX7_isNode : ByteArray := prog_1_method_25_code
def yX7_isNode : MethodName := ⟨RX7, "isNode", "(I)Z"⟩
abbrev cX7_isLetter : ByteArray := prog_1_method_26_code
def yX7_isLetter : MethodName := ⟨RX7, "isLetter", "(I)Z"⟩
abbrev cX7_rebuild : ByteArray := prog_1_method_27_code
def yX7_rebuild : MethodName := ⟨RX7, "rebuild", "()V"⟩
abbrev cX7_walk : ByteArray := prog_1_method_28_code
def yX7_walk : MethodName := ⟨RX7, "walk", "()V"⟩
abbrev cX7_hitsOf : ByteArray := prog_1_method_29_code
def yX7_hitsOf : MethodName := ⟨RX7, "hitsOf", "(I)J"⟩
abbrev cX7_placeOfBit : ByteArray := prog_1_method_30_code
def yX7_placeOfBit : MethodName := ⟨RX7, "placeOfBit", "(JI)I"⟩
abbrev cX7_allHits : ByteArray := prog_1_method_31_code
def yX7_allHits : MethodName := ⟨RX7, "allHits", "()I"⟩
abbrev cX7_holds : ByteArray := prog_1_method_32_code
def yX7_holds : MethodName := ⟨RX7, "holds", "(II)Z"⟩
abbrev cX7_isNear : ByteArray := prog_1_method_33_code
def yX7_isNear : MethodName := ⟨RX7, "isNear", "(JJI)Z"⟩
abbrev cX7_matches : ByteArray := prog_1_method_34_code
def yX7_matches : MethodName := ⟨RX7, "matches", "(II)Z"⟩
abbrev cX7_matching : ByteArray := prog_1_method_35_code
def yX7_matching : MethodName := ⟨RX7, "matching", "(I)I"⟩
abbrev cX7_withoutLast : ByteArray := prog_1_method_36_code
def yX7_withoutLast : MethodName := ⟨RX7, "withoutLast", "()I"⟩
abbrev cX7_since : ByteArray := prog_1_method_37_code
def yX7_since : MethodName := ⟨RX7, "since", "(I)I"⟩
abbrev cX7_keyOf : ByteArray := prog_1_method_38_code
def yX7_keyOf : MethodName := ⟨RX7, "keyOf", "(I)I"⟩
abbrev cX7_isBetterKey : ByteArray := prog_1_method_39_code
def yX7_isBetterKey : MethodName := ⟨RX7, "isBetterKey", "(II)Z"⟩
abbrev cX7_isAsked : ByteArray := prog_1_method_40_code
def yX7_isAsked : MethodName := ⟨RX7, "isAsked", "(I)Z"⟩
abbrev cX7_asked : ByteArray := prog_1_method_41_code
def yX7_asked : MethodName := ⟨RX7, "asked", "()I"⟩
abbrev cX7_searchFor : ByteArray := prog_1_method_42_code
def yX7_searchFor : MethodName := ⟨RX7, "searchFor", "(I)LStandingQueries$Search;"⟩
def RX8 : String := "StandingQueriesModel"
def TX8 : u_T := fun k => match k with
  | 0 => ("StandingQueriesModel", "thrown", "I", false)
  | 1 => ("StandingQueriesModel", "text", "[I", true)
  | 2 => ("StandingQueriesModel", "typed", "I", false)
  | 3 => ("StandingQueriesModel", "cursor", "I", false)
  | 4 => ("StandingQueriesModel", "start", "I", false)
  | 5 => ("StandingQueriesModel", "token", "I", false)
  | 6 => ("StandingQueriesModel", "value", "I", false)
  | 7 => ("StandingQueriesModel", "size", "I", false)
  | 8 => ("StandingQueriesModel", "now", "[I", true)
  | 9 => ("StandingQueriesModel", "fresh", "[I", true)
  | 10 => ("StandingQueriesModel", "was", "[I", true)
  | 11 => ("StandingQueriesModel", "acts", "I", false)
  | 12 => ("StandingQueriesModel", "isKept", "[Z", true)
  | 13 => ("StandingQueriesModel", "kept", "[I", true)
  | 14 => ("StandingQueriesModel", "words", "[I", true)
  | 15 => ("StandingQueriesModel", "wordMany", "I", false)
  | 16 => ("StandingQueriesModel", "nodes", "[I", true)
  | 17 => ("StandingQueriesModel", "nodeMany", "I", false)
  | 18 => ("StandingQueriesModel", "fails", "[I", true)
  | 19 => ("StandingQueriesModel", "ends", "[I", true)
  | 20 => ("StandingQueriesModel", "nexts", "[I", true)
  | 21 => ("StandingQueriesModel", "ended", "[I", true)
  | 22 => ("StandingQueriesModel", "lacks", "I", false)
  | 23 => ("StandingQueriesModel", "due", "I", false)
  | 24 => ("StandingQueriesModel", "nearPart", "I", false)
  | 25 => ("StandingQueriesModel", "nearWord", "I", false)
  | 26 => ("StandingQueriesModel", "nearOther", "I", false)
  | 27 => ("StandingQueriesModel", "nearBy", "I", false)
  | 28 => ("StandingQueriesModel", "queue", "[J", true)
  | 29 => ("StandingQueriesModel", "came", "[J", true)
  | _ => ("StandingQueriesModel", "depth", "I", false)
def tyX8 : Nat → FieldType := fun k => match k with
  | 0 => .int
  | 1 => .array .int
  | 2 => .int
  | 3 => .int
  | 4 => .int
  | 5 => .int
  | 6 => .int
  | 7 => .int
  | 8 => .array .int
  | 9 => .array .int
  | 10 => .array .int
  | 11 => .int
  | 12 => .array .boolean
  | 13 => .array .int
  | 14 => .array .int
  | 15 => .int
  | 16 => .array .int
  | 17 => .int
  | 18 => .array .int
  | 19 => .array .int
  | 20 => .array .int
  | 21 => .array .int
  | 22 => .int
  | 23 => .int
  | 24 => .int
  | 25 => .int
  | 26 => .int
  | 27 => .int
  | 28 => .array .long
  | 29 => .array .long
  | _ => .int
theorem nmX8 : ∀ a, a < 31 → ∀ b, b < 31 → a ≠ b → (TX8 a).2.1 ≠ (TX8 b).2.1 := by decide +kernel
theorem tyX8_ok : ∀ k, k < 31 → parseFieldDescriptor (TX8 k).2.2.1 = some (tyX8 k) := by decide +kernel
abbrev cX8_in : ByteArray := prog_10_method_1_code
def yX8_in : MethodName := ⟨RX8, "in", "(JJJ)Z"⟩
abbrev cX8_type : ByteArray := prog_10_method_2_code
def yX8_type : MethodName := ⟨RX8, "type", "(I)I"⟩
abbrev cX8_clear : ByteArray := prog_10_method_3_code
def yX8_clear : MethodName := ⟨RX8, "clear", "()I"⟩
abbrev cX8_byteAt : ByteArray := prog_10_method_4_code
def yX8_byteAt : MethodName := ⟨RX8, "byteAt", "(I)I"⟩
abbrev cX8_step : ByteArray := prog_10_method_5_code
def yX8_step : MethodName := ⟨RX8, "step", "()V"⟩
abbrev cX8_isName : ByteArray := prog_10_method_6_code
def yX8_isName : MethodName := ⟨RX8, "isName", "(I)Z"⟩
abbrev cX8_parts : ByteArray := prog_10_method_7_code
def yX8_parts : MethodName := ⟨RX8, "parts", "([II)I"⟩
abbrev cX8_of : ByteArray := prog_10_method_8_code
def yX8_of : MethodName := ⟨RX8, "of", "([IIII)I"⟩
abbrev cX8_copyAll : ByteArray := prog_10_method_9_code
def yX8_copyAll : MethodName := ⟨RX8, "copyAll", "([I[I)V"⟩
abbrev cX8_order : ByteArray := prog_10_method_10_code
def yX8_order : MethodName := ⟨RX8, "order", "(II)I"⟩
abbrev cX8_letterOf : ByteArray := prog_10_method_11_code
def yX8_letterOf : MethodName := ⟨RX8, "letterOf", "(II)I"⟩
abbrev cX8_addWord : ByteArray := prog_10_method_12_code
def yX8_addWord : MethodName := ⟨RX8, "addWord", "(I)V"⟩
abbrev cX8_layWords : ByteArray := prog_10_method_13_code
def yX8_layWords : MethodName := ⟨RX8, "layWords", "([I)V"⟩
abbrev cX8_numberOf : ByteArray := prog_10_method_14_code
def yX8_numberOf : MethodName := ⟨RX8, "numberOf", "(I)I"⟩
abbrev cX8_nodeOf : ByteArray := prog_10_method_15_code
def yX8_nodeOf : MethodName := ⟨RX8, "nodeOf", "(I)I"⟩
abbrev cX8_firsts : ByteArray := prog_10_method_16_code
def yX8_firsts : MethodName := ⟨RX8, "firsts", "(II)I"⟩
abbrev cX8_lasts : ByteArray := prog_10_method_17_code
def yX8_lasts : MethodName := ⟨RX8, "lasts", "(II)I"⟩
abbrev cX8_withLetter : ByteArray := prog_10_method_18_code
def yX8_withLetter : MethodName := ⟨RX8, "withLetter", "(II)I"⟩
abbrev cX8_addNode : ByteArray := prog_10_method_19_code
def yX8_addNode : MethodName := ⟨RX8, "addNode", "(I)V"⟩
abbrev cX8_longest : ByteArray := prog_10_method_20_code
def yX8_longest : MethodName := ⟨RX8, "longest", "(II)I"⟩
abbrev cX8_make : ByteArray := prog_10_method_21_code
def yX8_make : MethodName := ⟨RX8, "make", "()V"⟩
abbrev cX8_init : ByteArray := prog_10_method_22_code
def yX8_init : MethodName := ⟨RX8, "<init>", "()V"⟩
abbrev cX8_readWord : ByteArray := prog_10_method_23_code
def yX8_readWord : MethodName := ⟨RX8, "readWord", "()I"⟩
abbrev cX8_readPart : ByteArray := prog_10_method_24_code
def yX8_readPart : MethodName := ⟨RX8, "readPart", "(I)Z"⟩
abbrev cX8_hasNear : ByteArray := prog_10_method_25_code
def yX8_hasNear : MethodName := ⟨RX8, "hasNear", "(I)Z"⟩
abbrev cX8_isWhole : ByteArray := prog_10_method_26_code
def yX8_isWhole : MethodName := ⟨RX8, "isWhole", "()Z"⟩
abbrev cX8_readItem : ByteArray := prog_10_method_27_code
def yX8_readItem : MethodName := ⟨RX8, "readItem", "()Z"⟩
abbrev cX8_adds : ByteArray := prog_10_method_28_code
def yX8_adds : MethodName := ⟨RX8, "adds", "()I"⟩
abbrev cX8_keepAct : ByteArray := prog_10_method_29_code
def yX8_keepAct : MethodName := ⟨RX8, "keepAct", "()V"⟩
abbrev cX8_isQuery : ByteArray := prog_10_method_30_code
def yX8_isQuery : MethodName := ⟨RX8, "isQuery", "(I)Z"⟩
abbrev cX8_drops : ByteArray := prog_10_method_31_code
def yX8_drops : MethodName := ⟨RX8, "drops", "(I)I"⟩
abbrev cX8_feeds : ByteArray := prog_10_method_32_code
def yX8_feeds : MethodName := ⟨RX8, "feeds", "(I)I"⟩
abbrev cX8_cuts : ByteArray := prog_10_method_33_code
def yX8_cuts : MethodName := ⟨RX8, "cuts", "()I"⟩
abbrev cX8_undo : ByteArray := prog_10_method_34_code
def yX8_undo : MethodName := ⟨RX8, "undo", "()I"⟩
abbrev cX8_nodeAt : ByteArray := prog_10_method_35_code
def yX8_nodeAt : MethodName := ⟨RX8, "nodeAt", "(I)I"⟩
abbrev cX8_has : ByteArray := prog_10_method_36_code
def yX8_has : MethodName := ⟨RX8, "has", "(II)Z"⟩
abbrev cX8_layEnds : ByteArray := prog_10_method_37_code
def yX8_layEnds : MethodName := ⟨RX8, "layEnds", "()V"⟩
abbrev cX8_hits : ByteArray := prog_10_method_38_code
def yX8_hits : MethodName := ⟨RX8, "hits", "(II)I"⟩
abbrev cX8_holds : ByteArray := prog_10_method_39_code
def yX8_holds : MethodName := ⟨RX8, "holds", "(III)Z"⟩
abbrev cX8_matches : ByteArray := prog_10_method_40_code
def yX8_matches : MethodName := ⟨RX8, "matches", "(II)Z"⟩
abbrev cX8_since : ByteArray := prog_10_method_41_code
def yX8_since : MethodName := ⟨RX8, "since", "(I)I"⟩
abbrev cX8_key : ByteArray := prog_10_method_42_code
def yX8_key : MethodName := ⟨RX8, "key", "(I)I"⟩
abbrev cX8_isAsked : ByteArray := prog_10_method_43_code
def yX8_isAsked : MethodName := ⟨RX8, "isAsked", "(I)Z"⟩
abbrev cX8_query : ByteArray := prog_10_method_44_code
def yX8_query : MethodName := ⟨RX8, "query", "(II)I"⟩
abbrev cX8_part : ByteArray := prog_10_method_45_code
def yX8_part : MethodName := ⟨RX8, "part", "(III)I"⟩
abbrev cX8_takes : ByteArray := prog_10_method_46_code
def yX8_takes : MethodName := ⟨RX8, "takes", "(I)V"⟩
abbrev cX8_stateOf : ByteArray := prog_10_method_47_code
def yX8_stateOf : MethodName := ⟨RX8, "stateOf", "(III)I"⟩
abbrev cX8_begins : ByteArray := prog_10_method_48_code
def yX8_begins : MethodName := ⟨RX8, "begins", "()I"⟩
abbrev cX8_isDone : ByteArray := prog_10_method_49_code
def yX8_isDone : MethodName := ⟨RX8, "isDone", "(I)Z"⟩
abbrev cX8_behind : ByteArray := prog_10_method_50_code
def yX8_behind : MethodName := ⟨RX8, "behind", "(III)I"⟩
abbrev cX8_nearest : ByteArray := prog_10_method_51_code
def yX8_nearest : MethodName := ⟨RX8, "nearest", "(II)I"⟩
abbrev cX8_shortest : ByteArray := prog_10_method_52_code
def yX8_shortest : MethodName := ⟨RX8, "shortest", "(II)I"⟩
abbrev cX8_more : ByteArray := prog_10_method_53_code
def yX8_more : MethodName := ⟨RX8, "more", "(I)I"⟩
abbrev cX8_many : ByteArray := prog_10_method_54_code
def yX8_many : MethodName := ⟨RX8, "many", "(II)J"⟩
abbrev cX8_word : ByteArray := prog_10_method_55_code
def yX8_word : MethodName := ⟨RX8, "word", "(II)I"⟩
abbrev cX8_hit : ByteArray := prog_10_method_56_code
def yX8_hit : MethodName := ⟨RX8, "hit", "(II)I"⟩
abbrev cX8_node : ByteArray := prog_10_method_57_code
def yX8_node : MethodName := ⟨RX8, "node", "(II)I"⟩
abbrev cX8_next : ByteArray := prog_10_method_58_code
def yX8_next : MethodName := ⟨RX8, "next", "(II)I"⟩
abbrev cX8_letter : ByteArray := prog_10_method_59_code
def yX8_letter : MethodName := ⟨RX8, "letter", "(I)I"⟩
abbrev cX8_allHits : ByteArray := prog_10_method_60_code
def yX8_allHits : MethodName := ⟨RX8, "allHits", "()I"⟩
abbrev cX8_now : ByteArray := prog_10_method_61_code
def yX8_now : MethodName := ⟨RX8, "now", "(I)I"⟩
abbrev cX8_keep : ByteArray := prog_10_method_62_code
def yX8_keep : MethodName := ⟨RX8, "keep", "(I)I"⟩
abbrev cX8_back : ByteArray := prog_10_method_63_code
def yX8_back : MethodName := ⟨RX8, "back", "(I)I"⟩
abbrev cX8_count : ByteArray := prog_10_method_64_code
def yX8_count : MethodName := ⟨RX8, "count", "(I)I"⟩
def RJ13 : String := "java/lang/Long"
def TJ13 : u_T := fun k => match k with
  | _ => ("", "", "", false)
def tyJ13 : Nat → FieldType := fun k => match k with
  | _ => .int
abbrev cJ13_bitCount_95d88 : ByteArray := prog_11_method_50_code
def yJ13_bitCount_95d88 : MethodName := ⟨RJ13, "bitCount", "(J)I"⟩
def RJ9 : String := "java/lang/Math"
def TJ9 : u_T := fun k => match k with
  | _ => ("", "", "", false)
def tyJ9 : Nat → FieldType := fun k => match k with
  | _ => .int
abbrev cJ9_max_7cf53 : ByteArray := prog_12_method_65_code
def yJ9_max_7cf53 : MethodName := ⟨RJ9, "max", "(II)I"⟩
abbrev cJ9_min_7cf53 : ByteArray := prog_12_method_69_code
def yJ9_min_7cf53 : MethodName := ⟨RJ9, "min", "(II)I"⟩
def RJ10 : String := "java/lang/System"
def TJ10 : u_T := fun k => match k with
  | _ => ("", "", "", false)
def tyJ10 : Nat → FieldType := fun k => match k with
  | _ => .int
def RJ7 : String := "java/util/Arrays"
def TJ7 : u_T := fun k => match k with
  | _ => ("", "", "", false)
def tyJ7 : Nat → FieldType := fun k => match k with
  | _ => .int
abbrev cJ7_fill_d0a16 : ByteArray := prog_14_method_101_code
def yJ7_fill_d0a16 : MethodName := ⟨RJ7, "fill", "([JJ)V"⟩
abbrev cJ7_fill_53178 : ByteArray := prog_14_method_103_code
def yJ7_fill_53178 : MethodName := ⟨RJ7, "fill", "([II)V"⟩
def RL : String := "StandingQueriesLaw"
abbrev cL_law : ByteArray := code
def yL_law : MethodName := ⟨RL, "law", "([I)Z"⟩
abbrev vwCl : List vw_C := [(RX0, TX0, 8), (RX1, TX1, 8), (RX2, TX2, 3), (RX4, TX4, 13), (RX5, TX5, 8), (RX6, TX6, 2), (RX7, TX7, 9), (RX8, TX8, 31)]
end
section
/-! the abstract memory: ints, longs, references by place and slot; the shapes of the cells in the order in which they came -/
abbrev Wd : Type := (Nat → Nat → Int32) × (Nat → Nat → Int64) × (Nat → Nat → Option Nat) × List (Nat × Nat)
abbrev Mo (α : Type) : Type := Wd → Option (α × Wd)
def mp {α : Type} (a : α) : Mo α := fun w => some (a, w)
def mz {α : Type} : Mo α := fun _ => none
def mb {α β : Type} (x : Mo α) (f : α → Mo β) : Mo β := fun w => match x w with
  | none => none
  | some (a, w') => f a w'
def u2 {α : Type} (f : Nat → Nat → α) (p k : Nat) (v : α) : Nat → Nat → α := fun q j => if q = p ∧ j = k then v else f q j
def uA {α : Type} (f : Nat → Nat → α) (p : Nat) (g : Nat → α) : Nat → Nat → α := fun q j => if q = p then g j else f q j
/-- how many fields a class has, by its number -/
def nf (ci : Nat) : Nat := match ci with
  | 0 => 8
  | 1 => 8
  | 2 => 3
  | 3 => 13
  | 4 => 8
  | 5 => 2
  | 6 => 9
  | _ => 31
abbrev wS (w : Wd) : List (Nat × Nat) := w.2.2.2
def cnt (w : Wd) : Nat := (wS w).length
def slt (w : Wd) : Nat := ((wS w).map (fun q => q.2)).sum
def isO (w : Wd) (ci p : Nat) : Prop := (wS w)[p]? = some (ci, nf ci)
/-- an array's length, by its kind: 100 ints, 101 longs, 102 booleans, 103 references -/
def alen (w : Wd) (kd p : Nat) : Nat := match (wS w)[p]? with
  | none => 0
  | some q => if q.1 = kd then q.2 else 0
def inr (i : Int32) (n : Nat) : Prop := ¬ i < 0 ∧ i.toNatClampNeg < n
def gI (ci k p : Nat) : Mo Int32 := fun w => if (wS w)[p]? = some (ci, nf ci) then some (w.1 p k, w) else none
def gR (ci k p : Nat) : Mo Nat := fun w => if (wS w)[p]? = some (ci, nf ci) then (match w.2.2.1 p k with
  | none => none
  | some q => some (q, w)) else none
def gQ (ci k p : Nat) : Mo (Option Nat) := fun w => if (wS w)[p]? = some (ci, nf ci) then some (w.2.2.1 p k, w) else none
def sI (ci k p : Nat) (v : Int32) : Mo Unit := fun w => if (wS w)[p]? = some (ci, nf ci) then some ((), (u2 w.1 p k v, w.2)) else none
def sR (ci k p q : Nat) : Mo Unit := fun w => if (wS w)[p]? = some (ci, nf ci) then some ((), (w.1, w.2.1, u2 w.2.2.1 p k (some q), w.2.2.2)) else none
def aI (p : Nat) (i : Int32) : Mo Int32 := fun w => if ¬ i < 0 ∧ i.toNatClampNeg < alen w 100 p then some (w.1 p i.toNatClampNeg, w) else none
def aZ (p : Nat) (i : Int32) : Mo Int32 := fun w => if ¬ i < 0 ∧ i.toNatClampNeg < alen w 102 p then some (w.1 p i.toNatClampNeg, w) else none
def aJ (p : Nat) (i : Int32) : Mo Int64 := fun w => if ¬ i < 0 ∧ i.toNatClampNeg < alen w 101 p then some (w.2.1 p i.toNatClampNeg, w) else none
def aQ (p : Nat) (i : Int32) : Mo (Option Nat) := fun w => if ¬ i < 0 ∧ i.toNatClampNeg < alen w 103 p then some (w.2.2.1 p i.toNatClampNeg, w) else none
def tI (p : Nat) (i v : Int32) : Mo Unit := fun w => if ¬ i < 0 ∧ i.toNatClampNeg < alen w 100 p then some ((), (u2 w.1 p i.toNatClampNeg v, w.2)) else none
def tZ (p : Nat) (i v : Int32) : Mo Unit := fun w => if (¬ i < 0 ∧ i.toNatClampNeg < alen w 102 p) ∧ (v = 0 ∨ v = 1) then some ((), (u2 w.1 p i.toNatClampNeg v, w.2)) else none
def tJ (p : Nat) (i : Int32) (v : Int64) : Mo Unit := fun w => if ¬ i < 0 ∧ i.toNatClampNeg < alen w 101 p then some ((), (w.1, u2 w.2.1 p i.toNatClampNeg v, w.2.2)) else none
def tQ (p : Nat) (i : Int32) (q : Nat) : Mo Unit := fun w => if (¬ i < 0 ∧ i.toNatClampNeg < alen w 103 p) ∧ (wS w)[q]? = some (1, nf 1) then some ((), (w.1, w.2.1, u2 w.2.2.1 p i.toNatClampNeg (some q), w.2.2.2)) else none
/-- an array's length, of a kind that the caller knows -/
def aL (kd p : Nat) : Mo Int32 := fun w => match (wS w)[p]? with
  | none => none
  | some q => if q.1 = kd then some (Int32.ofNat q.2, w) else none
def wNew (w : Wd) (q : Nat × Nat) : Wd := (uA w.1 (cnt w) (fun _ => 0), uA w.2.1 (cnt w) (fun _ => 0), uA w.2.2.1 (cnt w) (fun _ => none), w.2.2.2 ++ [q])
def nO (ci : Nat) : Mo Nat := fun w => some (cnt w, wNew w (ci, nf ci))
def nA (kd : Nat) (n : Int32) : Mo Nat := fun w => if ¬ n < 0 ∧ n.toNatClampNeg ≤ 60000 then some (cnt w, wNew w (kd, n.toNatClampNeg)) else none
/-- System.arraycopy over ints -/
def cpI (src : Nat) (sp : Int32) (dst : Nat) (dp n : Int32) : Mo Unit := fun w =>
  if (¬ sp < 0 ∧ ¬ dp < 0 ∧ ¬ n < 0) ∧ (0 < alen w 100 src ∧ 0 < alen w 100 dst) ∧ sp.toNatClampNeg + n.toNatClampNeg ≤ alen w 100 src ∧ dp.toNatClampNeg + n.toNatClampNeg ≤ alen w 100 dst then
    some ((), (uA w.1 dst (va_cpy (w.1 src) (w.1 dst) sp.toNatClampNeg dp.toNatClampNeg n.toNatClampNeg), w.2)) else none
/-- a call of an object's method: the object is there -/
def vc {α : Type} (ci p : Nat) (f : Mo α) : Mo α := fun w => if (wS w)[p]? = some (ci, nf ci) then f w else none
/-- an answer true or false -/
def rZ (v : Int32) : Mo Int32 := fun w => if v = 0 ∨ v = 1 then some (v, w) else none
def FU : Nat := 100000
/-- which field is a reference -/
def rk (ci k : Nat) : Bool := match ci, k with
  | 0, 0 => false
  | 0, _ => true
  | 1, 0 => false
  | 1, 1 => false
  | 1, _ => true
  | 2, 0 => true
  | 2, _ => false
  | 3, 0 => true
  | 3, 1 => true
  | 3, 2 => true
  | 3, 3 => true
  | 3, 4 => true
  | 3, 5 => true
  | 3, 6 => true
  | 3, _ => false
  | 4, 0 => true
  | 4, 2 => true
  | 4, 3 => true
  | 4, _ => false
  | 5, 0 => true
  | 5, _ => false
  | 6, 7 => false
  | 6, _ => true
  | 7, 1 => true
  | 7, 8 => true
  | 7, 9 => true
  | 7, 10 => true
  | 7, 12 => true
  | 7, 13 => true
  | 7, 14 => true
  | 7, 16 => true
  | 7, 18 => true
  | 7, 19 => true
  | 7, 20 => true
  | 7, 21 => true
  | 7, 28 => true
  | 7, 29 => true
  | _, _ => false
/-- loops: a body, over its own rest -/
def lp {σ α : Type} (F : (σ → Mo α) → σ → Mo α) : Nat → σ → Mo α
  | 0, _ => mz
  | n + 1, s => F (lp F n) s
end
section
/-! ===== the words that every method has; the context; the judgement 'Cmp': the bytecode from here on does what a computation over the abstract memory says ===== -/
def TB : List Cond := lw_tbl.filter goodWord
theorem tb_mem {w : Cond} (i : Nat) (h : lw_tbl[i]? = some w) (hg : goodWord w = true) : w ∈ TB := List.mem_filter.mpr ⟨List.mem_of_getElem? h, hg⟩
theorem tb_good : ∀ w ∈ TB, (w.onTables && w.keeps) = true ∨ ∃ ty, w = .arrayClass ty := fun _ h => good_of_word (List.mem_filter.mp h).2
def isNest : Cond → Bool
  | .methodLinkNest .. => true
  | _ => false
def NW : List Cond := lw_tbl.filter isNest
theorem nw_mem {w : Cond} (i : Nat) (h : lw_tbl[i]? = some w) (hg : isNest w = true) : w ∈ NW := List.mem_filter.mpr ⟨List.mem_of_getElem? h, hg⟩
/-- the launch, the classes' numbers and slots, the classes of int[], long[], boolean[], Held[], the first address -/
abbrev KX : Type := Launch × va_G × ClassId × ClassId × ClassId × ClassId × Nat
abbrev kL (C : KX) : Launch := C.1
abbrev kD (C : KX) : va_G := C.2.1
abbrev kI (C : KX) : ClassId := C.2.2.1
abbrev kJ (C : KX) : ClassId := C.2.2.2.1
abbrev kZ (C : KX) : ClassId := C.2.2.2.2.1
abbrev kH (C : KX) : ClassId := C.2.2.2.2.2.1
abbrev kB (C : KX) : Nat := C.2.2.2.2.2.2
def kT (C : KX) : List (ClassId × FieldType) := [(kI C, .int), (kJ C, .long), (kZ C, .boolean), (kH C, .object RX1)]
def KK (C : KX) (U : State) : Prop := va_K (kD C) vwCl (kT C) U ∧ va_AO RX1 U ∧ ∀ w ∈ NW, va_Nw w U
theorem KK.warm {C : KX} {s U : State} (hW : s.WarmedH U.vm) (h : KK C s) : KK C U := by
  refine ⟨va_K.moved hW.alike h.1, va_AO.moved hW.alike h.2.1, fun w hw => ?_⟩
  have h1 := h.2.2 w hw
  have h2 := (List.mem_filter.mp hw).2
  revert h1 h2
  cases w <;> intro h1 h2 <;> first | exact va_Nw.warmM hW h1 | (simp [isNest] at h2)
theorem KK.calling {C : KX} {U : State} (g : JFrame) (mk : MethodId) (a : Array Value) (h : KK C U) : KK C (U.calling g mk a) := by
  refine ⟨va_K.moved (u := U) (U := U.calling g mk a) (Vm.Alike.refl U.vm) h.1, va_AO.moved (u := U) (U := U.calling g mk a) (Vm.Alike.refl U.vm) h.2.1, fun w hw => ?_⟩
  have h1 := h.2.2 w hw
  have h2 := (List.mem_filter.mp hw).2
  revert h1 h2
  cases w <;> intro h1 h2 <;> first | exact va_Nw.same (u := U) (U := U.calling g mk a) rfl rfl h1 | (simp [isNest] at h2)
def rfv (b : Nat) (r : Option Nat) : Value := va_rf (r.map (fun q => b + q))
def fv (C : KX) (w : Wd) (p ci k : Nat) : Value := if rk ci k = true then rfv (kB C) (w.2.2.1 p k) else .int (w.1 p k)
def Hat (C : KX) (w : Wd) (p : Nat) (q : Nat × Nat) (H : Heap) : Prop :=
  if q.1 = 100 then H[kB C + p]? = some (vp_cell (kI C) (q.2, .inl (w.1 p)))
  else if q.1 = 101 then H[kB C + p]? = some (vp_cell (kJ C) (q.2, .inr (.inl (w.2.1 p))))
  else if q.1 = 102 then H[kB C + p]? = some (vp_cell (kZ C) (q.2, .inl (w.1 p)))
  else if q.1 = 103 then H[kB C + p]? = some (vp_cell (kH C) (q.2, .inr (.inr (.inr (.inr (fun k => (w.2.2.1 p k).map (fun q => kB C + q)))))))
  else t_OB (kB C + p) ((kD C).1 q.1) q.2 ((kD C).2 q.1) H (fun k => fv C w p q.1 k)
def Hld (C : KX) (w : Wd) (H : Heap) : Prop := H.size = kB C + cnt w ∧ ∀ (p : Nat) (q : Nat × Nat), (wS w)[p]? = some q → Hat C w p q H
theorem Hat.kept {C : KX} {w w' : Wd} {p : Nat} {q : Nat × Nat} {H H1 : Heap} (h : Hat C w p q H) (hq : H1[kB C + p]? = H[kB C + p]?) (e1 : w'.1 p = w.1 p) (e2 : w'.2.1 p = w.2.1 p) (e3 : w'.2.2.1 p = w.2.2.1 p) : Hat C w' p q H1 := by
  unfold Hat at h ⊢
  by_cases c1 : q.1 = 100
  · rw [if_pos c1] at h ⊢; rw [hq, e1]; exact h
  · rw [if_neg c1] at h ⊢
    by_cases c2 : q.1 = 101
    · rw [if_pos c2] at h ⊢; rw [hq, e2]; exact h
    · rw [if_neg c2] at h ⊢
      by_cases c3 : q.1 = 102
      · rw [if_pos c3] at h ⊢; rw [hq, e1]; exact h
      · rw [if_neg c3] at h ⊢
        by_cases c4 : q.1 = 103
        · rw [if_pos c4] at h ⊢; rw [hq, e3]; exact h
        · rw [if_neg c4] at h ⊢
          refine (h.kept hq).to (fun k _ => ?_)
          unfold fv
          rw [e1, e3]
theorem Hld.lt {C : KX} {w : Wd} {H : Heap} (h : Hld C w H) {p : Nat} {q : Nat × Nat} (hp : (wS w)[p]? = some q) : kB C + p < H.size := by
  rw [h.1]
  have := (List.getElem?_eq_some_iff.mp hp).1
  unfold cnt
  omega
/-- one cell is written -/
theorem Hld.set {C : KX} {w w' : Wd} {H H1 : Heap} (h : Hld C w H) {p : Nat} {q : Nat × Nat} (hp : (wS w)[p]? = some q) (hS : wS w' = wS w) (hz : H1.size = H.size) (ho : ∀ a, a ≠ kB C + p → H1[a]? = H[a]?)
    (e1 : ∀ x, x ≠ p → w'.1 x = w.1 x) (e2 : ∀ x, x ≠ p → w'.2.1 x = w.2.1 x) (e3 : ∀ x, x ≠ p → w'.2.2.1 x = w.2.2.1 x) (hn : Hat C w' p q H1) : Hld C w' H1 := by
  refine ⟨by rw [hz, h.1]; unfold cnt; rw [hS], fun x y hx => ?_⟩
  rw [hS] at hx
  by_cases hxp : x = p
  · subst hxp
    cases hx.symm.trans hp
    exact hn
  · exact (h.2 x y hx).kept (ho _ (by omega)) (e1 x hxp) (e2 x hxp) (e3 x hxp)
/-- one cell comes -/
theorem Hld.push {C : KX} {w : Wd} {H H1 : Heap} {q : Nat × Nat} (h : Hld C w H) (hz : H1.size = H.size + 1) (ho : ∀ a, a < H.size → H1[a]? = H[a]?) (hn : Hat C (wNew w q) (cnt w) q H1) : Hld C (wNew w q) H1 := by
  refine ⟨?_, fun x y hx => ?_⟩
  · rw [hz, h.1]; unfold cnt wNew wS; simp; omega
  · have hx' : (wS w ++ [q])[x]? = some y := hx
    by_cases hl : x < (wS w).length
    · rw [List.getElem?_append_left hl] at hx'
      have hne : x ≠ cnt w := by unfold cnt; omega
      refine (h.2 x y hx').kept (ho _ (h.lt hx')) ?_ ?_ ?_
      · funext j; simp [wNew, uA, hne]
      · funext j; simp [wNew, uA, hne]
      · funext j; simp [wNew, uA, hne]
    · rw [List.getElem?_append_right (by omega)] at hx'
      have hz1 : x - (wS w).length < 1 := (List.getElem?_eq_some_iff.mp hx').1
      have hxe : x = cnt w := by unfold cnt; omega
      subst hxe
      rw [show cnt w - (wS w).length = 0 by unfold cnt; omega] at hx'
      cases hx'
      exact hn
/-- context, machine, environment, room, entry state, method, arguments, what lies below, the method's data and code, cells and slots at the entry -/
abbrev CX : Type := KX × Program × Env × Room × State × MethodId × Array Value × List Frame × Method × Code × Nat × Nat
abbrev xC (X : CX) : KX := X.1
abbrev xP (X : CX) : Program := X.2.1
abbrev xE (X : CX) : Env := X.2.2.1
abbrev xR (X : CX) : Room := X.2.2.2.1
abbrev xS (X : CX) : State := X.2.2.2.2.1
abbrev xM (X : CX) : MethodId := X.2.2.2.2.2.1
abbrev xA (X : CX) : Array Value := X.2.2.2.2.2.2.1
abbrev xB (X : CX) : List Frame := X.2.2.2.2.2.2.2.1
abbrev xT (X : CX) : Method := X.2.2.2.2.2.2.2.2.1
abbrev xO (X : CX) : Code := X.2.2.2.2.2.2.2.2.2.1
abbrev x0 (X : CX) : Nat := X.2.2.2.2.2.2.2.2.2.2.1
abbrev x1 (X : CX) : Nat := X.2.2.2.2.2.2.2.2.2.2.2
abbrev WX (X : CX) (H : Heap) (locs : List Loc) (cells slots : Nat) (Q : State → Prop) (g : JFrame) : Prop := W (xP X) (kL (xC X)) (xE X) (xR X) (xS X) (xM X) (xA X) (xB X) (xT X) (xO X) H locs cells slots Q g
def Stb (X : CX) (w : Wd) (H : Heap) (locs : List Loc) (cells slots : Nat) : Prop := Hld (xC X) w H ∧ (∀ q : Nat, q < kB (xC X) → H[q]? = (xS X).heap[q]?) ∧ (∀ q ∈ locs, kB (xC X) ≤ q.base) ∧ x0 X + cells = cnt w ∧ x1 X + slots = slt w
def Fit (X : CX) (w : Wd) : Prop := cnt w ≤ x0 X + (xR X).cells ∧ slt w ≤ x1 X + (xR X).slots
/-- a method: its code, class, locals, what it returns, its name, the frames and words below it -/
abbrev MD : Type := ByteArray × String × Nat × Option FieldType × String × Nat × Nat × (CX → Prop)
abbrev dC (D : MD) : ByteArray := D.1
abbrev dO (D : MD) : String := D.2.1
abbrev dN (D : MD) : Nat := D.2.2.1
abbrev dR (D : MD) : Option FieldType := D.2.2.2.1
abbrev dM (D : MD) : String := D.2.2.2.2.1
abbrev dF (D : MD) : Nat := D.2.2.2.2.2.1
abbrev dL (D : MD) : Nat := D.2.2.2.2.2.2.1
abbrev dE (D : MD) : CX → Prop := D.2.2.2.2.2.2.2
def eT (_ : CX) : Prop := True
def CGood (X : CX) (D : MD) : Prop :=
  (xP X).tables.exec = Jvm.exec ∧ (xO X).code = dC D ∧ (xT X).sig.returnType = dR D ∧ (xT X).locks = false ∧ (xO X).maxLocals = dN D ∧ (xS X).vm.findClass (dO D) = some (xM X).cls ∧ (∀ w ∈ TB, w.before (xA X) (xS X) = true) ∧ KK (xC X) (xS X) ∧ (xT X).name = dM D ∧ (xR X).frames = dF D ∧ (xR X).locals = dL D ∧ dE D X
abbrev ZT (α : Type) : Type := CX → α → Wd → State → Prop
def Cmp {α : Type} (C : KX) (D : MD) (Z : ZT α) (pc : Nat) (ls : List (Nat × Value)) (st : List Value) (m : Mo α) : Prop :=
  ∀ (w : Wd) (r : α) (w' : Wd), m w = some (r, w') → (cnt w ≤ cnt w' ∧ slt w ≤ slt w') ∧
    ∀ X : CX, CGood X D → xC X = C → Fit X w' → ∀ (H : Heap) (locs : List Loc) (lsA : Array Slot) (cells slots : Nat), Stb X w H locs cells slots → lv_has lsA (dN D) ls → WX X H locs cells slots (Z X r w') (F0 (xM X) pc lsA st)
def Qo (C : KX) (ro : Option Value) (w' : Wd) : Array Value → State → Outcome → State → Prop := fun _ st o t => o = .returned ro ∧ Hld C w' t.heap ∧ ∀ q : Nat, q < kB C → t.heap[q]? = st.heap[q]?
def QM {α : Type} (rv : α → Option Value) : ZT α := fun X r w' => MQ (xB X) (Qo (xC X) (rv r) w') (xA X) (xS X) (xR X).cells (xR X).slots (fun q => kB (xC X) ≤ q)
/-- the contract of a method: it does what a computation says, where that comes to an end -/
def Imp {α : Type} (C : KX) (y : MethodName) (cc : ByteArray) (maxL : Nat) (rt : Option FieldType) (F L : Nat) (rv : α → Option Value) (args : List Value) (f : Mo α) : Prop :=
  ∀ (w : Wd) (r : α) (w' : Wd), f w = some (r, w') → (cnt w ≤ cnt w' ∧ slt w ≤ slt w') ∧
    Met (kL C) y (Cond.code y cc maxL rt :: TB) ({ frames := F, cells := cnt w' - cnt w, slots := slt w' - slt w, locals := L }) (va_Pc args (fun U => KK C U ∧ Hld C w U.heap)) (Qo C (rv r) w') (cnt w' - cnt w) (slt w' - slt w) (fun q => kB C ≤ q)
theorem Imp.of {α : Type} {C : KX} {y : MethodName} {cc : ByteArray} {maxL : Nat} {rt : Option FieldType} {F L : Nat} {rv : α → Option Value} {args : List Value} {f : Mo α} (hy : plainName y.cls = true) (hla : (lg_sl args).length ≤ maxL) (ls : List (Nat × Value)) (hls : lv_args 0 args = ls)
    (body : Cmp C (cc, y.cls, maxL, rt, y.name, F, L, eT) (QM rv) 0 ls [] f) : Imp C y cc maxL rt F L rv args f := by
  intro w r w' hf
  obtain ⟨hmono, hbody⟩ := body w r w' hf
  refine ⟨hmono, ?_⟩
  refine Met.ofW (cc := cc) (maxL := maxL) (ret := rt) hy rfl ?_
  intro p e s m a below meth c s₁ B hml hv
  obtain ⟨rfl, hKK, hH⟩ := hv
  have hts := atoms_spec (ws := Cond.code y cc maxL rt :: TB) B.pre
  have hl := lv_entry args (n := maxL) hla
  rw [hls] at hl
  rw [lg_entry_eq]
  refine hbody (C, p, e, _, s, m, args.toArray, below, meth, c, cnt w, slt w) ⟨B.exec, B.bytes, B.returns, B.notSynchronized, hml, findClass_of_methodNamed B.named, fun w hw => hts w (List.mem_cons_of_mem _ hw), hKK, (name_of_methodNamed B.named B.method).1, rfl, rfl, trivial⟩ rfl ?_ s.heap [] _ 0 0 ⟨hH, fun _ _ => rfl, (fun _ h => absurd h List.not_mem_nil), rfl, rfl⟩ hl
  unfold Fit
  show cnt w' ≤ cnt w + (cnt w' - cnt w) ∧ slt w' ≤ slt w + (slt w' - slt w)
  omega
end
section
/-! ===== rules: instructions that touch locals and the operand stack alone ===== -/
section RulesA
variable {α : Type} {C : KX} {D : MD} {Z : ZT α} {pc pc' : Nat} {ls ls' : List (Nat × Value)} {st st' : List Value} {m A B : Mo α}
theorem C_pure (h : ∀ X : CX, CGood X D → ∀ (H : Heap) (locs : List Loc) (lsA : Array Slot) (cells slots : Nat) (Q : State → Prop), lv_has lsA (dN D) ls → (∀ lsB : Array Slot, lv_has lsB (dN D) ls' → WX X H locs cells slots Q (F0 (xM X) pc' lsB st')) → WX X H locs cells slots Q (F0 (xM X) pc lsA st)) (k : Cmp C D Z pc' ls' st' m) : Cmp C D Z pc ls st m := by
  intro w r w' hm
  obtain ⟨h1, h2⟩ := k w r w' hm
  refine ⟨h1, fun X G hC hF H locs lsA cells slots hS hl => ?_⟩
  exact h X G H locs lsA cells slots _ hl (fun lsB hB => h2 X G hC hF H locs lsB cells slots hS hB)
theorem C_sub (ks : List Nat) (hs : lv_pick ls ks = ls') (k : Cmp C D Z pc ls' st m) : Cmp C D Z pc ls st m :=
  C_pure (fun X G H locs lsA cells slots Q hl kk => kk lsA (lv_sub hl ks hs)) k
theorem C_mz : Cmp C D Z pc ls st mz := by
  intro w r w' hm
  cases hm
theorem C_ite {c : Prop} [Decidable c] (kt : Cmp C D Z pc ls st A) (kf : Cmp C D Z pc ls st B) : Cmp C D Z pc ls st (if c then A else B) := by
  by_cases hc : c
  · rw [if_pos hc]; exact kt
  · rw [if_neg hc]; exact kf

theorem C_iconst {n : Int} {v : Int32} (hd : decode (dC D) pc = .ok (.iconst n, 1)) (hp : pc + 1 = pc') (hv : Int32.ofInt n = v) (k : Cmp C D Z pc' ls (.int v :: st) m) : Cmp C D Z pc ls (st) m := by
  subst hp
  exact C_pure (fun X G H locs lsA cells slots Q hl kk => lv_iconst G.1 G.2.1 hd hv (kk lsA hl)) k

theorem C_bipush {n : Int} {v : Int32} (hd : decode (dC D) pc = .ok (.bipush n, 2)) (hp : pc + 2 = pc') (hv : (Int8.ofInt n).toInt32 = v) (k : Cmp C D Z pc' ls (.int v :: st) m) : Cmp C D Z pc ls (st) m := by
  subst hp
  exact C_pure (fun X G H locs lsA cells slots Q hl kk => lv_bipush G.1 G.2.1 hd hv (kk lsA hl)) k

theorem C_sipush {n : Int} {v : Int32} (hd : decode (dC D) pc = .ok (.sipush n, 3)) (hp : pc + 3 = pc') (hv : (Int16.ofInt n).toInt32 = v) (k : Cmp C D Z pc' ls (.int v :: st) m) : Cmp C D Z pc ls (st) m := by
  subst hp
  exact C_pure (fun X G H locs lsA cells slots Q hl kk => lv_sipush G.1 G.2.1 hd hv (kk lsA hl)) k

theorem C_lconst {n : Fin 2} {v : Int64} (hd : decode (dC D) pc = .ok (.lconst n, 1)) (hp : pc + 1 = pc') (hv : Int64.ofNat (n : Nat) = v) (k : Cmp C D Z pc' ls (.long v :: st) m) : Cmp C D Z pc ls (st) m := by
  subst hp
  exact C_pure (fun X G H locs lsA cells slots Q hl kk => lv_lconst G.1 G.2.1 hd hv (kk lsA hl)) k

theorem C_ldc {idx : Nat} {v : Int32} (hw : Cond.constant (dO D) idx v ∈ TB) (hd : decode (dC D) pc = .ok (.ldc idx, 2)) (hp : pc + 2 = pc') (k : Cmp C D Z pc' ls (.int v :: st) m) : Cmp C D Z pc ls st m := by
  subst hp
  exact C_pure (fun X G H locs lsA cells slots Q hl kk => lv_ldc G.1 G.2.1 G.2.2.2.2.2.1 (G.2.2.2.2.2.2.1 _ hw) hd (kk lsA hl)) k
theorem C_ldc2 {idx : Nat} {v : Int64} (hw : Cond.constantLong (dO D) idx v ∈ TB) (hd : decode (dC D) pc = .ok (.ldc2_w idx, 3)) (hp : pc + 3 = pc') (k : Cmp C D Z pc' ls (.long v :: st) m) : Cmp C D Z pc ls st m := by
  subst hp
  exact C_pure (fun X G H locs lsA cells slots Q hl kk => lv_ldc2 G.1 G.2.1 G.2.2.2.2.2.1 (G.2.2.2.2.2.2.1 _ hw) hd (kk lsA hl)) k

theorem C_iload_n {k : Fin 4} {x : Int32} (hd : decode (dC D) pc = .ok (.iload_n k, 1)) (hp : pc + 1 = pc') (j : Nat) (hj : ls[j]? = some ((k : Nat), .int x)) (kk : Cmp C D Z pc' ls (.int x :: st) m) : Cmp C D Z pc ls st m := by
  subst hp
  exact C_pure (fun X G H locs lsA cells slots Q hl kk => lv_iload_n G.1 G.2.1 hd rfl (lv_at hl j hj) (kk lsA hl)) kk
theorem C_iload {i : Nat} {x : Int32} (hd : decode (dC D) pc = .ok (.iload i, 2)) (hp : pc + 2 = pc') (j : Nat) (hj : ls[j]? = some (i, .int x)) (kk : Cmp C D Z pc' ls (.int x :: st) m) : Cmp C D Z pc ls st m := by
  subst hp
  exact C_pure (fun X G H locs lsA cells slots Q hl kk => lv_iload G.1 G.2.1 hd (lv_at hl j hj) (kk lsA hl)) kk

theorem C_istore_n {k : Fin 4} {i : Nat} {x : Int32} (hd : decode (dC D) pc = .ok (.istore_n k, 1)) (hp : pc + 1 = pc') (hi : (k : Nat) = i) (hb : i < dN D) (hs : (i, Value.int x) :: ls.filter (fun q => !(q.1 == i) && !(q.1 + 1 == i && q.2.category == 2)) = ls') (kk : Cmp C D Z pc' ls' st m) : Cmp C D Z pc ls (.int x :: st) m := by
  subst hp
  exact C_pure (fun X G H locs lsA cells slots Q hl kk => lv_istore_n G.1 G.2.1 hd hi hl hb hs (fun lsB hB => kk lsB hB)) kk
theorem C_istore {i : Nat} {x : Int32} (hd : decode (dC D) pc = .ok (.istore i, 2)) (hp : pc + 2 = pc') (hb : i < dN D) (hs : (i, Value.int x) :: ls.filter (fun q => !(q.1 == i) && !(q.1 + 1 == i && q.2.category == 2)) = ls') (kk : Cmp C D Z pc' ls' st m) : Cmp C D Z pc ls (.int x :: st) m := by
  subst hp
  exact C_pure (fun X G H locs lsA cells slots Q hl kk => lv_istore G.1 G.2.1 hd hl hb hs (fun lsB hB => kk lsB hB)) kk

theorem C_lload_n {k : Fin 4} {x : Int64} (hd : decode (dC D) pc = .ok (.lload_n k, 1)) (hp : pc + 1 = pc') (j : Nat) (hj : ls[j]? = some ((k : Nat), .long x)) (kk : Cmp C D Z pc' ls (.long x :: st) m) : Cmp C D Z pc ls st m := by
  subst hp
  exact C_pure (fun X G H locs lsA cells slots Q hl kk => lv_lload_n G.1 G.2.1 hd rfl (lv_at hl j hj) (kk lsA hl)) kk
theorem C_lload {i : Nat} {x : Int64} (hd : decode (dC D) pc = .ok (.lload i, 2)) (hp : pc + 2 = pc') (j : Nat) (hj : ls[j]? = some (i, .long x)) (kk : Cmp C D Z pc' ls (.long x :: st) m) : Cmp C D Z pc ls st m := by
  subst hp
  exact C_pure (fun X G H locs lsA cells slots Q hl kk => lv_lload G.1 G.2.1 hd (lv_at hl j hj) (kk lsA hl)) kk

theorem C_lstore_n {k : Fin 4} {i : Nat} {x : Int64} (hd : decode (dC D) pc = .ok (.lstore_n k, 1)) (hp : pc + 1 = pc') (hi : (k : Nat) = i) (hb : i + 1 < dN D) (hs : (i, Value.long x) :: ls.filter (fun q => !(q.1 == i) && (!(q.1 == i + 1) && !(q.1 + 1 == i && q.2.category == 2))) = ls') (kk : Cmp C D Z pc' ls' st m) : Cmp C D Z pc ls (.long x :: st) m := by
  subst hp
  exact C_pure (fun X G H locs lsA cells slots Q hl kk => lv_lstore_n G.1 G.2.1 hd hi hl hb hs (fun lsB hB => kk lsB hB)) kk
theorem C_lstore {i : Nat} {x : Int64} (hd : decode (dC D) pc = .ok (.lstore i, 2)) (hp : pc + 2 = pc') (hb : i + 1 < dN D) (hs : (i, Value.long x) :: ls.filter (fun q => !(q.1 == i) && (!(q.1 == i + 1) && !(q.1 + 1 == i && q.2.category == 2))) = ls') (kk : Cmp C D Z pc' ls' st m) : Cmp C D Z pc ls (.long x :: st) m := by
  subst hp
  exact C_pure (fun X G H locs lsA cells slots Q hl kk => lv_lstore G.1 G.2.1 hd hl hb hs (fun lsB hB => kk lsB hB)) kk

theorem C_aload_n {k : Fin 4} {x : Nat} (hd : decode (dC D) pc = .ok (.aload_n k, 1)) (hp : pc + 1 = pc') (j : Nat) (hj : ls[j]? = some ((k : Nat), .ref x)) (kk : Cmp C D Z pc' ls (.ref x :: st) m) : Cmp C D Z pc ls st m := by
  subst hp
  exact C_pure (fun X G H locs lsA cells slots Q hl kk => lv_aload_n G.1 G.2.1 hd rfl (lv_at hl j hj) (kk lsA hl)) kk
theorem C_aload {i : Nat} {x : Nat} (hd : decode (dC D) pc = .ok (.aload i, 2)) (hp : pc + 2 = pc') (j : Nat) (hj : ls[j]? = some (i, .ref x)) (kk : Cmp C D Z pc' ls (.ref x :: st) m) : Cmp C D Z pc ls st m := by
  subst hp
  exact C_pure (fun X G H locs lsA cells slots Q hl kk => lv_aload G.1 G.2.1 hd (lv_at hl j hj) (kk lsA hl)) kk

theorem C_astore_n {k : Fin 4} {i : Nat} {x : Nat} (hd : decode (dC D) pc = .ok (.astore_n k, 1)) (hp : pc + 1 = pc') (hi : (k : Nat) = i) (hb : i < dN D) (hs : (i, Value.ref x) :: ls.filter (fun q => !(q.1 == i) && !(q.1 + 1 == i && q.2.category == 2)) = ls') (kk : Cmp C D Z pc' ls' st m) : Cmp C D Z pc ls (.ref x :: st) m := by
  subst hp
  exact C_pure (fun X G H locs lsA cells slots Q hl kk => lv_astore_n G.1 G.2.1 hd hi hl hb hs (fun lsB hB => kk lsB hB)) kk
theorem C_astore {i : Nat} {x : Nat} (hd : decode (dC D) pc = .ok (.astore i, 2)) (hp : pc + 2 = pc') (hb : i < dN D) (hs : (i, Value.ref x) :: ls.filter (fun q => !(q.1 == i) && !(q.1 + 1 == i && q.2.category == 2)) = ls') (kk : Cmp C D Z pc' ls' st m) : Cmp C D Z pc ls (.ref x :: st) m := by
  subst hp
  exact C_pure (fun X G H locs lsA cells slots Q hl kk => lv_astore G.1 G.2.1 hd hl hb hs (fun lsB hB => kk lsB hB)) kk

theorem C_aload_nN {k : Fin 4} (hd : decode (dC D) pc = .ok (.aload_n k, 1)) (hp : pc + 1 = pc') (j : Nat) (hj : ls[j]? = some ((k : Nat), .null)) (kk : Cmp C D Z pc' ls (.null :: st) m) : Cmp C D Z pc ls st m := by
  subst hp
  exact C_pure (fun X G H locs lsA cells slots Q hl kk => lv_aload_nN G.1 G.2.1 hd rfl (lv_at hl j hj) (kk lsA hl)) kk
theorem C_astore_nN {k : Fin 4} {i : Nat} (hd : decode (dC D) pc = .ok (.astore_n k, 1)) (hp : pc + 1 = pc') (hi : (k : Nat) = i) (hb : i < dN D) (hs : (i, Value.null) :: ls.filter (fun q => !(q.1 == i) && !(q.1 + 1 == i && q.2.category == 2)) = ls') (kk : Cmp C D Z pc' ls' st m) : Cmp C D Z pc ls (.null :: st) m := by
  subst hp
  exact C_pure (fun X G H locs lsA cells slots Q hl kk => lv_astore_nN G.1 G.2.1 hd hi hl hb hs (fun lsB hB => kk lsB hB)) kk
theorem C_iinc {i j : Nat} {n : Int} {x v : Int32} (hd : decode (dC D) pc = .ok (.iinc i n, 3)) (hp : pc + 3 = pc') (hj : ls[j]? = some (i, .int x)) (hv : x + Int32.ofInt n = v) (hb : i < dN D) (hs : (i, Value.int v) :: ls.filter (fun q => !(q.1 == i) && !(q.1 + 1 == i && q.2.category == 2)) = ls') (kk : Cmp C D Z pc' ls' st m) : Cmp C D Z pc ls st m := by
  subst hp
  exact C_pure (fun X G H locs lsA cells slots Q hl kk => lv_iinc G.1 G.2.1 hd hl hj hv hb hs (fun lsB hB => kk lsB hB)) kk

theorem C_iadd {x y : Int32} (hd : decode (dC D) pc = .ok (.iadd, 1)) (hp : pc + 1 = pc') (k : Cmp C D Z pc' ls (.int (x + y) :: st) m) : Cmp C D Z pc ls (.int y :: .int x :: st) m := by
  subst hp
  exact C_pure (fun X G H locs lsA cells slots Q hl kk => lv_iadd G.1 G.2.1 hd (kk lsA hl)) k

theorem C_isub {x y : Int32} (hd : decode (dC D) pc = .ok (.isub, 1)) (hp : pc + 1 = pc') (k : Cmp C D Z pc' ls (.int (x - y) :: st) m) : Cmp C D Z pc ls (.int y :: .int x :: st) m := by
  subst hp
  exact C_pure (fun X G H locs lsA cells slots Q hl kk => lv_isub G.1 G.2.1 hd (kk lsA hl)) k

theorem C_imul {x y : Int32} (hd : decode (dC D) pc = .ok (.imul, 1)) (hp : pc + 1 = pc') (k : Cmp C D Z pc' ls (.int (x * y) :: st) m) : Cmp C D Z pc ls (.int y :: .int x :: st) m := by
  subst hp
  exact C_pure (fun X G H locs lsA cells slots Q hl kk => lv_imul G.1 G.2.1 hd (kk lsA hl)) k

theorem C_iand {x y : Int32} (hd : decode (dC D) pc = .ok (.iand, 1)) (hp : pc + 1 = pc') (k : Cmp C D Z pc' ls (.int (x &&& y) :: st) m) : Cmp C D Z pc ls (.int y :: .int x :: st) m := by
  subst hp
  exact C_pure (fun X G H locs lsA cells slots Q hl kk => lv_iand G.1 G.2.1 hd (kk lsA hl)) k

theorem C_ior {x y : Int32} (hd : decode (dC D) pc = .ok (.ior, 1)) (hp : pc + 1 = pc') (k : Cmp C D Z pc' ls (.int (x ||| y) :: st) m) : Cmp C D Z pc ls (.int y :: .int x :: st) m := by
  subst hp
  exact C_pure (fun X G H locs lsA cells slots Q hl kk => lv_ior G.1 G.2.1 hd (kk lsA hl)) k

theorem C_ixor {x y : Int32} (hd : decode (dC D) pc = .ok (.ixor, 1)) (hp : pc + 1 = pc') (k : Cmp C D Z pc' ls (.int (x ^^^ y) :: st) m) : Cmp C D Z pc ls (.int y :: .int x :: st) m := by
  subst hp
  exact C_pure (fun X G H locs lsA cells slots Q hl kk => lv_ixor G.1 G.2.1 hd (kk lsA hl)) k

theorem C_ishl {x y : Int32} (hd : decode (dC D) pc = .ok (.ishl, 1)) (hp : pc + 1 = pc') (k : Cmp C D Z pc' ls (.int (x <<< (y &&& 31)) :: st) m) : Cmp C D Z pc ls (.int y :: .int x :: st) m := by
  subst hp
  exact C_pure (fun X G H locs lsA cells slots Q hl kk => lv_ishl G.1 G.2.1 hd (kk lsA hl)) k

theorem C_ishr {x y : Int32} (hd : decode (dC D) pc = .ok (.ishr, 1)) (hp : pc + 1 = pc') (k : Cmp C D Z pc' ls (.int (x >>> (y &&& 31)) :: st) m) : Cmp C D Z pc ls (.int y :: .int x :: st) m := by
  subst hp
  exact C_pure (fun X G H locs lsA cells slots Q hl kk => lv_ishr G.1 G.2.1 hd (kk lsA hl)) k

theorem C_idiv {x y : Int32} (hd : decode (dC D) pc = .ok (.idiv, 1)) (hp : pc + 1 = pc') (hne : ¬ y = 0) (k : Cmp C D Z pc' ls (.int (x / y) :: st) m) : Cmp C D Z pc ls (.int y :: .int x :: st) m := by
  subst hp
  exact C_pure (fun X G H locs lsA cells slots Q hl kk => lv_idiv G.1 G.2.1 hd hne (kk lsA hl)) k

theorem C_irem {x y : Int32} (hd : decode (dC D) pc = .ok (.irem, 1)) (hp : pc + 1 = pc') (hne : ¬ y = 0) (k : Cmp C D Z pc' ls (.int (x - x / y * y) :: st) m) : Cmp C D Z pc ls (.int y :: .int x :: st) m := by
  subst hp
  exact C_pure (fun X G H locs lsA cells slots Q hl kk => lv_irem G.1 G.2.1 hd hne (kk lsA hl)) k

theorem C_ladd {x y : Int64} (hd : decode (dC D) pc = .ok (.ladd, 1)) (hp : pc + 1 = pc') (k : Cmp C D Z pc' ls (.long (x + y) :: st) m) : Cmp C D Z pc ls (.long y :: .long x :: st) m := by
  subst hp
  exact C_pure (fun X G H locs lsA cells slots Q hl kk => lv_ladd G.1 G.2.1 hd (kk lsA hl)) k

theorem C_lsub {x y : Int64} (hd : decode (dC D) pc = .ok (.lsub, 1)) (hp : pc + 1 = pc') (k : Cmp C D Z pc' ls (.long (x - y) :: st) m) : Cmp C D Z pc ls (.long y :: .long x :: st) m := by
  subst hp
  exact C_pure (fun X G H locs lsA cells slots Q hl kk => lv_lsub G.1 G.2.1 hd (kk lsA hl)) k

theorem C_lmul {x y : Int64} (hd : decode (dC D) pc = .ok (.lmul, 1)) (hp : pc + 1 = pc') (k : Cmp C D Z pc' ls (.long (x * y) :: st) m) : Cmp C D Z pc ls (.long y :: .long x :: st) m := by
  subst hp
  exact C_pure (fun X G H locs lsA cells slots Q hl kk => lv_lmul G.1 G.2.1 hd (kk lsA hl)) k

theorem C_land {x y : Int64} (hd : decode (dC D) pc = .ok (.land, 1)) (hp : pc + 1 = pc') (k : Cmp C D Z pc' ls (.long (x &&& y) :: st) m) : Cmp C D Z pc ls (.long y :: .long x :: st) m := by
  subst hp
  exact C_pure (fun X G H locs lsA cells slots Q hl kk => lv_land G.1 G.2.1 hd (kk lsA hl)) k

theorem C_lor {x y : Int64} (hd : decode (dC D) pc = .ok (.lor, 1)) (hp : pc + 1 = pc') (k : Cmp C D Z pc' ls (.long (x ||| y) :: st) m) : Cmp C D Z pc ls (.long y :: .long x :: st) m := by
  subst hp
  exact C_pure (fun X G H locs lsA cells slots Q hl kk => lv_lor G.1 G.2.1 hd (kk lsA hl)) k

theorem C_ldiv {x y : Int64} (hd : decode (dC D) pc = .ok (.ldiv, 1)) (hp : pc + 1 = pc') (hne : ¬ y = 0) (k : Cmp C D Z pc' ls (.long (x / y) :: st) m) : Cmp C D Z pc ls (.long y :: .long x :: st) m := by
  subst hp
  exact C_pure (fun X G H locs lsA cells slots Q hl kk => lv_ldiv G.1 G.2.1 hd hne (kk lsA hl)) k

theorem C_lrem {x y : Int64} (hd : decode (dC D) pc = .ok (.lrem, 1)) (hp : pc + 1 = pc') (hne : ¬ y = 0) (k : Cmp C D Z pc' ls (.long (x - x / y * y) :: st) m) : Cmp C D Z pc ls (.long y :: .long x :: st) m := by
  subst hp
  exact C_pure (fun X G H locs lsA cells slots Q hl kk => lv_lrem G.1 G.2.1 hd hne (kk lsA hl)) k

theorem C_lshl {x : Int64} {y : Int32} (hd : decode (dC D) pc = .ok (.lshl, 1)) (hp : pc + 1 = pc') (k : Cmp C D Z pc' ls (.long (x <<< (y.toInt64 &&& 63)) :: st) m) : Cmp C D Z pc ls (.int y :: .long x :: st) m := by
  subst hp
  exact C_pure (fun X G H locs lsA cells slots Q hl kk => lv_lshl G.1 G.2.1 hd rfl (kk lsA hl)) k

theorem C_lshr {x : Int64} {y : Int32} (hd : decode (dC D) pc = .ok (.lshr, 1)) (hp : pc + 1 = pc') (k : Cmp C D Z pc' ls (.long (x >>> (y.toInt64 &&& 63)) :: st) m) : Cmp C D Z pc ls (.int y :: .long x :: st) m := by
  subst hp
  exact C_pure (fun X G H locs lsA cells slots Q hl kk => lv_lshr G.1 G.2.1 hd rfl (kk lsA hl)) k

theorem C_lushr {x : Int64} {y : Int32} (hd : decode (dC D) pc = .ok (.lushr, 1)) (hp : pc + 1 = pc') (k : Cmp C D Z pc' ls (.long ((x.toUInt64 >>> (y.toInt64.toUInt64 &&& Int64.toUInt64 63)).toInt64) :: st) m) : Cmp C D Z pc ls (.int y :: .long x :: st) m := by
  subst hp
  exact C_pure (fun X G H locs lsA cells slots Q hl kk => lv_lushr G.1 G.2.1 hd rfl (kk lsA hl)) k

theorem C_i2l {x : Int32} (hd : decode (dC D) pc = .ok (.i2l, 1)) (hp : pc + 1 = pc') (k : Cmp C D Z pc' ls (.long x.toInt64 :: st) m) : Cmp C D Z pc ls (.int x :: st) m := by
  subst hp
  exact C_pure (fun X G H locs lsA cells slots Q hl kk => lv_i2l G.1 G.2.1 hd rfl (kk lsA hl)) k

theorem C_l2i {x : Int64} (hd : decode (dC D) pc = .ok (.l2i, 1)) (hp : pc + 1 = pc') (k : Cmp C D Z pc' ls (.int x.toInt32 :: st) m) : Cmp C D Z pc ls (.long x :: st) m := by
  subst hp
  exact C_pure (fun X G H locs lsA cells slots Q hl kk => lv_l2i G.1 G.2.1 hd rfl (kk lsA hl)) k

theorem C_lcmp {x y : Int64} (hd : decode (dC D) pc = .ok (.lcmp, 1)) (hp : pc + 1 = pc') (k : Cmp C D Z pc' ls (.int (lg_cmp x y) :: st) m) : Cmp C D Z pc ls (.long y :: .long x :: st) m := by
  subst hp
  exact C_pure (fun X G H locs lsA cells slots Q hl kk => W.lcmp G.1 G.2.1 hd (kk lsA hl)) k

theorem C_dup {v : Value} (hd : decode (dC D) pc = .ok (.dup, 1)) (hp : pc + 1 = pc') (hv : v.category = 1) (k : Cmp C D Z pc' ls (v :: v :: st) m) : Cmp C D Z pc ls (v :: st) m := by
  subst hp
  exact C_pure (fun X G H locs lsA cells slots Q hl kk => lv_dup G.1 G.2.1 hd hv (kk lsA hl)) k

theorem C_pop {v : Value} (hd : decode (dC D) pc = .ok (.pop, 1)) (hp : pc + 1 = pc') (hv : v.category = 1) (k : Cmp C D Z pc' ls (st) m) : Cmp C D Z pc ls (v :: st) m := by
  subst hp
  exact C_pure (fun X G H locs lsA cells slots Q hl kk => lv_pop G.1 G.2.1 hd hv (kk lsA hl)) k

theorem C_dup2 {va vb : Value} (hd : decode (dC D) pc = .ok (.dup2, 1)) (hp : pc + 1 = pc') (hv : va.category = 1) (hw : vb.category = 1) (k : Cmp C D Z pc' ls (va :: vb :: va :: vb :: st) m) : Cmp C D Z pc ls (va :: vb :: st) m := by
  subst hp
  exact C_pure (fun X G H locs lsA cells slots Q hl kk => lv_dup2_11 G.1 G.2.1 hd hv hw (kk lsA hl)) k

theorem C_dup2L {va : Value} (hd : decode (dC D) pc = .ok (.dup2, 1)) (hp : pc + 1 = pc') (hv : va.category = 2) (k : Cmp C D Z pc' ls (va :: va :: st) m) : Cmp C D Z pc ls (va :: st) m := by
  subst hp
  exact C_pure (fun X G H locs lsA cells slots Q hl kk => lv_dup2_2 G.1 G.2.1 hd hv (kk lsA hl)) k

theorem C_goto {off : Int} (hd : decode (dC D) pc = .ok (.goto off, 3)) (ht : (pc : Int) + off = (pc' : Int)) (k : Cmp C D Z pc' ls st m) : Cmp C D Z pc ls st m :=
  C_pure (fun X G H locs lsA cells slots Q hl kk => lv_goto G.1 G.2.1 hd ht (kk lsA hl)) k
theorem C_ifnonnull {off : Int} {x : Nat} (hd : decode (dC D) pc = .ok (.ifnonnull off, 3)) (ht : (pc : Int) + off = (pc' : Int)) (k : Cmp C D Z pc' ls st m) : Cmp C D Z pc ls (.ref x :: st) m :=
  C_pure (fun X G H locs lsA cells slots Q hl kk => lv_ifnonnull G.1 G.2.1 hd ht (kk lsA hl)) k
theorem C_ifnonnullN {off : Int} (hd : decode (dC D) pc = .ok (.ifnonnull off, 3)) (hp : pc + 3 = pc') (k : Cmp C D Z pc' ls st m) : Cmp C D Z pc ls (.null :: st) m := by
  subst hp
  exact C_pure (fun X G H locs lsA cells slots Q hl kk => lv_ifnonnullN G.1 G.2.1 hd (kk lsA hl)) k

theorem C_icmp_eq {x y : Int32} {off : Int} {tgt : Nat} (hd : decode (dC D) pc = .ok (.if_icmp .eq off, 3)) (ht : (pc : Int) + off = (tgt : Int)) (hp : pc + 3 = pc') (kt : Cmp C D Z tgt ls st A) (kf : Cmp C D Z pc' ls st B) : Cmp C D Z pc ls (.int y :: .int x :: st) (if x = y then A else B) := by
  subst hp
  intro w r w' hm
  by_cases hc : x = y
  · rw [if_pos hc] at hm
    obtain ⟨h1, h2⟩ := kt w r w' hm
    refine ⟨h1, fun X G hC hF H locs lsA cells slots hS hl => ?_⟩
    exact lv_icmp_eq G.1 G.2.1 hd ht (fun h => h2 X G hC hF H locs lsA cells slots hS hl) (fun h => absurd hc h)
  · rw [if_neg hc] at hm
    obtain ⟨h1, h2⟩ := kf w r w' hm
    refine ⟨h1, fun X G hC hF H locs lsA cells slots hS hl => ?_⟩
    exact lv_icmp_eq G.1 G.2.1 hd ht (fun h => absurd h hc) (fun h => h2 X G hC hF H locs lsA cells slots hS hl)

theorem C_if_eq {x : Int32} {off : Int} {tgt : Nat} (hd : decode (dC D) pc = .ok (.ifCond .eq off, 3)) (ht : (pc : Int) + off = (tgt : Int)) (hp : pc + 3 = pc') (kt : Cmp C D Z tgt ls st A) (kf : Cmp C D Z pc' ls st B) : Cmp C D Z pc ls (.int x :: st) (if x = 0 then A else B) := by
  subst hp
  intro w r w' hm
  by_cases hc : x = 0
  · rw [if_pos hc] at hm
    obtain ⟨h1, h2⟩ := kt w r w' hm
    refine ⟨h1, fun X G hC hF H locs lsA cells slots hS hl => ?_⟩
    exact lv_if_eq G.1 G.2.1 hd ht (fun h => h2 X G hC hF H locs lsA cells slots hS hl) (fun h => absurd hc h)
  · rw [if_neg hc] at hm
    obtain ⟨h1, h2⟩ := kf w r w' hm
    refine ⟨h1, fun X G hC hF H locs lsA cells slots hS hl => ?_⟩
    exact lv_if_eq G.1 G.2.1 hd ht (fun h => absurd h hc) (fun h => h2 X G hC hF H locs lsA cells slots hS hl)

theorem C_icmp_ne {x y : Int32} {off : Int} {tgt : Nat} (hd : decode (dC D) pc = .ok (.if_icmp .ne off, 3)) (ht : (pc : Int) + off = (tgt : Int)) (hp : pc + 3 = pc') (kt : Cmp C D Z tgt ls st B) (kf : Cmp C D Z pc' ls st A) : Cmp C D Z pc ls (.int y :: .int x :: st) (if x = y then A else B) := by
  subst hp
  intro w r w' hm
  by_cases hc : x = y
  · rw [if_pos hc] at hm
    obtain ⟨h1, h2⟩ := kf w r w' hm
    refine ⟨h1, fun X G hC hF H locs lsA cells slots hS hl => ?_⟩
    exact lv_icmp_ne G.1 G.2.1 hd ht (fun h => absurd hc h) (fun h => h2 X G hC hF H locs lsA cells slots hS hl)
  · rw [if_neg hc] at hm
    obtain ⟨h1, h2⟩ := kt w r w' hm
    refine ⟨h1, fun X G hC hF H locs lsA cells slots hS hl => ?_⟩
    exact lv_icmp_ne G.1 G.2.1 hd ht (fun h => h2 X G hC hF H locs lsA cells slots hS hl) (fun h => absurd h hc)

theorem C_if_ne {x : Int32} {off : Int} {tgt : Nat} (hd : decode (dC D) pc = .ok (.ifCond .ne off, 3)) (ht : (pc : Int) + off = (tgt : Int)) (hp : pc + 3 = pc') (kt : Cmp C D Z tgt ls st B) (kf : Cmp C D Z pc' ls st A) : Cmp C D Z pc ls (.int x :: st) (if x = 0 then A else B) := by
  subst hp
  intro w r w' hm
  by_cases hc : x = 0
  · rw [if_pos hc] at hm
    obtain ⟨h1, h2⟩ := kf w r w' hm
    refine ⟨h1, fun X G hC hF H locs lsA cells slots hS hl => ?_⟩
    exact lv_if_ne G.1 G.2.1 hd ht (fun h => absurd hc h) (fun h => h2 X G hC hF H locs lsA cells slots hS hl)
  · rw [if_neg hc] at hm
    obtain ⟨h1, h2⟩ := kt w r w' hm
    refine ⟨h1, fun X G hC hF H locs lsA cells slots hS hl => ?_⟩
    exact lv_if_ne G.1 G.2.1 hd ht (fun h => h2 X G hC hF H locs lsA cells slots hS hl) (fun h => absurd h hc)

theorem C_icmp_lt {x y : Int32} {off : Int} {tgt : Nat} (hd : decode (dC D) pc = .ok (.if_icmp .lt off, 3)) (ht : (pc : Int) + off = (tgt : Int)) (hp : pc + 3 = pc') (kt : Cmp C D Z tgt ls st A) (kf : Cmp C D Z pc' ls st B) : Cmp C D Z pc ls (.int y :: .int x :: st) (if x < y then A else B) := by
  subst hp
  intro w r w' hm
  by_cases hc : x < y
  · rw [if_pos hc] at hm
    obtain ⟨h1, h2⟩ := kt w r w' hm
    refine ⟨h1, fun X G hC hF H locs lsA cells slots hS hl => ?_⟩
    exact lv_icmp_lt G.1 G.2.1 hd ht (fun h => h2 X G hC hF H locs lsA cells slots hS hl) (fun h => absurd hc h)
  · rw [if_neg hc] at hm
    obtain ⟨h1, h2⟩ := kf w r w' hm
    refine ⟨h1, fun X G hC hF H locs lsA cells slots hS hl => ?_⟩
    exact lv_icmp_lt G.1 G.2.1 hd ht (fun h => absurd h hc) (fun h => h2 X G hC hF H locs lsA cells slots hS hl)

theorem C_if_lt {x : Int32} {off : Int} {tgt : Nat} (hd : decode (dC D) pc = .ok (.ifCond .lt off, 3)) (ht : (pc : Int) + off = (tgt : Int)) (hp : pc + 3 = pc') (kt : Cmp C D Z tgt ls st A) (kf : Cmp C D Z pc' ls st B) : Cmp C D Z pc ls (.int x :: st) (if x < 0 then A else B) := by
  subst hp
  intro w r w' hm
  by_cases hc : x < 0
  · rw [if_pos hc] at hm
    obtain ⟨h1, h2⟩ := kt w r w' hm
    refine ⟨h1, fun X G hC hF H locs lsA cells slots hS hl => ?_⟩
    exact lv_if_lt G.1 G.2.1 hd ht (fun h => h2 X G hC hF H locs lsA cells slots hS hl) (fun h => absurd hc h)
  · rw [if_neg hc] at hm
    obtain ⟨h1, h2⟩ := kf w r w' hm
    refine ⟨h1, fun X G hC hF H locs lsA cells slots hS hl => ?_⟩
    exact lv_if_lt G.1 G.2.1 hd ht (fun h => absurd h hc) (fun h => h2 X G hC hF H locs lsA cells slots hS hl)

theorem C_icmp_ge {x y : Int32} {off : Int} {tgt : Nat} (hd : decode (dC D) pc = .ok (.if_icmp .ge off, 3)) (ht : (pc : Int) + off = (tgt : Int)) (hp : pc + 3 = pc') (kt : Cmp C D Z tgt ls st A) (kf : Cmp C D Z pc' ls st B) : Cmp C D Z pc ls (.int y :: .int x :: st) (if y ≤ x then A else B) := by
  subst hp
  intro w r w' hm
  by_cases hc : y ≤ x
  · rw [if_pos hc] at hm
    obtain ⟨h1, h2⟩ := kt w r w' hm
    refine ⟨h1, fun X G hC hF H locs lsA cells slots hS hl => ?_⟩
    exact lv_icmp_ge G.1 G.2.1 hd ht (fun h => h2 X G hC hF H locs lsA cells slots hS hl) (fun h => absurd hc h)
  · rw [if_neg hc] at hm
    obtain ⟨h1, h2⟩ := kf w r w' hm
    refine ⟨h1, fun X G hC hF H locs lsA cells slots hS hl => ?_⟩
    exact lv_icmp_ge G.1 G.2.1 hd ht (fun h => absurd h hc) (fun h => h2 X G hC hF H locs lsA cells slots hS hl)

theorem C_if_ge {x : Int32} {off : Int} {tgt : Nat} (hd : decode (dC D) pc = .ok (.ifCond .ge off, 3)) (ht : (pc : Int) + off = (tgt : Int)) (hp : pc + 3 = pc') (kt : Cmp C D Z tgt ls st A) (kf : Cmp C D Z pc' ls st B) : Cmp C D Z pc ls (.int x :: st) (if 0 ≤ x then A else B) := by
  subst hp
  intro w r w' hm
  by_cases hc : 0 ≤ x
  · rw [if_pos hc] at hm
    obtain ⟨h1, h2⟩ := kt w r w' hm
    refine ⟨h1, fun X G hC hF H locs lsA cells slots hS hl => ?_⟩
    exact lv_if_ge G.1 G.2.1 hd ht (fun h => h2 X G hC hF H locs lsA cells slots hS hl) (fun h => absurd hc h)
  · rw [if_neg hc] at hm
    obtain ⟨h1, h2⟩ := kf w r w' hm
    refine ⟨h1, fun X G hC hF H locs lsA cells slots hS hl => ?_⟩
    exact lv_if_ge G.1 G.2.1 hd ht (fun h => absurd h hc) (fun h => h2 X G hC hF H locs lsA cells slots hS hl)

theorem C_icmp_gt {x y : Int32} {off : Int} {tgt : Nat} (hd : decode (dC D) pc = .ok (.if_icmp .gt off, 3)) (ht : (pc : Int) + off = (tgt : Int)) (hp : pc + 3 = pc') (kt : Cmp C D Z tgt ls st A) (kf : Cmp C D Z pc' ls st B) : Cmp C D Z pc ls (.int y :: .int x :: st) (if y < x then A else B) := by
  subst hp
  intro w r w' hm
  by_cases hc : y < x
  · rw [if_pos hc] at hm
    obtain ⟨h1, h2⟩ := kt w r w' hm
    refine ⟨h1, fun X G hC hF H locs lsA cells slots hS hl => ?_⟩
    exact lv_icmp_gt G.1 G.2.1 hd ht (fun h => h2 X G hC hF H locs lsA cells slots hS hl) (fun h => absurd hc h)
  · rw [if_neg hc] at hm
    obtain ⟨h1, h2⟩ := kf w r w' hm
    refine ⟨h1, fun X G hC hF H locs lsA cells slots hS hl => ?_⟩
    exact lv_icmp_gt G.1 G.2.1 hd ht (fun h => absurd h hc) (fun h => h2 X G hC hF H locs lsA cells slots hS hl)

theorem C_if_gt {x : Int32} {off : Int} {tgt : Nat} (hd : decode (dC D) pc = .ok (.ifCond .gt off, 3)) (ht : (pc : Int) + off = (tgt : Int)) (hp : pc + 3 = pc') (kt : Cmp C D Z tgt ls st A) (kf : Cmp C D Z pc' ls st B) : Cmp C D Z pc ls (.int x :: st) (if 0 < x then A else B) := by
  subst hp
  intro w r w' hm
  by_cases hc : 0 < x
  · rw [if_pos hc] at hm
    obtain ⟨h1, h2⟩ := kt w r w' hm
    refine ⟨h1, fun X G hC hF H locs lsA cells slots hS hl => ?_⟩
    exact lv_if_gt G.1 G.2.1 hd ht (fun h => h2 X G hC hF H locs lsA cells slots hS hl) (fun h => absurd hc h)
  · rw [if_neg hc] at hm
    obtain ⟨h1, h2⟩ := kf w r w' hm
    refine ⟨h1, fun X G hC hF H locs lsA cells slots hS hl => ?_⟩
    exact lv_if_gt G.1 G.2.1 hd ht (fun h => absurd h hc) (fun h => h2 X G hC hF H locs lsA cells slots hS hl)

theorem C_icmp_le {x y : Int32} {off : Int} {tgt : Nat} (hd : decode (dC D) pc = .ok (.if_icmp .le off, 3)) (ht : (pc : Int) + off = (tgt : Int)) (hp : pc + 3 = pc') (kt : Cmp C D Z tgt ls st A) (kf : Cmp C D Z pc' ls st B) : Cmp C D Z pc ls (.int y :: .int x :: st) (if x ≤ y then A else B) := by
  subst hp
  intro w r w' hm
  by_cases hc : x ≤ y
  · rw [if_pos hc] at hm
    obtain ⟨h1, h2⟩ := kt w r w' hm
    refine ⟨h1, fun X G hC hF H locs lsA cells slots hS hl => ?_⟩
    exact lv_icmp_le G.1 G.2.1 hd ht (fun h => h2 X G hC hF H locs lsA cells slots hS hl) (fun h => absurd hc h)
  · rw [if_neg hc] at hm
    obtain ⟨h1, h2⟩ := kf w r w' hm
    refine ⟨h1, fun X G hC hF H locs lsA cells slots hS hl => ?_⟩
    exact lv_icmp_le G.1 G.2.1 hd ht (fun h => absurd h hc) (fun h => h2 X G hC hF H locs lsA cells slots hS hl)

theorem C_if_le {x : Int32} {off : Int} {tgt : Nat} (hd : decode (dC D) pc = .ok (.ifCond .le off, 3)) (ht : (pc : Int) + off = (tgt : Int)) (hp : pc + 3 = pc') (kt : Cmp C D Z tgt ls st A) (kf : Cmp C D Z pc' ls st B) : Cmp C D Z pc ls (.int x :: st) (if x ≤ 0 then A else B) := by
  subst hp
  intro w r w' hm
  by_cases hc : x ≤ 0
  · rw [if_pos hc] at hm
    obtain ⟨h1, h2⟩ := kt w r w' hm
    refine ⟨h1, fun X G hC hF H locs lsA cells slots hS hl => ?_⟩
    exact lv_if_le G.1 G.2.1 hd ht (fun h => h2 X G hC hF H locs lsA cells slots hS hl) (fun h => absurd hc h)
  · rw [if_neg hc] at hm
    obtain ⟨h1, h2⟩ := kf w r w' hm
    refine ⟨h1, fun X G hC hF H locs lsA cells slots hS hl => ?_⟩
    exact lv_if_le G.1 G.2.1 hd ht (fun h => absurd h hc) (fun h => h2 X G hC hF H locs lsA cells slots hS hl)

/-- one case of a table; the others know that it isn't that one -/
theorem C_tcase {x c : Int32} (ci : Int) (hci : c.toInt = ci) {dflt lo hi : Int} {offs : Array Int} {len : Nat} {off : Int} {tgt : Nat} (hd : decode (dC D) pc = .ok (.tableswitch dflt lo hi offs, len)) (h1 : ¬ ci < lo) (h2 : ¬ hi < ci) (ho : offs[(ci - lo).toNat]? = some off) (ht : (pc : Int) + off = (tgt : Int))
    (kt : Cmp C D Z tgt ls st A) (kf : ¬ x.toInt = ci → Cmp C D Z pc ls (.int x :: st) B) : Cmp C D Z pc ls (.int x :: st) (if x = c then A else B) := by
  by_cases hc : x = c
  · rw [if_pos hc]
    subst hc
    rw [← hci] at h1 h2 ho
    exact C_pure (fun X G H locs lsA cells slots Q hl kk => lv_tableIn G.1 G.2.1 hd h1 h2 ho ht (kk lsA hl)) kt
  · rw [if_neg hc]
    exact kf (fun h => hc (Int32.toInt_inj.mp (h.trans hci.symm)))
theorem C_tdef {x : Int32} {dflt lo hi : Int} {offs : Array Int} {len : Nat} {tgt : Nat} (hd : decode (dC D) pc = .ok (.tableswitch dflt lo hi offs, len)) (h : x.toInt < lo ∨ hi < x.toInt) (ht : (pc : Int) + dflt = (tgt : Int)) (kt : Cmp C D Z tgt ls st A) : Cmp C D Z pc ls (.int x :: st) A :=
  C_pure (fun X G H locs lsA cells slots Q hl kk => lv_tableOut G.1 G.2.1 hd h ht (kk lsA hl)) kt
theorem C_lcase {x c : Int32} (ci : Int) (hci : c.toInt = ci) {dflt : Int} {ps : Array (Int × Int)} {len : Nat} {off : Int} {tgt : Nat} (hd : decode (dC D) pc = .ok (.lookupswitch dflt ps, len)) (hs : (ps.toList.zip (ps.toList.drop 1)).all (fun (a, next) => a.1 < next.1) = true) (ho : Op.lookupswitch.offset ps.toList dflt ci = off) (ht : (pc : Int) + off = (tgt : Int))
    (kt : Cmp C D Z tgt ls st A) (kf : ¬ x.toInt = ci → Cmp C D Z pc ls (.int x :: st) B) : Cmp C D Z pc ls (.int x :: st) (if x = c then A else B) := by
  by_cases hc : x = c
  · rw [if_pos hc]
    subst hc
    rw [← hci] at ho
    exact C_pure (fun X G H locs lsA cells slots Q hl kk => lv_lookup G.1 G.2.1 hd hs ho ht (kk lsA hl)) kt
  · rw [if_neg hc]
    exact kf (fun h => hc (Int32.toInt_inj.mp (h.trans hci.symm)))
theorem C_ldef {x : Int32} {dflt : Int} {ps : Array (Int × Int)} {len : Nat} {tgt : Nat} (hd : decode (dC D) pc = .ok (.lookupswitch dflt ps, len)) (hs : (ps.toList.zip (ps.toList.drop 1)).all (fun (a, next) => a.1 < next.1) = true) (ho : Op.lookupswitch.offset ps.toList dflt x.toInt = dflt) (ht : (pc : Int) + dflt = (tgt : Int)) (kt : Cmp C D Z tgt ls st A) : Cmp C D Z pc ls (.int x :: st) A :=
  C_pure (fun X G H locs lsA cells slots Q hl kk => lv_lookup G.1 G.2.1 hd hs ho ht (kk lsA hl)) kt
end RulesA

section RulesR
variable {C : KX} {D : MD} {pc : Nat} {ls : List (Nat × Value)}
theorem fit_end {X : CX} {w : Wd} {H : Heap} {locs : List Loc} {cells slots : Nat} (hS : Stb X w H locs cells slots) (hF : Fit X w) : cells ≤ (xR X).cells ∧ slots ≤ (xR X).slots := by
  obtain ⟨-, -, -, h1, h2⟩ := hS
  obtain ⟨h3, h4⟩ := hF
  omega
def rvI (v : Int32) : Option Value := some (.int v)
def rvL (v : Int64) : Option Value := some (.long v)
def rvV (_ : Unit) : Option Value := none
def rvR (b : Nat) (p : Nat) : Option Value := some (.ref (b + p))
theorem C_iret {v : Int32} (hr : dR D = some .int) (hd : decode (dC D) pc = .ok (.ireturn, 1)) : Cmp C D (QM rvI) pc ls [.int v] (mp v) := by
  intro w r w' hm
  cases hm
  refine ⟨⟨Nat.le_refl _, Nat.le_refl _⟩, fun X G hC hF H locs lsA cells slots hS hl => ?_⟩
  obtain ⟨h1, h2⟩ := fit_end hS hF
  refine W.widen h1 h2 ?_
  exact W.iret G.1 G.2.1 (G.2.2.1.trans hr) (fun t ht _ => ⟨rfl, by rw [ht]; exact hS.1, fun q hq => by rw [ht]; exact hS.2.1 q hq⟩) hS.2.2.1 hd (hlocks := G.2.2.2.1)
theorem C_zret {v : Int32} (hr : dR D = some .boolean) (hd : decode (dC D) pc = .ok (.ireturn, 1)) : Cmp C D (QM rvI) pc ls [.int v] (rZ v) := by
  intro w r w' hm
  unfold rZ at hm
  by_cases hv : v = 0 ∨ v = 1
  · rw [if_pos hv] at hm
    cases hm
    refine ⟨⟨Nat.le_refl _, Nat.le_refl _⟩, fun X G hC hF H locs lsA cells slots hS hl => ?_⟩
    obtain ⟨h1, h2⟩ := fit_end hS hF
    refine W.widen h1 h2 ?_
    exact W.zret G.1 G.2.1 (G.2.2.1.trans hr) (by rcases hv with rfl | rfl <;> rfl) (fun t ht _ => ⟨rfl, by rw [ht]; exact hS.1, fun q hq => by rw [ht]; exact hS.2.1 q hq⟩) hS.2.2.1 hd (hlocks := G.2.2.2.1)
  · rw [if_neg hv] at hm
    cases hm
theorem C_lret {v : Int64} (hr : dR D = some .long) (hd : decode (dC D) pc = .ok (.lreturn, 1)) : Cmp C D (QM rvL) pc ls [.long v] (mp v) := by
  intro w r w' hm
  cases hm
  refine ⟨⟨Nat.le_refl _, Nat.le_refl _⟩, fun X G hC hF H locs lsA cells slots hS hl => ?_⟩
  obtain ⟨h1, h2⟩ := fit_end hS hF
  refine W.widen h1 h2 ?_
  exact W.lret G.1 G.2.1 (G.2.2.1.trans hr) (fun t ht _ => ⟨rfl, by rw [ht]; exact hS.1, fun q hq => by rw [ht]; exact hS.2.1 q hq⟩) hS.2.2.1 hd (hlocks := G.2.2.2.1)
theorem C_vret (hr : dR D = none) (hd : decode (dC D) pc = .ok (.return_, 1)) : Cmp C D (QM rvV) pc ls [] (mp ()) := by
  intro w r w' hm
  cases hm
  refine ⟨⟨Nat.le_refl _, Nat.le_refl _⟩, fun X G hC hF H locs lsA cells slots hS hl => ?_⟩
  obtain ⟨h1, h2⟩ := fit_end hS hF
  refine W.widen h1 h2 ?_
  exact W.vret G.1 G.2.1 (G.2.2.1.trans hr) (fun t ht _ => ⟨rfl, by rw [ht]; exact hS.1, fun q hq => by rw [ht]; exact hS.2.1 q hq⟩) hS.2.2.1 hd (hlocks := G.2.2.2.1)
theorem C_aret {v : Nat} {n : String} (hr : dR D = some (.object n)) (hd : decode (dC D) pc = .ok (.areturn, 1)) : Cmp C D (QM (rvR (kB C))) pc ls [.ref (kB C + v)] (mp v) := by
  intro w r w' hm
  cases hm
  refine ⟨⟨Nat.le_refl _, Nat.le_refl _⟩, fun X G hC hF H locs lsA cells slots hS hl => ?_⟩
  obtain ⟨h1, h2⟩ := fit_end hS hF
  refine W.widen h1 h2 ?_
  exact W.aret G.1 G.2.1 (G.2.2.1.trans hr) (Or.inl ⟨_, rfl⟩) (Or.inr ⟨_, rfl⟩) (fun t ht _ => ⟨rfl, by rw [ht]; exact hS.1, fun q hq => by rw [ht]; exact hS.2.1 q hq⟩) hS.2.2.1 hd (hlocks := G.2.2.2.1)
end RulesR
end
section
/-! ===== rules: fields, arrays, new cells ===== -/
theorem hat_i {C : KX} {w : Wd} {p n : Nat} {H : Heap} : Hat C w p (100, n) H ↔ H[kB C + p]? = some (vp_cell (kI C) (n, .inl (w.1 p))) := by simp [Hat]
theorem hat_j {C : KX} {w : Wd} {p n : Nat} {H : Heap} : Hat C w p (101, n) H ↔ H[kB C + p]? = some (vp_cell (kJ C) (n, .inr (.inl (w.2.1 p)))) := by simp [Hat]
theorem hat_z {C : KX} {w : Wd} {p n : Nat} {H : Heap} : Hat C w p (102, n) H ↔ H[kB C + p]? = some (vp_cell (kZ C) (n, .inl (w.1 p))) := by simp [Hat]
theorem hat_q {C : KX} {w : Wd} {p n : Nat} {H : Heap} : Hat C w p (103, n) H ↔ H[kB C + p]? = some (vp_cell (kH C) (n, .inr (.inr (.inr (.inr (fun k => (w.2.2.1 p k).map (fun q => kB C + q))))))) := by simp [Hat]
theorem hat_o {C : KX} {w : Wd} {p ci n : Nat} {H : Heap} (hc : ci < 100) : Hat C w p (ci, n) H ↔ t_OB (kB C + p) ((kD C).1 ci) n ((kD C).2 ci) H (fun k => fv C w p ci k) := by
  unfold Hat
  simp only [show ¬ ci = 100 by omega, show ¬ ci = 101 by omega, show ¬ ci = 102 by omega, show ¬ ci = 103 by omega, if_false]
theorem alen_at {w : Wd} {kd p i : Nat} (h : i < alen w kd p) : (wS w)[p]? = some (kd, alen w kd p) := by
  unfold alen at h ⊢
  cases hp : (wS w)[p]? with
  | none => rw [hp] at h; simp at h
  | some q =>
    rw [hp] at h
    simp only at h ⊢
    by_cases hk : q.1 = kd
    · rw [if_pos hk]; rw [← hk]
    · rw [if_neg hk] at h; omega
def FL (own : String) (idx ci k : Nat) (fin : Bool) : Prop := ∃ (Cn : String) (T : u_T) (ty : Nat → FieldType), vwCl[ci]? = some (Cn, T, nf ci) ∧ (∀ w ∈ u_ws Cn T (nf ci), w ∈ TB) ∧ k < nf ci ∧ Cond.fieldLink own idx Cn (T k).2.1 (T k).2.2.1 ∈ TB ∧ (T k).1 = Cn ∧
  (∀ k, k < nf ci → parseFieldDescriptor (T k).2.2.1 = some (ty k)) ∧ (∀ a, a < nf ci → ∀ b, b < nf ci → a ≠ b → (T a).2.1 ≠ (T b).2.1) ∧ (rk ci k = true → (∃ n, ty k = .object n) ∨ ∃ t, ty k = .array t) ∧ (rk ci k = false → ty k = .int) ∧ (T k).2.2.2 = fin ∧ ((T k).1 = own ∨ fin = false)
theorem cl_lt {ci : Nat} {q : vw_C} (h : vwCl[ci]? = some q) : ci < 8 := by
  have := (List.getElem?_eq_some_iff.mp h).1
  exact this
section RulesM
variable {α : Type} {C : KX} {D : MD} {Z : ZT α} {pc pc' : Nat} {ls : List (Nat × Value)} {st : List Value}
theorem get_any {X : CX} {w : Wd} {H : Heap} {locs : List Loc} {cells slots idx ci k p : Nat} {fin : Bool} {Q : State → Prop} {lsA : Array Slot} (G : CGood X D) (hS : Stb X w H locs cells slots) (hL : FL (dO D) idx ci k fin) (hd : decode (dC D) pc = .ok (.getfield idx, 3)) (hp : (wS w)[p]? = some (ci, nf ci))
    (kk : WX X H locs cells slots Q (F0 (xM X) (pc + 3) lsA (fv (xC X) w p ci k :: st))) : WX X H locs cells slots Q (F0 (xM X) pc lsA (.ref (kB (xC X) + p) :: st)) := by
  obtain ⟨Cn, T, ty, hc, hin, hk, hl, ho, hty, hnm, -⟩ := hL
  obtain ⟨hx, hb, hr, hlk, hml, hown, hts, hK, hn, -⟩ := G
  have hci := cl_lt hc
  obtain ⟨cell, q1, q2, q3, q4⟩ := (hat_o (by omega)).mp (hS.1.2 p _ hp)
  obtain ⟨hSl, hfc, kC, hkC, hkind⟩ := hK.1.1 ci _ hc
  obtain ⟨cf, kf, fi, f, hi, hsl⟩ := hSl k hk
  refine W.getf hx hb hown (hts _ hl) (by rw [← ho]; exact hi) (u_facts hfc hkC (u_lays hts hin hk) hi).1 q1 (by rw [q3]; exact fun h => by cases h) (v := fv (xC X) w p ci k) ?_ rfl rfl hd kk
  rw [hsl, q4 k hk]
theorem C_getI {idx ci k p : Nat} {fin : Bool} {f : Int32 → Mo α} (hL : FL (dO D) idx ci k fin) (hr : rk ci k = false) (hd : decode (dC D) pc = .ok (.getfield idx, 3)) (hp : pc + 3 = pc') (kk : ∀ v : Int32, Cmp C D Z pc' ls (.int v :: st) (f v)) : Cmp C D Z pc ls (.ref (kB C + p) :: st) (mb (gI ci k p) f) := by
  subst hp
  intro w r w' hm
  unfold mb gI at hm
  by_cases h0 : (wS w)[p]? = some (ci, nf ci)
  · rw [if_pos h0] at hm
    obtain ⟨h1, h2⟩ := kk _ w r w' hm
    refine ⟨h1, fun X G hC hF H locs lsA cells slots hS hl => ?_⟩
    subst hC
    refine get_any G hS hL hd h0 ?_
    rw [show fv (xC X) w p ci k = .int (w.1 p k) by unfold fv; rw [if_neg (by rw [hr]; decide)]]
    exact h2 X G rfl hF H locs lsA cells slots hS hl
  · rw [if_neg h0] at hm
    cases hm
theorem C_getR {idx ci k p : Nat} {fin : Bool} {f : Nat → Mo α} (hL : FL (dO D) idx ci k fin) (hr : rk ci k = true) (hd : decode (dC D) pc = .ok (.getfield idx, 3)) (hp : pc + 3 = pc') (kk : ∀ v : Nat, Cmp C D Z pc' ls (.ref (kB C + v) :: st) (f v)) : Cmp C D Z pc ls (.ref (kB C + p) :: st) (mb (gR ci k p) f) := by
  subst hp
  intro w r w' hm
  unfold mb gR at hm
  by_cases h0 : (wS w)[p]? = some (ci, nf ci)
  · rw [if_pos h0] at hm
    cases hq : w.2.2.1 p k with
    | none => rw [hq] at hm; cases hm
    | some q =>
      rw [hq] at hm
      obtain ⟨h1, h2⟩ := kk _ w r w' hm
      refine ⟨h1, fun X G hC hF H locs lsA cells slots hS hl => ?_⟩
      subst hC
      refine get_any G hS hL hd h0 ?_
      rw [show fv (xC X) w p ci k = .ref (kB (xC X) + q) by unfold fv; rw [if_pos hr, hq]; rfl]
      exact h2 X G rfl hF H locs lsA cells slots hS hl
  · rw [if_neg h0] at hm
    cases hm
theorem C_getQ {idx ci k p : Nat} {fin : Bool} {f : Option Nat → Mo α} (hL : FL (dO D) idx ci k fin) (hr : rk ci k = true) (hd : decode (dC D) pc = .ok (.getfield idx, 3)) (hp : pc + 3 = pc') (kn : Cmp C D Z pc' ls (.null :: st) (f none)) (kk : ∀ v : Nat, Cmp C D Z pc' ls (.ref (kB C + v) :: st) (f (some v))) : Cmp C D Z pc ls (.ref (kB C + p) :: st) (mb (gQ ci k p) f) := by
  subst hp
  intro w r w' hm
  unfold mb gQ at hm
  by_cases h0 : (wS w)[p]? = some (ci, nf ci)
  · rw [if_pos h0] at hm
    cases hq : w.2.2.1 p k with
    | none =>
      rw [hq] at hm
      obtain ⟨h1, h2⟩ := kn w r w' hm
      refine ⟨h1, fun X G hC hF H locs lsA cells slots hS hl => ?_⟩
      subst hC
      refine get_any G hS hL hd h0 ?_
      rw [show fv (xC X) w p ci k = .null by unfold fv; rw [if_pos hr, hq]; rfl]
      exact h2 X G rfl hF H locs lsA cells slots hS hl
    | some q =>
      rw [hq] at hm
      obtain ⟨h1, h2⟩ := kk _ w r w' hm
      refine ⟨h1, fun X G hC hF H locs lsA cells slots hS hl => ?_⟩
      subst hC
      refine get_any G hS hL hd h0 ?_
      rw [show fv (xC X) w p ci k = .ref (kB (xC X) + q) by unfold fv; rw [if_pos hr, hq]; rfl]
      exact h2 X G rfl hF H locs lsA cells slots hS hl
  · rw [if_neg h0] at hm
    cases hm
theorem stb_set {X : CX} {w w' : Wd} {H H1 : Heap} {locs : List Loc} {cells slots p s1 : Nat} (hS : Stb X w H locs cells slots) (hw : wS w' = wS w) (hH : Hld (xC X) w' H1) (ho : ∀ a : Nat, a ≠ kB (xC X) + p → H1[a]? = H[a]?) : Stb X w' H1 (locs ++ [⟨kB (xC X) + p, s1⟩]) cells slots := by
  obtain ⟨h1, h2, h3, h4, h5⟩ := hS
  refine ⟨hH, fun q hq => by rw [ho q (by omega)]; exact h2 q hq, fun q hq => ?_, ?_, ?_⟩
  · rcases List.mem_append.mp hq with h | h
    · exact h3 q h
    · rw [List.mem_singleton.mp h]; exact Nat.le_add_right _ _
  · rw [h4]; unfold cnt; rw [hw]
  · rw [h5]; unfold slt; rw [hw]
theorem put_any {X : CX} {w w1 : Wd} {H : Heap} {locs : List Loc} {cells slots idx ci k p : Nat} {fin : Bool} {Q : State → Prop} {lsA : Array Slot} {v : Value} (G : CGood X D) (hS : Stb X w H locs cells slots) (hL : FL (dO D) idx ci k fin) (hfin : fin = false ∨ dM D = "<init>") (hd : decode (dC D) pc = .ok (.putfield idx, 3)) (hp : (wS w)[p]? = some (ci, nf ci)) (hw : wS w1 = wS w)
    (hv : fv (xC X) w1 p ci k = v) (hvk : if rk ci k = true then ∃ a, v = .ref a else ∃ i, v = .int i) (hs : ∀ j, j ≠ k → fv (xC X) w1 p ci j = fv (xC X) w p ci j) (e1 : ∀ x, x ≠ p → w1.1 x = w.1 x) (e2 : ∀ x, x ≠ p → w1.2.1 x = w.2.1 x) (e3 : ∀ x, x ≠ p → w1.2.2.1 x = w.2.2.1 x)
    (kk : ∀ (H1 : Heap) (locs1 : List Loc), Stb X w1 H1 locs1 cells slots → WX X H1 locs1 cells slots Q (F0 (xM X) (pc + 3) lsA st)) : WX X H locs cells slots Q (F0 (xM X) pc lsA (v :: .ref (kB (xC X) + p) :: st)) := by
  obtain ⟨Cn, T, ty, hc, hin, hk, hl, ho, hty, hnm, ht1, ht2, hf, hof⟩ := hL
  obtain ⟨hx, hb, hr, hlk, hml, hown, hts, hK, hn, -⟩ := G
  have hci := cl_lt hc
  have hap := va_apart (own := Cn) hts hin ty hty hnm hK.1 hc
  obtain ⟨cell, q1, q2, q3, q4⟩ := (hat_o (by omega)).mp (hS.1.2 p _ hp)
  obtain ⟨hSl, hfc, kC, hkC, hkind⟩ := hK.1.1 ci _ hc
  obtain ⟨cf, kf, fi, f, hi, hsl⟩ := hSl k hk
  have hlay := hts _ (hin _ (u_in_lay hk))
  unfold u_lay at hlay
  have hst := (u_facts hfc hkC (u_lays hts hin hk) hi).1
  have hnf : narrow (ty k) v = v ∧ fits (ty k) v = true := by
    cases hrk : rk ci k with
    | true =>
      rw [if_pos hrk] at hvk
      obtain ⟨a, rfl⟩ := hvk
      rcases ht1 hrk with ⟨n, e⟩ | ⟨t, e⟩ <;> rw [e] <;> exact ⟨rfl, rfl⟩
    | false =>
      rw [if_neg (by rw [hrk]; decide)] at hvk
      obtain ⟨i, rfl⟩ := hvk
      rw [ht2 hrk]
      exact ⟨rfl, rfl⟩
  have fin1 : ∀ (H1 : Heap), H1[kB (xC X) + p]? = some (cell.setSlot f.slot v) → H1.size = H.size → (∀ q, q ≠ kB (xC X) + p → H1[q]? = H[q]?) → WX X H1 (locs ++ [⟨kB (xC X) + p, f.slot⟩]) cells slots Q (F0 (xM X) (pc + 3) lsA st) := by
    intro H1 g1 g2 g3
    refine kk H1 _ (stb_set hS hw ?_ g3)
    refine hS.1.set hp hw g2 g3 e1 e2 e3 ((hat_o (by omega)).mpr ?_)
    rw [hsl] at g1
    refine t_OB.to (V := updV (fun j => fv (xC X) w p ci j) k v) ⟨_, g1, q2, q3, t_set q4 hap hk v⟩ (fun j _ => ?_)
    unfold updV
    by_cases hj : j = k
    · subst hj; simp [hv]
    · simp only [hj, if_false]; exact (hs j hj).symm
  cases hfb : fin with
  | false =>
    rw [if_neg (by rw [hf, hfb]; decide)] at hlay
    have h6 := u_store hfc hkC hkind hlay hi (hty k hk) hnf.1 hnf.2
    refine W.putK hx hb (f := f) ⟨hown, hts _ hl, ⟨_, _, _, by rw [← ho]; exact hi⟩, hst⟩ (by rw [q2]; exact h6) q1 q3 (by rw [hsl]; exact k2_hasslot (q4 k hk)) rfl rfl hd fun H' g1 g2 g3 => fin1 H' g1 g2 g3
  | true =>
    have hdecl : (T k).1 = dO D := by
      rcases hof with h | h
      · exact h
      · rw [hfb] at h; cases h
    have hin2 : (xT X).name = "<init>" := by
      rcases hfin with h | h
      · rw [hfb] at h; cases h
      · rw [hn]; exact h
    rw [if_pos (by rw [hf, hfb])] at hlay
    have hcf : (xM X).cls = cf := by
      obtain ⟨_, _, c', _, _, _, -, -, hf', -, -, -, hown2, -⟩ := Cond.laysFinal_spec hlay
      have e1 : c' = cf := by have := hi.symm.trans hf'; simp at this; exact this.1.symm
      rw [hdecl] at hown2
      rw [← e1]; exact Option.some.inj (hown.symm.trans hown2)
    have h6 := u_fits hfc hkC hkind (Or.inr hlay) hi (hty k hk) hnf.1 hnf.2
    refine W.putFinK hx hb hown (hts _ hl) (by rw [← ho]; exact hi) hst hcf hin2 (by rw [q2]; exact h6) q1 q3 (by rw [hsl]; exact k2_hasslot (q4 k hk)) rfl rfl hd fun H' g1 g2 g3 => fin1 H' g1 g2 g3
theorem C_putI {idx ci k p : Nat} {v : Int32} {f : Unit → Mo α} (hL : FL (dO D) idx ci k false) (hr : rk ci k = false) (hd : decode (dC D) pc = .ok (.putfield idx, 3)) (hp : pc + 3 = pc') (kk : Cmp C D Z pc' ls st (f ())) : Cmp C D Z pc ls (.int v :: .ref (kB C + p) :: st) (mb (sI ci k p v) f) := by
  subst hp
  intro w r w' hm
  unfold mb sI at hm
  by_cases h0 : (wS w)[p]? = some (ci, nf ci)
  · rw [if_pos h0] at hm
    obtain ⟨h1, h2⟩ := kk _ r w' hm
    refine ⟨h1, fun X G hC hF H locs lsA cells slots hS hl => ?_⟩
    subst hC
    refine put_any (w1 := (u2 w.1 p k v, w.2)) (v := .int v) G hS hL (Or.inl rfl) hd h0 rfl ?_ ?_ ?_ ?_ (fun _ _ => rfl) (fun _ _ => rfl) ?_
    · unfold fv; rw [if_neg (by rw [hr]; decide)]; simp [u2]
    · rw [if_neg (by rw [hr]; decide)]; exact ⟨_, rfl⟩
    · intro j hj; unfold fv; simp [u2, hj]
    · intro x hx; funext j; simp [u2, hx]
    · intro H1 locs1 hS1
      exact h2 X G rfl hF H1 locs1 lsA cells slots hS1 hl
  · rw [if_neg h0] at hm
    cases hm
theorem C_putR {idx ci k p q : Nat} {fin : Bool} {f : Unit → Mo α} (hL : FL (dO D) idx ci k fin) (hfin : fin = false ∨ dM D = "<init>") (hr : rk ci k = true) (hd : decode (dC D) pc = .ok (.putfield idx, 3)) (hp : pc + 3 = pc') (kk : Cmp C D Z pc' ls st (f ())) : Cmp C D Z pc ls (.ref (kB C + q) :: .ref (kB C + p) :: st) (mb (sR ci k p q) f) := by
  subst hp
  intro w r w' hm
  unfold mb sR at hm
  by_cases h0 : (wS w)[p]? = some (ci, nf ci)
  · rw [if_pos h0] at hm
    obtain ⟨h1, h2⟩ := kk _ r w' hm
    refine ⟨h1, fun X G hC hF H locs lsA cells slots hS hl => ?_⟩
    subst hC
    refine put_any (w1 := (w.1, w.2.1, u2 w.2.2.1 p k (some q), w.2.2.2)) (v := .ref (kB (xC X) + q)) G hS hL hfin hd h0 rfl ?_ ?_ ?_ (fun _ _ => rfl) (fun _ _ => rfl) ?_ ?_
    · unfold fv; rw [if_pos hr]; simp [u2, rfv, va_rf]
    · rw [if_pos hr]; exact ⟨_, rfl⟩
    · intro j hj; unfold fv; simp [u2, hj]
    · intro x hx; funext j; simp [u2, hx]
    · intro H1 locs1 hS1
      exact h2 X G rfl hF H1 locs1 lsA cells slots hS1 hl
  · rw [if_neg h0] at hm
    cases hm
end RulesM
end
section
/-! ===== rules: arrays, new cells, calls ===== -/
theorem stb_new {X : CX} {w : Wd} {H H1 : Heap} {locs : List Loc} {cells slots : Nat} {q : Nat × Nat} (hS : Stb X w H locs cells slots) (hz : H1.size = H.size + 1) (ho : ∀ a, a < H.size → H1[a]? = H[a]?) (hn : Hat (xC X) (wNew w q) (cnt w) q H1) : Stb X (wNew w q) H1 locs (cells + 1) (slots + q.2) := by
  obtain ⟨h1, h2, h3, h4, h5⟩ := hS
  have h6 := h1.1
  refine ⟨h1.push hz ho hn, fun a ha => by rw [ho a (by omega)]; exact h2 a ha, h3, ?_, ?_⟩
  · show x0 X + (cells + 1) = (w.2.2.2 ++ [q]).length
    have : x0 X + cells = w.2.2.2.length := h4
    simp; omega
  · show x1 X + (slots + q.2) = ((w.2.2.2 ++ [q]).map (fun q => q.2)).sum
    have : x1 X + slots = (w.2.2.2.map (fun q => q.2)).sum := h5
    simp; omega
theorem cnt_new (w : Wd) (q : Nat × Nat) : cnt (wNew w q) = cnt w + 1 := by show (w.2.2.2 ++ [q]).length = _; simp [cnt]
theorem slt_new (w : Wd) (q : Nat × Nat) : slt (wNew w q) = slt w + q.2 := by show ((w.2.2.2 ++ [q]).map (fun q => q.2)).sum = _; simp [slt]
theorem fit_new {X : CX} {w w' : Wd} {H : Heap} {locs : List Loc} {cells slots : Nat} {q : Nat × Nat} (hS : Stb X w H locs cells slots) (hF : Fit X w') (hm : cnt (wNew w q) ≤ cnt w' ∧ slt (wNew w q) ≤ slt w') : cells + 1 ≤ (xR X).cells ∧ slots + q.2 ≤ (xR X).slots := by
  obtain ⟨-, -, -, h4, h5⟩ := hS
  obtain ⟨h6, h7⟩ := hF
  rw [cnt_new, slt_new] at hm
  omega
theorem nin {i : Int32} {n : Nat} (h : ¬ i < 0 ∧ i.toNatClampNeg < n) : ¬ (i < 0 ∨ n ≤ i.toNatClampNeg) := fun h1 => h1.elim h.1 (Nat.not_le.mpr h.2)
section RulesN
variable {α : Type} {C : KX} {D : MD} {Z : ZT α} {pc pc' : Nat} {ls : List (Nat × Value)} {st : List Value}
theorem C_aI {p : Nat} {i : Int32} {f : Int32 → Mo α} (hd : decode (dC D) pc = .ok (.iaload, 1)) (hp : pc + 1 = pc') (kk : ∀ v : Int32, Cmp C D Z pc' ls (.int v :: st) (f v)) : Cmp C D Z pc ls (.int i :: .ref (kB C + p) :: st) (mb (aI p i) f) := by
  subst hp
  intro w r w' hm
  unfold mb aI at hm
  by_cases h0 : ¬ i < 0 ∧ i.toNatClampNeg < alen w 100 p
  · rw [if_pos h0] at hm
    obtain ⟨h1, h2⟩ := kk _ w r w' hm
    refine ⟨h1, fun X G hC hF H locs lsA cells slots hS hl => ?_⟩
    subst hC
    have hat := hat_i.mp (hS.1.2 p _ (alen_at h0.2))
    refine W.iald (v := .int (w.1 p i.toNatClampNeg)) G.1 G.2.1 hat ((G.2.2.2.2.2.2.2.1.1.2 0 _ rfl).1 _ (fun j => .int (w.1 p j))) (fun q => by cases q) ?_ ?_ rfl rfl hd (h2 X G rfl hF H locs lsA cells slots hS hl)
    · show ¬ (i < 0 ∨ (arrV _ _ _).slots.size ≤ _)
      rw [arrV_size]; exact nin h0
    · show (arrV _ _ _).slots[_]? = _
      rw [arrV_read _ _ h0.2]
  · rw [if_neg h0] at hm
    cases hm
theorem C_aJ {p : Nat} {i : Int32} {f : Int64 → Mo α} (hd : decode (dC D) pc = .ok (.laload, 1)) (hp : pc + 1 = pc') (kk : ∀ v : Int64, Cmp C D Z pc' ls (.long v :: st) (f v)) : Cmp C D Z pc ls (.int i :: .ref (kB C + p) :: st) (mb (aJ p i) f) := by
  subst hp
  intro w r w' hm
  unfold mb aJ at hm
  by_cases h0 : ¬ i < 0 ∧ i.toNatClampNeg < alen w 101 p
  · rw [if_pos h0] at hm
    obtain ⟨h1, h2⟩ := kk _ w r w' hm
    refine ⟨h1, fun X G hC hF H locs lsA cells slots hS hl => ?_⟩
    subst hC
    have hat := hat_j.mp (hS.1.2 p _ (alen_at h0.2))
    refine W.lald (v := .long (w.2.1 p i.toNatClampNeg)) G.1 G.2.1 hat ((G.2.2.2.2.2.2.2.1.1.2 1 _ rfl).1 _ (fun j => .long (w.2.1 p j))) (fun q => by cases q) ?_ ?_ rfl rfl hd (h2 X G rfl hF H locs lsA cells slots hS hl)
    · show ¬ (i < 0 ∨ (arrV _ _ _).slots.size ≤ _)
      rw [arrV_size]; exact nin h0
    · show (arrV _ _ _).slots[_]? = _
      rw [arrV_read _ _ h0.2]
  · rw [if_neg h0] at hm
    cases hm
theorem C_aZ {p : Nat} {i : Int32} {f : Int32 → Mo α} (hd : decode (dC D) pc = .ok (.baload, 1)) (hp : pc + 1 = pc') (kk : ∀ v : Int32, Cmp C D Z pc' ls (.int v :: st) (f v)) : Cmp C D Z pc ls (.int i :: .ref (kB C + p) :: st) (mb (aZ p i) f) := by
  subst hp
  intro w r w' hm
  unfold mb aZ at hm
  by_cases h0 : ¬ i < 0 ∧ i.toNatClampNeg < alen w 102 p
  · rw [if_pos h0] at hm
    obtain ⟨h1, h2⟩ := kk _ w r w' hm
    refine ⟨h1, fun X G hC hF H locs lsA cells slots hS hl => ?_⟩
    subst hC
    have hat := hat_z.mp (hS.1.2 p _ (alen_at h0.2))
    refine W.zald (v := .int (w.1 p i.toNatClampNeg)) G.1 G.2.1 hat ((G.2.2.2.2.2.2.2.1.1.2 2 _ rfl).1 _ (fun j => .int (w.1 p j))) (fun q => by cases q) ?_ ?_ rfl rfl hd (h2 X G rfl hF H locs lsA cells slots hS hl)
    · show ¬ (i < 0 ∨ (arrV _ _ _).slots.size ≤ _)
      rw [arrV_size]; exact nin h0
    · show (arrV _ _ _).slots[_]? = _
      rw [arrV_read _ _ h0.2]
  · rw [if_neg h0] at hm
    cases hm
theorem C_aQ {p : Nat} {i : Int32} {f : Option Nat → Mo α} (hd : decode (dC D) pc = .ok (.aaload, 1)) (hp : pc + 1 = pc') (kn : Cmp C D Z pc' ls (.null :: st) (f none)) (kk : ∀ v : Nat, Cmp C D Z pc' ls (.ref (kB C + v) :: st) (f (some v))) : Cmp C D Z pc ls (.int i :: .ref (kB C + p) :: st) (mb (aQ p i) f) := by
  subst hp
  intro w r w' hm
  unfold mb aQ at hm
  by_cases h0 : ¬ i < 0 ∧ i.toNatClampNeg < alen w 103 p
  · rw [if_pos h0] at hm
    have key : ∀ (X : CX) (v : Value), xC X = C → CGood X D → ∀ (H : Heap) (locs : List Loc) (lsA : Array Slot) (cells slots : Nat) (Q : State → Prop), Stb X w H locs cells slots → va_rf ((w.2.2.1 p i.toNatClampNeg).map (fun q => kB (xC X) + q)) = v → WX X H locs cells slots Q (F0 (xM X) (pc + 1) lsA (v :: st)) → WX X H locs cells slots Q (F0 (xM X) pc lsA (.int i :: .ref (kB (xC X) + p) :: st)) := by
      intro X v hC G H locs lsA cells slots Q hS hv k
      have hat := hat_q.mp (hS.1.2 p _ (alen_at h0.2))
      refine W.aald (v := v) (ty := .object RX1) G.1 G.2.1 hat ((G.2.2.2.2.2.2.2.1.1.2 3 _ rfl).1 _ (fun j => va_rf ((w.2.2.1 p j).map (fun q => kB (xC X) + q)))) rfl (fun q => by cases q) ?_ ?_ rfl rfl hd k
      · show ¬ (i < 0 ∨ (arrV _ _ _).slots.size ≤ _)
        rw [arrV_size]; exact nin h0
      · show (arrV _ _ _).slots[_]? = _
        rw [arrV_read _ _ h0.2, hv]
    cases hq : w.2.2.1 p i.toNatClampNeg with
    | none =>
      rw [hq] at hm
      obtain ⟨h1, h2⟩ := kn w r w' hm
      refine ⟨h1, fun X G hC hF H locs lsA cells slots hS hl => ?_⟩
      subst hC
      exact key X .null rfl G H locs lsA cells slots _ hS (by rw [hq]; rfl) (h2 X G rfl hF H locs lsA cells slots hS hl)
    | some q =>
      rw [hq] at hm
      obtain ⟨h1, h2⟩ := kk q w r w' hm
      refine ⟨h1, fun X G hC hF H locs lsA cells slots hS hl => ?_⟩
      subst hC
      exact key X (.ref (kB (xC X) + q)) rfl G H locs lsA cells slots _ hS (by rw [hq]; rfl) (h2 X G rfl hF H locs lsA cells slots hS hl)
  · rw [if_neg h0] at hm
    cases hm
theorem C_tI {p : Nat} {i v : Int32} {f : Unit → Mo α} (hd : decode (dC D) pc = .ok (.iastore, 1)) (hp : pc + 1 = pc') (kk : Cmp C D Z pc' ls st (f ())) : Cmp C D Z pc ls (.int v :: .int i :: .ref (kB C + p) :: st) (mb (tI p i v) f) := by
  subst hp
  intro w r w' hm
  unfold mb tI at hm
  by_cases h0 : ¬ i < 0 ∧ i.toNatClampNeg < alen w 100 p
  · rw [if_pos h0] at hm
    obtain ⟨h1, h2⟩ := kk _ r w' hm
    refine ⟨h1, fun X G hC hF H locs lsA cells slots hS hl => ?_⟩
    subst hC
    have hp := alen_at h0.2
    have hat := hat_i.mp (hS.1.2 p _ hp)
    refine W.iast G.1 G.2.1 hat ((G.2.2.2.2.2.2.2.1.1.2 0 _ rfl).1 _ (fun j => .int (w.1 p j))) (fun q => by cases q) ?_ rfl rfl hd fun H1 e z oq => ?_
    · show ¬ (i < 0 ∨ (arrV _ _ _).slots.size ≤ _)
      rw [arrV_size]; exact nin h0
    · refine h2 X G rfl hF H1 _ lsA cells slots (stb_set (w' := (u2 w.1 p i.toNatClampNeg v, w.2)) hS rfl (hS.1.set hp rfl z oq (fun x hx => by funext j; simp [u2, hx]) (fun _ _ => rfl) (fun _ _ => rfl) (hat_i.mpr ?_)) oq) hl
      rw [e, vp_cell_i, vp_cell_i, arrV_store]
      congr 2
      funext q
      by_cases hq : q = i.toNatClampNeg
      · subst hq; simp [updV, u2]
      · simp [updV, u2, hq]
  · rw [if_neg h0] at hm
    cases hm
theorem C_tZ {p : Nat} {i v : Int32} {f : Unit → Mo α} (hd : decode (dC D) pc = .ok (.bastore, 1)) (hp : pc + 1 = pc') (kk : Cmp C D Z pc' ls st (f ())) : Cmp C D Z pc ls (.int v :: .int i :: .ref (kB C + p) :: st) (mb (tZ p i v) f) := by
  subst hp
  intro w r w' hm
  unfold mb tZ at hm
  by_cases h0 : (¬ i < 0 ∧ i.toNatClampNeg < alen w 102 p) ∧ (v = 0 ∨ v = 1)
  · rw [if_pos h0] at hm
    obtain ⟨h1, h2⟩ := kk _ r w' hm
    refine ⟨h1, fun X G hC hF H locs lsA cells slots hS hl => ?_⟩
    subst hC
    have hp := alen_at h0.1.2
    have hat := hat_z.mp (hS.1.2 p _ hp)
    refine W.zast G.1 G.2.1 hat ((G.2.2.2.2.2.2.2.1.1.2 2 _ rfl).1 _ (fun j => .int (w.1 p j))) (fun q => by cases q) ?_ rfl rfl hd fun H1 e z oq => ?_
    · show ¬ (i < 0 ∨ (arrV _ _ _).slots.size ≤ _)
      rw [arrV_size]; exact nin h0.1
    · refine h2 X G rfl hF H1 _ lsA cells slots (stb_set (w' := (u2 w.1 p i.toNatClampNeg v, w.2)) hS rfl (hS.1.set hp rfl z oq (fun x hx => by funext j; simp [u2, hx]) (fun _ _ => rfl) (fun _ _ => rfl) (hat_z.mpr ?_)) oq) hl
      have hnv : narrow .boolean (.int v) = .int v := by rcases h0.2 with rfl | rfl <;> rfl
      rw [e, hnv, vp_cell_i, vp_cell_i, arrV_store]
      congr 2
      funext q
      by_cases hq : q = i.toNatClampNeg
      · subst hq; simp [updV, u2]
      · simp [updV, u2, hq]
  · rw [if_neg h0] at hm
    cases hm
theorem C_tJ {p : Nat} {i : Int32} {v : Int64} {f : Unit → Mo α} (hd : decode (dC D) pc = .ok (.lastore, 1)) (hp : pc + 1 = pc') (kk : Cmp C D Z pc' ls st (f ())) : Cmp C D Z pc ls (.long v :: .int i :: .ref (kB C + p) :: st) (mb (tJ p i v) f) := by
  subst hp
  intro w r w' hm
  unfold mb tJ at hm
  by_cases h0 : ¬ i < 0 ∧ i.toNatClampNeg < alen w 101 p
  · rw [if_pos h0] at hm
    obtain ⟨h1, h2⟩ := kk _ r w' hm
    refine ⟨h1, fun X G hC hF H locs lsA cells slots hS hl => ?_⟩
    subst hC
    have hp := alen_at h0.2
    have hat := hat_j.mp (hS.1.2 p _ hp)
    refine W.last G.1 G.2.1 hat ((G.2.2.2.2.2.2.2.1.1.2 1 _ rfl).1 _ (fun j => .long (w.2.1 p j))) (fun q => by cases q) ?_ rfl rfl hd fun H1 e z oq => ?_
    · show ¬ (i < 0 ∨ (arrV _ _ _).slots.size ≤ _)
      rw [arrV_size]; exact nin h0
    · refine h2 X G rfl hF H1 _ lsA cells slots (stb_set (w' := (w.1, u2 w.2.1 p i.toNatClampNeg v, w.2.2)) hS rfl (hS.1.set hp rfl z oq (fun _ _ => rfl) (fun x hx => by funext j; simp [u2, hx]) (fun _ _ => rfl) (hat_j.mpr ?_)) oq) hl
      rw [e, vp_cell_l, vp_cell_l, arrV_store]
      congr 2
      funext q
      by_cases hq : q = i.toNatClampNeg
      · subst hq; simp [updV, u2]
      · simp [updV, u2, hq]
  · rw [if_neg h0] at hm
    cases hm
theorem C_tQ {p q : Nat} {i : Int32} {f : Unit → Mo α} (hd : decode (dC D) pc = .ok (.aastore, 1)) (hp : pc + 1 = pc') (kk : Cmp C D Z pc' ls st (f ())) : Cmp C D Z pc ls (.ref (kB C + q) :: .int i :: .ref (kB C + p) :: st) (mb (tQ p i q) f) := by
  subst hp
  intro w r w' hm
  unfold mb tQ at hm
  by_cases h0 : (¬ i < 0 ∧ i.toNatClampNeg < alen w 103 p) ∧ (wS w)[q]? = some (1, nf 1)
  · rw [if_pos h0] at hm
    obtain ⟨h1, h2⟩ := kk _ r w' hm
    refine ⟨h1, fun X G hC hF H locs lsA cells slots hS hl => ?_⟩
    subst hC
    have hp := alen_at h0.1.2
    have hat := hat_q.mp (hS.1.2 p _ hp)
    obtain ⟨cellV, g1, g2, g3, -⟩ := (hat_o (by decide)).mp (hS.1.2 q _ h0.2)
    have hK := G.2.2.2.2.2.2.2.1.1
    have hcls := (hK.1 1 _ rfl).2
    obtain ⟨kA, comp, k1, k2, k3, -⟩ := (hK.2 3 _ rfl).2
    have hcomp : comp = (kD (xC X)).1 1 := Option.some.inj (k3.symm.trans hcls.1)
    subst hcomp
    obtain ⟨kC, hkC, hkind⟩ := hcls.2
    refine W.aast G.1 G.2.1 hat (fun q h => by cases h) (fun h => by cases h) k1 k2 rfl hkC ⟨h0.1.1, by show _ < (arrV _ _ _).slots.size; rw [arrV_size]; exact h0.1.2⟩ g1 (fun q h => by rw [g3] at h; cases h) (by rw [g2]; exact hkC) (by rw [g2]; exact va_assign hcls) rfl rfl hd fun H1 e z oq => ?_
    refine h2 X G rfl hF H1 _ lsA cells slots (stb_set (w' := (w.1, w.2.1, u2 w.2.2.1 p i.toNatClampNeg (some q), w.2.2.2)) hS rfl (hS.1.set hp rfl z oq (fun _ _ => rfl) (fun _ _ => rfl) (fun x hx => by funext j; simp [u2, hx]) (hat_q.mpr ?_)) oq) hl
    rw [e, vp_cell_q, vp_cell_q, arrV_store]
    congr 2
    funext q2
    by_cases hq : q2 = i.toNatClampNeg
    · subst hq; simp [updV, u2, va_rf]
    · simp [updV, u2, hq]
  · rw [if_neg h0] at hm
    cases hm
theorem C_alen {kd p : Nat} {f : Int32 → Mo α} (hkd : kd = 100 ∨ kd = 101) (hd : decode (dC D) pc = .ok (.arraylength, 1)) (hp : pc + 1 = pc') (kk : ∀ v : Int32, Cmp C D Z pc' ls (.int v :: st) (f v)) : Cmp C D Z pc ls (.ref (kB C + p) :: st) (mb (aL kd p) f) := by
  subst hp
  intro w r w' hm
  unfold mb aL at hm
  cases hq : (wS w)[p]? with
  | none => rw [hq] at hm; cases hm
  | some q =>
    rw [hq] at hm
    simp only at hm
    by_cases hk : q.1 = kd
    · rw [if_pos hk] at hm
      obtain ⟨h1, h2⟩ := kk _ w r w' hm
      refine ⟨h1, fun X G hC hF H locs lsA cells slots hS hl => ?_⟩
      subst hC
      obtain ⟨q1, n⟩ := q
      simp only at hk
      subst hk
      rcases hkd with rfl | rfl
      · have hat := hat_i.mp (hS.1.2 p _ hq)
        refine W.alen (n := Int32.ofNat n) G.1 G.2.1 hat ((G.2.2.2.2.2.2.2.1.1.2 0 _ rfl).1 _ (fun j => .int (w.1 p j))) ?_ rfl rfl hd (h2 X G rfl hF H locs lsA cells slots hS hl)
        show (arrV _ _ _).slots.size.toInt32 = _
        rw [arrV_size]
      · have hat := hat_j.mp (hS.1.2 p _ hq)
        refine W.alen (n := Int32.ofNat n) G.1 G.2.1 hat ((G.2.2.2.2.2.2.2.1.1.2 1 _ rfl).1 _ (fun j => .long (w.2.1 p j))) ?_ rfl rfl hd (h2 X G rfl hF H locs lsA cells slots hS hl)
        show (arrV _ _ _).slots.size.toInt32 = _
        rw [arrV_size]
    · rw [if_neg hk] at hm
      cases hm
end RulesN
end
section
/-! ===== rules: new cells, calls ===== -/
def NL (own : String) (idx ci : Nat) : Prop := ∃ (Cn : String) (T : u_T) (ty : Nat → FieldType), vwCl[ci]? = some (Cn, T, nf ci) ∧ (∀ w ∈ u_ws Cn T (nf ci), w ∈ TB) ∧ (∀ k, k < nf ci → parseFieldDescriptor (T k).2.2.1 = some (ty k)) ∧ (∀ k, k < nf ci → defaultValue (ty k) = if rk ci k = true then .null else .int 0) ∧ Cond.classLink own idx Cn ∈ TB ∧ Cond.instantiable Cn (nf ci) ∈ TB ∧ Cond.initialized Cn ∈ TB
def wordsOk (y : MethodName) (cc : ByteArray) (maxL : Nat) (rt : Option FieldType) (n : Nat) : Prop := Cond.code y cc maxL rt ∈ TB ∧ Cond.initialized y.cls ∈ TB ∧ (y.cls ≠ "java/lang/invoke/MethodHandle" ∧ y.cls ≠ "java/lang/invoke/VarHandle" ∧ (parseMethodDescriptor y.desc).map (fun d => d.parameters.length) = some n)
def VL (own : String) (idx ci : Nat) (y : MethodName) (cc : ByteArray) (maxL : Nat) (rt : Option FieldType) (n : Nat) : Prop := wordsOk y cc maxL rt n ∧ Cond.methodLink own idx y ∈ TB ∧ Cond.instanceMethod y ∈ TB ∧ Cond.selects y.cls y y ∈ TB ∧ ∃ q : vw_C, vwCl[ci]? = some q ∧ q.1 = y.cls
def SL (own : String) (idx : Nat) (y : MethodName) (cc : ByteArray) (maxL : Nat) (rt : Option FieldType) (n : Nat) : Prop := wordsOk y cc maxL rt n ∧ Cond.methodLink own idx y ∈ TB ∧ Cond.static y ∈ TB
def IL (own : String) (idx : Nat) (y : MethodName) (cc : ByteArray) (maxL : Nat) (n : Nat) : Prop := wordsOk y cc maxL none n ∧ Cond.methodLink own idx y ∈ TB ∧ Cond.instanceMethod y ∈ TB ∧ y.name = "<init>"
def SLN (own : String) (idx : Nat) (y : MethodName) (cc : ByteArray) (maxL : Nat) (rt : Option FieldType) (n : Nat) : Prop := wordsOk y cc maxL rt n ∧ (∃ host, Cond.methodLinkNest own idx y host ∈ NW) ∧ Cond.static y ∈ TB
def ILN (own : String) (idx : Nat) (y : MethodName) (cc : ByteArray) (maxL : Nat) (n : Nat) : Prop := wordsOk y cc maxL none n ∧ (∃ host, Cond.methodLinkNest own idx y host ∈ NW) ∧ Cond.instanceMethod y ∈ TB ∧ y.name = "<init>"
theorem tb_goodIn {y : MethodName} {cc : ByteArray} {maxL : Nat} {rt : Option FieldType} (h : Cond.code y cc maxL rt ∈ TB) : GoodIn TB (Cond.code y cc maxL rt :: TB) := by
  intro w hw
  rcases List.mem_cons.mp hw with rfl | hw
  · exact ⟨h, tb_good _ h⟩
  · exact ⟨hw, tb_good _ hw⟩
theorem run_on {X : CX} {w1 : Wd} {H : Heap} {locs : List Loc} {cells slots mc ms pc : Nat} {lsA : Array Slot} {st0 rest : List Value} {ro : Option Value} {a : Array Value} {Q : State → Prop} (hr : va_Run (xP X) (kL (xC X)) (xE X) (xR X) (xS X) (xM X) (xA X) (xB X) (xT X) (xO X) H locs cells slots mc ms (F0 (xM X) pc lsA st0) rest (Qo (xC X) ro w1 a) (fun q => kB (xC X) ≤ q))
    (hL : ∀ q ∈ locs, kB (xC X) ≤ q.base) (kk : ∀ (H1 : Heap) (locs1 : List Loc), Hld (xC X) w1 H1 → (∀ q : Nat, q < kB (xC X) → H1[q]? = H[q]?) → (∀ q ∈ locs1, kB (xC X) ≤ q.base) → WX X H1 locs1 (cells + mc) (slots + ms) Q (F0 (xM X) (pc + 3) lsA (ro.toList ++ rest))) : WX X H locs cells slots Q (F0 (xM X) pc lsA st0) := by
  intro T hT S
  obtain ⟨v, st₀, t, T', L, h0, S', hL2, e1, e2, ⟨hv, hH, hk⟩, stp⟩ := hr T hT S
  cases hv
  obtain ⟨t2, a1, b1⟩ := kk T'.heap (locs ++ L) (by rw [e1]; exact hH) (fun q hq => by rw [e1, hk q hq, h0]) (fun q hq => by
      rcases List.mem_append.mp hq with h | h
      · exact hL q h
      · exact hL2 q h) T' rfl S'
  exact ⟨t2, stp t2 a1, b1⟩
/-- behind a call, where the callee's computation has said what it does -/
theorem call_end {α β : Type} {C : KX} {D : MD} {Z : ZT α} {pc : Nat} {ls : List (Nat × Value)} {st st0 : List Value} {f : Mo β} {k : β → Mo α} {rv : β → Option Value} {Fc Lc maxL : Nat} {y : MethodName} {cc : ByteArray} {rt : Option FieldType} {As : List Value} (ga : Wd → Prop)
    (hI : Imp C y cc maxL rt Fc Lc rv As f) (hF : Fc + 1 ≤ dF D) (hL : 8 + (maxL + 11) + Lc ≤ dL D)
    (hrun : ∀ (w w1 : Wd) (r : β) (X : CX) (H : Heap) (locs : List Loc) (lsA : Array Slot) (cells slots : Nat), CGood X D → xC X = C → ga w → Stb X w H locs cells slots → lsA.size = dN D → Met (kL C) y (Cond.code y cc maxL rt :: TB) ({ frames := Fc, cells := cnt w1 - cnt w, slots := slt w1 - slt w, locals := Lc }) (va_Pc As (fun U => KK C U ∧ Hld C w U.heap)) (Qo C (rv r) w1) (cnt w1 - cnt w) (slt w1 - slt w) (fun q => kB C ≤ q) →
      Fc + 1 ≤ (xR X).frames → 8 + (maxL + 11) + Lc ≤ (xR X).locals → cells + (cnt w1 - cnt w) ≤ (xR X).cells ∧ slots + (slt w1 - slt w) ≤ (xR X).slots → va_Run (xP X) (kL (xC X)) (xE X) (xR X) (xS X) (xM X) (xA X) (xB X) (xT X) (xO X) H locs cells slots (cnt w1 - cnt w) (slt w1 - slt w) (F0 (xM X) pc lsA st0) st (Qo (xC X) (rv r) w1 As.toArray) (fun q => kB (xC X) ≤ q))
    (kk : ∀ r : β, Cmp C D Z (pc + 3) ls ((rv r).toList ++ st) (k r)) (w : Wd) (r : α) (w' : Wd) (hg : ga w) (hm : mb f k w = some (r, w')) : (cnt w ≤ cnt w' ∧ slt w ≤ slt w') ∧
    ∀ X : CX, CGood X D → xC X = C → Fit X w' → ∀ (H : Heap) (locs : List Loc) (lsA : Array Slot) (cells slots : Nat), Stb X w H locs cells slots → lv_has lsA (dN D) ls → WX X H locs cells slots (Z X r w') (F0 (xM X) pc lsA st0) := by
  unfold mb at hm
  cases hf : f w with
  | none => rw [hf] at hm; cases hm
  | some q =>
    obtain ⟨r1, w1⟩ := q
    rw [hf] at hm
    obtain ⟨m1, hMet⟩ := hI w r1 w1 hf
    obtain ⟨m2, h2⟩ := kk r1 w1 r w' hm
    refine ⟨by omega, fun X G hC hFit H locs lsA cells slots hS hl => ?_⟩
    have hfr : (xR X).frames = dF D := G.2.2.2.2.2.2.2.2.2.1
    have hlo : (xR X).locals = dL D := G.2.2.2.2.2.2.2.2.2.2.1
    obtain ⟨s1, s2, s3, s4, s5⟩ := id hS
    obtain ⟨f1, f2⟩ := id hFit
    have hroom : cells + (cnt w1 - cnt w) ≤ (xR X).cells ∧ slots + (slt w1 - slt w) ≤ (xR X).slots := by omega
    refine run_on (hrun w w1 r1 X H locs lsA cells slots G hC hg hS hl.1 hMet (by omega) (by omega) hroom) s3 fun H1 locs1 g1 g2 g3 => ?_
    subst hC
    exact h2 X G rfl hFit H1 locs1 lsA _ _ ⟨g1, fun q hq => by rw [g2 q hq]; exact s2 q hq, g3, by omega, by omega⟩ hl
theorem pre_blind {C : KX} {w : Wd} {As : List Value} : FrameBlind (va_Pc As (fun U => KK C U ∧ Hld C w U.heap)) := by
  intro a U g mk h
  exact ⟨h.1, h.2.1.calling g mk a, h.2.2⟩
section RulesC
variable {α β : Type} {C : KX} {D : MD} {Z : ZT α} {pc pc' : Nat} {ls : List (Nat × Value)} {st : List Value} {f : Mo β} {k : β → Mo α} {rv : β → Option Value} {Fc Lc maxL n idx : Nat} {y : MethodName} {cc : ByteArray} {rt : Option FieldType}
theorem C_callV {ci p : Nat} (As : List Value) (hV : VL (dO D) idx ci y cc maxL rt n) (hI : Imp C y cc maxL rt Fc Lc rv (.ref (kB C + p) :: As) f) (hd : decode (dC D) pc = .ok (.invokevirtual idx, 3)) (hp : pc + 3 = pc') (hn : As.length = n) {st0 : List Value} (hst : st0 = As.reverse ++ .ref (kB C + p) :: st) (hW : (st.map fun v => v.category).sum ≤ 8) (hF : Fc + 1 ≤ dF D) (hL : 8 + (maxL + 11) + Lc ≤ dL D)
    (kk : ∀ r : β, Cmp C D Z pc' ls ((rv r).toList ++ st) (k r)) : Cmp C D Z pc ls st0 (mb (vc ci p f) k) := by
  subst hp
  intro w r w' hm
  by_cases h0 : (wS w)[p]? = some (ci, nf ci)
  · have hm' : mb f k w = some (r, w') := by
      unfold mb vc at hm
      rw [if_pos h0] at hm
      exact hm
    refine call_end (fun w => (wS w)[p]? = some (ci, nf ci)) hI hF hL ?_ kk w r w' h0 hm'
    intro w w1 r X H locs lsA cells slots G hC hg hS hsz hM hf hlo hroom
    subst hC
    obtain ⟨⟨c1, c2, c3⟩, v1, v2, v3, q, q1, q2⟩ := hV
    have hts := G.2.2.2.2.2.2.1
    have hK := G.2.2.2.2.2.2.2.1
    refine va_runV (C := y.cls) (b := kB (xC X) + p) (As := As) (Ts := TB) (own := dO D) (n := n) ⟨G.1, G.2.1, G.2.2.2.2.1, G.2.2.2.2.2.1, hts⟩ hM ⟨callB_of n hts (tb_goodIn c1) rfl rfl rfl (hts _ c2) (hts _ v1) c3 ⟨hf, hlo⟩, hts _ v2, hts _ v3⟩ ⟨pre_blind, ?_, fun U hU hW => ⟨rfl, hK.warm hW, by rw [hU]; exact hS.1⟩⟩ rfl hn hsz hst (by show 2 * 0 + _ ≤ 8; omega) hd hroom
    have hci := cl_lt q1
    obtain ⟨cell, g1, g2, g3, -⟩ := (hat_o (by omega)).mp (hS.1.2 p _ hg)
    exact ⟨cell, g1, by rw [g3]; rfl, by rw [g2, ← q2]; exact (hK.1.1 ci q q1).2.1⟩
  · unfold mb vc at hm
    rw [if_neg h0] at hm
    cases hm
theorem C_callS (As : List Value) (hV : SL (dO D) idx y cc maxL rt n) (hI : Imp C y cc maxL rt Fc Lc rv As f) (hd : decode (dC D) pc = .ok (.invokestatic idx, 3)) (hp : pc + 3 = pc') (hn : As.length = n) {st0 : List Value} (hst : st0 = As.reverse ++ st) (hW : (st.map fun v => v.category).sum ≤ 8) (hF : Fc + 1 ≤ dF D) (hL : 8 + (maxL + 11) + Lc ≤ dL D)
    (kk : ∀ r : β, Cmp C D Z pc' ls ((rv r).toList ++ st) (k r)) : Cmp C D Z pc ls st0 (mb f k) := by
  subst hp
  intro w r w' hm
  refine call_end (fun _ => True) hI hF hL ?_ kk w r w' trivial hm
  intro w w1 r X H locs lsA cells slots G hC hg hS hsz hM hf hlo hroom
  subst hC
  obtain ⟨⟨c1, c2, c3⟩, v1, v2⟩ := hV
  have hts := G.2.2.2.2.2.2.1
  have hK := G.2.2.2.2.2.2.2.1
  exact va_runS (As := As) (Ts := TB) (own := dO D) (n := n) ⟨G.1, G.2.1, G.2.2.2.2.1, G.2.2.2.2.2.1, hts⟩ hM ⟨callB_of n hts (tb_goodIn c1) rfl rfl rfl (hts _ c2) (hts _ v1) c3 ⟨hf, hlo⟩, hts _ v2⟩ ⟨pre_blind, fun U hU hW => ⟨rfl, hK.warm hW, by rw [hU]; exact hS.1⟩⟩ rfl hn hsz hst (by show 2 * 0 + _ ≤ 8; omega) hd hroom
theorem C_callSN (As : List Value) (hV : SLN (dO D) idx y cc maxL rt n) (hI : Imp C y cc maxL rt Fc Lc rv As f) (hd : decode (dC D) pc = .ok (.invokestatic idx, 3)) (hp : pc + 3 = pc') (hn : As.length = n) {st0 : List Value} (hst : st0 = As.reverse ++ st) (hW : (st.map fun v => v.category).sum ≤ 8) (hF : Fc + 1 ≤ dF D) (hL : 8 + (maxL + 11) + Lc ≤ dL D)
    (kk : ∀ r : β, Cmp C D Z pc' ls ((rv r).toList ++ st) (k r)) : Cmp C D Z pc ls st0 (mb f k) := by
  subst hp
  intro w r w' hm
  refine call_end (fun _ => True) hI hF hL ?_ kk w r w' trivial hm
  intro w w1 r X H locs lsA cells slots G hC hg hS hsz hM hf hlo hroom
  subst hC
  obtain ⟨⟨c1, c2, c3⟩, ⟨host, v1⟩, v2⟩ := hV
  have hts := G.2.2.2.2.2.2.1
  have hK := G.2.2.2.2.2.2.2.1
  exact va_runSN (As := As) (Ts := TB) (own := dO D) (n := n) ⟨G.1, G.2.1, G.2.2.2.2.1, G.2.2.2.2.2.1, hts⟩ hM ⟨va_cnB n hts (tb_goodIn c1) rfl rfl rfl (hK.2.2 _ v1) (hts _ c2) c3 ⟨hf, hlo⟩, hts _ v2, trivial⟩ ⟨pre_blind, fun U hU hW => ⟨rfl, hK.warm hW, by rw [hU]; exact hS.1⟩⟩ rfl hn hsz hst (by show 2 * 0 + _ ≤ 8; omega) hd hroom
theorem C_callI {p : Nat} (As : List Value) (hV : IL (dO D) idx y cc maxL n) (hI : Imp C y cc maxL none Fc Lc rv (.ref (kB C + p) :: As) f) (hd : decode (dC D) pc = .ok (.invokespecial idx, 3)) (hp : pc + 3 = pc') (hn : As.length = n) {st0 : List Value} (hst : st0 = As.reverse ++ .ref (kB C + p) :: st) (hW : (st.map fun v => v.category).sum ≤ 8) (hF : Fc + 1 ≤ dF D) (hL : 8 + (maxL + 11) + Lc ≤ dL D)
    (kk : ∀ r : β, Cmp C D Z pc' ls ((rv r).toList ++ st) (k r)) : Cmp C D Z pc ls st0 (mb f k) := by
  subst hp
  intro w r w' hm
  refine call_end (fun _ => True) hI hF hL ?_ kk w r w' trivial hm
  intro w w1 r X H locs lsA cells slots G hC hg hS hsz hM hf hlo hroom
  subst hC
  obtain ⟨⟨c1, c2, c3⟩, v1, v2, v3⟩ := hV
  have hts := G.2.2.2.2.2.2.1
  have hK := G.2.2.2.2.2.2.2.1
  exact va_runI (b := kB (xC X) + p) (As := As) (Ts := TB) (own := dO D) (n := n) ⟨G.1, G.2.1, G.2.2.2.2.1, G.2.2.2.2.2.1, hts⟩ hM ⟨callB_of n hts (tb_goodIn c1) rfl rfl rfl (hts _ c2) (hts _ v1) c3 ⟨hf, hlo⟩, v3, hts _ v2⟩ ⟨pre_blind, fun U hU hW => ⟨rfl, hK.warm hW, by rw [hU]; exact hS.1⟩⟩ rfl hn hsz hst (by show 2 * 0 + _ ≤ 8; omega) hd hroom
theorem C_callIN {p : Nat} (As : List Value) (hV : ILN (dO D) idx y cc maxL n) (hI : Imp C y cc maxL none Fc Lc rv (.ref (kB C + p) :: As) f) (hd : decode (dC D) pc = .ok (.invokespecial idx, 3)) (hp : pc + 3 = pc') (hn : As.length = n) {st0 : List Value} (hst : st0 = As.reverse ++ .ref (kB C + p) :: st) (hW : (st.map fun v => v.category).sum ≤ 8) (hF : Fc + 1 ≤ dF D) (hL : 8 + (maxL + 11) + Lc ≤ dL D)
    (kk : ∀ r : β, Cmp C D Z pc' ls ((rv r).toList ++ st) (k r)) : Cmp C D Z pc ls st0 (mb f k) := by
  subst hp
  intro w r w' hm
  refine call_end (fun _ => True) hI hF hL ?_ kk w r w' trivial hm
  intro w w1 r X H locs lsA cells slots G hC hg hS hsz hM hf hlo hroom
  subst hC
  obtain ⟨⟨c1, c2, c3⟩, ⟨host, v1⟩, v2, v3⟩ := hV
  have hts := G.2.2.2.2.2.2.1
  have hK := G.2.2.2.2.2.2.2.1
  exact va_runIN (b := kB (xC X) + p) (As := As) (Ts := TB) (own := dO D) (n := n) ⟨G.1, G.2.1, G.2.2.2.2.1, G.2.2.2.2.2.1, hts⟩ hM ⟨va_cnB n hts (tb_goodIn c1) rfl rfl rfl (hK.2.2 _ v1) (hts _ c2) c3 ⟨hf, hlo⟩, v3, hts _ v2⟩ ⟨pre_blind, fun U hU hW => ⟨rfl, hK.warm hW, by rw [hU]; exact hS.1⟩⟩ rfl hn hsz hst (by show 2 * 0 + _ ≤ 8; omega) hd hroom
end RulesC
section RulesO
variable {α : Type} {C : KX} {D : MD} {Z : ZT α} {pc pc' : Nat} {ls : List (Nat × Value)} {st : List Value}
theorem C_new {idx ci : Nat} {f : Nat → Mo α} (hN : NL (dO D) idx ci) (hd : decode (dC D) pc = .ok (.new idx, 3)) (hp : pc + 3 = pc') (kk : ∀ p : Nat, Cmp C D Z pc' ls (.ref (kB C + p) :: st) (f p)) : Cmp C D Z pc ls st (mb (nO ci) f) := by
  subst hp
  intro w r w' hm
  have hm' : f (cnt w) (wNew w (ci, nf ci)) = some (r, w') := hm
  obtain ⟨h1, h2⟩ := kk _ _ r w' hm'
  have c1 := cnt_new w (ci, nf ci)
  have c2 := slt_new w (ci, nf ci)
  refine ⟨by omega, fun X G hC hF H locs lsA cells slots hS hl => ?_⟩
  subst hC
  obtain ⟨Cn, T, ty, hc, hin, hty, hdef, l1, l2, l3⟩ := hN
  have hci := cl_lt hc
  have hts := G.2.2.2.2.2.2.1
  have hK := G.2.2.2.2.2.2.2.1
  obtain ⟨fc, fs⟩ := fit_new hS hF h1
  have hKn := hK.1.1 ci _ hc
  refine W.newcK G.1 G.2.1 G.2.2.2.2.2.1 (hts _ l1) (hts _ l2) (hts _ l3) rfl hd fc fs hKn.2.1 hS.1.1 fun H1 kC hkC e1 z1 o1 => ?_
  refine h2 X G rfl hF H1 locs lsA _ _ (stb_new hS (by rw [z1, hS.1.1]) (fun a ha => o1 a (by rw [← hS.1.1]; exact ha)) ((hat_o (by omega)).mpr ?_)) hl
  refine (u_born ty hts hin hKn hkC e1 hty).to (fun j hj => ?_)
  show defaultValue (ty j) = fv (xC X) (wNew w (ci, nf ci)) (cnt w) ci j
  rw [hdef j hj]
  unfold fv wNew uA
  by_cases hr : rk ci j = true
  · simp [hr, rfv, va_rf]
  · simp [hr]
theorem C_newarr {kd : Nat} {atype : ArrayType} {n : Int32} {f : Nat → Mo α} (hk : (kd = 100 ∧ newarray.typeOf atype = .int) ∨ (kd = 101 ∧ newarray.typeOf atype = .long) ∨ (kd = 102 ∧ newarray.typeOf atype = .boolean)) (hw : Cond.arrayClass (newarray.typeOf atype) ∈ TB) (hd : decode (dC D) pc = .ok (.newarray atype, 2)) (hp : pc + 2 = pc') (kk : ∀ p : Nat, Cmp C D Z pc' ls (.ref (kB C + p) :: st) (f p)) : Cmp C D Z pc ls (.int n :: st) (mb (nA kd n) f) := by
  subst hp
  intro w r w' hm
  unfold mb nA at hm
  by_cases h0 : ¬ n < 0 ∧ n.toNatClampNeg ≤ 60000
  · rw [if_pos h0] at hm
    obtain ⟨h1, h2⟩ := kk _ _ r w' hm
    have c1 := cnt_new w (kd, n.toNatClampNeg)
    have c2 := slt_new w (kd, n.toNatClampNeg)
    refine ⟨by omega, fun X G hC hF H locs lsA cells slots hS hl => ?_⟩
    subst hC
    have hts := G.2.2.2.2.2.2.1
    have hK := G.2.2.2.2.2.2.2.1
    obtain ⟨fc, fs⟩ := fit_new hS hF h1
    have hbytes : n.toNatClampNeg * componentBytes (newarray.typeOf atype) ≤ 536870912 := by
      have h9 : componentBytes (newarray.typeOf atype) ≤ 8 := by rcases hk with ⟨-, e⟩ | ⟨-, e⟩ | ⟨-, e⟩ <;> rw [e] <;> decide
      exact Nat.le_trans (Nat.mul_le_mul h0.2 h9) (by decide)
    refine va_newaK G.1 G.2.1 (hts _ hw) rfl hd rfl h0.1 rfl hbytes fc fs hS.1.1 fun H1 cA e1 z1 o1 harr hcA => ?_
    refine h2 X G rfl hF H1 locs lsA _ _ (stb_new hS (by rw [z1, hS.1.1]) (fun a ha => o1 a (by rw [← hS.1.1]; exact ha)) ?_) hl
    rcases hk with ⟨rfl, e⟩ | ⟨rfl, e⟩ | ⟨rfl, e⟩
    · rw [e] at e1 hcA
      have hcc : cA = kI (xC X) := Option.some.inj (hcA.symm.trans ((hK.1.2 0 _ rfl).2))
      rw [hat_i, e1, hcc, vp_cell_i]
      congr 2
      funext j
      simp [wNew, uA, defaultValue]
    · rw [e] at e1 hcA
      have hcc : cA = kJ (xC X) := Option.some.inj (hcA.symm.trans ((hK.1.2 1 _ rfl).2))
      rw [hat_j, e1, hcc, vp_cell_l]
      congr 2
      funext j
      simp [wNew, uA, defaultValue]
    · rw [e] at e1 hcA
      have hcc : cA = kZ (xC X) := Option.some.inj (hcA.symm.trans ((hK.1.2 2 _ rfl).2))
      rw [hat_z, e1, hcc, vp_cell_i]
      congr 2
      funext j
      simp [wNew, uA, defaultValue]
  · rw [if_neg h0] at hm
    cases hm
theorem C_anew {idx : Nat} {n : Int32} {f : Nat → Mo α} (hw : Cond.classLink (dO D) idx RX1 ∈ TB) (hd : decode (dC D) pc = .ok (.anewarray idx, 3)) (hp : pc + 3 = pc') (kk : ∀ p : Nat, Cmp C D Z pc' ls (.ref (kB C + p) :: st) (f p)) : Cmp C D Z pc ls (.int n :: st) (mb (nA 103 n) f) := by
  subst hp
  intro w r w' hm
  unfold mb nA at hm
  by_cases h0 : ¬ n < 0 ∧ n.toNatClampNeg ≤ 60000
  · rw [if_pos h0] at hm
    obtain ⟨h1, h2⟩ := kk _ _ r w' hm
    have c1 := cnt_new w (103, n.toNatClampNeg)
    have c2 := slt_new w (103, n.toNatClampNeg)
    refine ⟨by omega, fun X G hC hF H locs lsA cells slots hS hl => ?_⟩
    subst hC
    have hts := G.2.2.2.2.2.2.1
    have hK := G.2.2.2.2.2.2.2.1
    obtain ⟨fc, fs⟩ := fit_new hS hF h1
    refine W.anew G.1 G.2.1 G.2.2.2.2.2.1 (hts _ hw) (va_AO.use hK.2.1) rfl hd rfl h0.1 (by omega) fc fs fun cA kA comp f1 f2 f3 f4 => ?_
    generalize hH1 : H.push ({ cls := cA, slots := Array.replicate n.toNatClampNeg .null, vm := .none } : Cell) = H1
    have z1 : H1.size = H.size + 1 := by rw [← hH1, Array.size_push]
    have e1 : H1[H.size]? = some (arrV cA n.toNatClampNeg (fun _ => .null)) := by rw [← hH1, Array.getElem?_push_size, ← arrV_new]
    have o1 : ∀ q : Nat, q < H.size → H1[q]? = H[q]? := fun q hq => by rw [← hH1, Array.getElem?_push, if_neg (Nat.ne_of_lt hq)]
    have hs := hS.1.1
    rw [hs] at e1 ⊢
    refine h2 X G rfl hF H1 locs lsA _ _ (stb_new hS z1 o1 ?_) hl
    obtain ⟨kA2, comp2, k1, k2, k3, k4⟩ := (hK.1.2 3 _ rfl).2
    have hcc : cA = kH (xC X) := Option.some.inj (f1.symm.trans k4)
    rw [hat_q, e1, hcc, vp_cell_q]
    congr 2
    funext j
    simp [wNew, uA, va_rf]
  · rw [if_neg h0] at hm
    cases hm
theorem C_objInit {idx p : Nat} {m : Mo α} (hw1 : Cond.methodLink (dO D) idx Lib.objectInit ∈ TB) (hw2 : Cond.instanceMethod Lib.objectInit ∈ TB) (hw3 : Cond.code Lib.objectInit ⟨#[0xb1]⟩ 1 none ∈ TB) (hd : decode (dC D) pc = .ok (.invokespecial idx, 3)) (hp : pc + 3 = pc') (hF : 1 ≤ dF D) (hL : (st.map fun v => v.category).sum + 12 ≤ dL D) (kk : Cmp C D Z pc' ls st m) : Cmp C D Z pc ls (.ref (kB C + p) :: st) m := by
  subst hp
  refine C_pure (fun X G H locs lsA cells slots Q hl kk => ?_) kk
  have hts := G.2.2.2.2.2.2.1
  have hfr : (xR X).frames = dF D := G.2.2.2.2.2.2.2.2.2.1
  have hlo : (xR X).locals = dL D := G.2.2.2.2.2.2.2.2.2.2.1
  exact W.objInit G.1 G.2.1 G.2.2.2.2.2.1 (hts _ hw1) (hts _ hw2) (hts _ hw3) rfl (hl.1.trans G.2.2.2.2.1.symm) rfl hd (by omega) (by show 2 * 0 + _ + 12 ≤ _; omega) (kk lsA hl)
theorem C_max {idx : Nat} {x y : Int32} {m : Mo α} (hw1 : Cond.methodLink (dO D) idx Lib.Math.max.name ∈ TB) (hw2 : Cond.static Lib.Math.max.name ∈ TB) (hw3 : Cond.initialized "java/lang/Math" ∈ TB) (hw4 : Cond.code Lib.Math.max.name Lib.Math.max.code 2 (some .int) ∈ TB) (hd : decode (dC D) pc = .ok (.invokestatic idx, 3)) (hp : pc + 3 = pc') (hF : 1 ≤ dF D) (hL : (st.map fun v => v.category).sum + 13 ≤ dL D) (kk : Cmp C D Z pc' ls (.int (if x < y then y else x) :: st) m) : Cmp C D Z pc ls (.int y :: .int x :: st) m := by
  subst hp
  intro w r w' hm
  obtain ⟨h1, h2⟩ := kk w r w' hm
  refine ⟨h1, fun X G hC hFit H locs lsA cells slots hS hl => ?_⟩
  have hts := G.2.2.2.2.2.2.1
  have hfr : (xR X).frames = dF D := G.2.2.2.2.2.2.2.2.2.1
  have hlo : (xR X).locals = dL D := G.2.2.2.2.2.2.2.2.2.2.1
  obtain ⟨s1, s2, s3, s4, s5⟩ := id hS
  obtain ⟨f1, f2⟩ := id hFit
  exact va_mmax G.1 G.2.1 (G.2.2.2.2.1.trans hl.1.symm) G.2.2.2.2.2.1 (hts _ hw1) (hts _ hw2) (hts _ hw3) (hts _ hw4) (by omega) (by omega) (by omega) (by omega) hd (h2 X G hC hFit H locs lsA cells slots hS hl)
theorem C_min {idx : Nat} {x y : Int32} {m : Mo α} (hw1 : Cond.methodLink (dO D) idx Lib.Math.min.name ∈ TB) (hw2 : Cond.static Lib.Math.min.name ∈ TB) (hw3 : Cond.initialized "java/lang/Math" ∈ TB) (hw4 : Cond.code Lib.Math.min.name Lib.Math.min.code 2 (some .int) ∈ TB) (hd : decode (dC D) pc = .ok (.invokestatic idx, 3)) (hp : pc + 3 = pc') (hF : 1 ≤ dF D) (hL : (st.map fun v => v.category).sum + 13 ≤ dL D) (kk : Cmp C D Z pc' ls (.int (if y < x then y else x) :: st) m) : Cmp C D Z pc ls (.int y :: .int x :: st) m := by
  subst hp
  intro w r w' hm
  obtain ⟨h1, h2⟩ := kk w r w' hm
  refine ⟨h1, fun X G hC hFit H locs lsA cells slots hS hl => ?_⟩
  have hts := G.2.2.2.2.2.2.1
  have hfr : (xR X).frames = dF D := G.2.2.2.2.2.2.2.2.2.1
  have hlo : (xR X).locals = dL D := G.2.2.2.2.2.2.2.2.2.2.1
  obtain ⟨s1, s2, s3, s4, s5⟩ := id hS
  obtain ⟨f1, f2⟩ := id hFit
  exact va_mmin G.1 G.2.1 (G.2.2.2.2.1.trans hl.1.symm) G.2.2.2.2.2.1 (hts _ hw1) (hts _ hw2) (hts _ hw3) (hts _ hw4) (by omega) (by omega) (by omega) (by omega) hd (h2 X G hC hFit H locs lsA cells slots hS hl)
end RulesO
end
section
/-! ===== rule: System.arraycopy over int[] ===== -/
section RulesP
variable {α : Type} {C : KX} {D : MD} {Z : ZT α} {pc pc' : Nat} {ls : List (Nat × Value)} {st : List Value}
theorem C_copy {idx src dst : Nat} {sp dp n : Int32} {f : Unit → Mo α} (hw1 : Cond.methodLink (dO D) idx arraycopyName ∈ TB) (hw2 : Cond.native arraycopyName ∈ TB) (hw3 : Cond.static arraycopyName ∈ TB) (hw4 : Cond.initialized "java/lang/System" ∈ TB) (hd : decode (dC D) pc = .ok (.invokestatic idx, 3)) (hp : pc + 3 = pc') (hF : 1 ≤ dF D) (hL : (st.map fun v => v.category).sum + (nativeFrameWords "java/lang/System" "arraycopy" 5 + 11) ≤ dL D)
    (kk : Cmp C D Z pc' ls st (f ())) : Cmp C D Z pc ls (.int n :: .int dp :: .ref (kB C + dst) :: .int sp :: .ref (kB C + src) :: st) (mb (cpI src sp dst dp n) f) := by
  subst hp
  intro w r w' hm
  unfold mb cpI at hm
  by_cases h0 : (¬ sp < 0 ∧ ¬ dp < 0 ∧ ¬ n < 0) ∧ (0 < alen w 100 src ∧ 0 < alen w 100 dst) ∧ sp.toNatClampNeg + n.toNatClampNeg ≤ alen w 100 src ∧ dp.toNatClampNeg + n.toNatClampNeg ≤ alen w 100 dst
  · rw [if_pos h0] at hm
    obtain ⟨k1, k2⟩ := kk _ r w' hm
    obtain ⟨⟨h1, h2, h3⟩, ⟨p0, p1⟩, h4, h5⟩ := h0
    refine ⟨k1, fun X G hC hFit H locs lsA cells slots hS hl => ?_⟩
    subst hC
    have hts := G.2.2.2.2.2.2.1
    have hK := G.2.2.2.2.2.2.2.1
    have hfr : (xR X).frames = dF D := G.2.2.2.2.2.2.2.2.2.1
    have hlo : (xR X).locals = dL D := G.2.2.2.2.2.2.2.2.2.2.1
    have nn : ∀ z : Int32, ¬ z < 0 → z.toInt = (z.toNatClampNeg : Int) := by
      intro z hz
      have hz0 : (0 : Int) ≤ z.toInt := by
        have := Int32.not_lt.mp hz
        simpa using Int32.le_iff_toInt_le.mp this
      show z.toInt = ((z.toInt.toNat : Nat) : Int)
      omega
    have s0 := alen_at p0
    have s1 := alen_at p1
    have hc0 := hat_i.mp (hS.1.2 src _ s0)
    have hc1 := hat_i.mp (hS.1.2 dst _ s1)
    generalize hn0 : alen w 100 src = n0 at *
    generalize hn1 : alen w 100 dst = n1 at *
    generalize hf0 : w.1 src = fs at *
    generalize hf1 : w.1 dst = gs at *
    intro T hT S
    obtain ⟨-, q0, hk0, cm0, hkk0⟩ := (hK.1.2 0 _ rfl).1 n0 (fun j => .int (fs j))
    obtain ⟨-, q1, hk1, cm1, hkk1⟩ := (hK.1.2 0 _ rfl).1 n1 (fun j => .int (gs j))
    obtain ⟨vm', S', step⟩ := S.arraycopy G.1 G.2.2.2.2.2.1 (hts _ hw1) (hts _ hw2) (hts _ hw3) (hts _ hw4) (src := kB (xC X) + src) (dst := kB (xC X) + dst) (cs := vp_cell (kI (xC X)) (n0, .inl fs)) (cd := vp_cell (kI (xC X)) (n1, .inl gs)) (srcPos := sp) (destPos := dp) (n := n) (by rw [hT]; exact hc0) (by rw [hT]; exact hc1)
      (fun _ h => by cases h) (fun _ h => by cases h) (fun h => by cases h) (fun h => by cases h) hk0 hk1 hkk0 hkk1 (by simp [refKind]) h1 h2 h3
      (by rw [nn sp h1, nn n h3]; show ¬ _ > ((arrV _ n0 (fun j => .int (fs j))).slots.size : Int); rw [arrV_size]; omega)
      (by rw [nn dp h2, nn n h3]; show ¬ _ > ((arrV _ n1 (fun j => .int (gs j))).slots.size : Int); rw [arrV_size]; omega)
      (fun vm₁ _ i hi => by
        have e : (vp_cell (kI (xC X)) (n0, .inl fs)).slots.getD (sp.toNatClampNeg + i) .null = .int (fs (sp.toNatClampNeg + i)) := by
          show (arrV _ n0 (fun j => .int (fs j))).slots.getD _ _ = _
          rw [Array.getD_eq_getD_getElem?, arrV_read _ _ (by omega)]
          rfl
        refine ⟨?_, ?_⟩
        · rw [e]
          rfl
        · rw [e]
          exact trivial)
      (g := F0 (xM X) pc lsA (.int n :: .int dp :: .ref (kB (xC X) + dst) :: .int sp :: .ref (kB (xC X) + src) :: st)) rfl (by rw [G.2.2.2.2.1]; exact hl.1) (rest := st) rfl (by rw [G.2.1]; exact hd) (by omega) (by show 2 * 0 + _ + _ ≤ _; omega)
    have e1 : copied (vp_cell (kI (xC X)) (n0, .inl fs)) (vp_cell (kI (xC X)) (n1, .inl gs)) sp dp n = vp_cell (kI (xC X)) (n1, .inl (va_cpy fs gs sp.toNatClampNeg dp.toNatClampNeg n.toNatClampNeg)) := va_copied (fun z => .int z) _ _ fs gs h4
    rw [e1] at S' step
    have hl2 : kB (xC X) + dst < H.size := (Array.getElem?_eq_some_iff.mp hc1).1
    have oq : ∀ q : Nat, q ≠ kB (xC X) + dst → (H.setIfInBounds (kB (xC X) + dst) (vp_cell (kI (xC X)) (n1, .inl (va_cpy fs gs sp.toNatClampNeg dp.toNatClampNeg n.toNatClampNeg))))[q]? = H[q]? := fun q hq => by simp [Array.getElem?_setIfInBounds, Ne.symm hq]
    have hheap : ((T.setVm vm').setCell (kB (xC X) + dst) (vp_cell (kI (xC X)) (n1, .inl (va_cpy fs gs sp.toNatClampNeg dp.toNatClampNeg n.toNatClampNeg)))).heap = H.setIfInBounds (kB (xC X) + dst) (vp_cell (kI (xC X)) (n1, .inl (va_cpy fs gs sp.toNatClampNeg dp.toNatClampNeg n.toNatClampNeg))) := by rw [← hT]; rfl
    have hst : Stb X (uA w.1 dst (va_cpy fs gs sp.toNatClampNeg dp.toNatClampNeg n.toNatClampNeg), w.2) (H.setIfInBounds (kB (xC X) + dst) (vp_cell (kI (xC X)) (n1, .inl (va_cpy fs gs sp.toNatClampNeg dp.toNatClampNeg n.toNatClampNeg)))) (locs ++ []) cells slots := by
      obtain ⟨g1, g2, g3, g4, g5⟩ := hS
      refine ⟨g1.set s1 rfl (by simp) oq (fun x hx => by funext j; simp [uA, hx]) (fun _ _ => rfl) (fun _ _ => rfl) (hat_i.mpr ?_), fun q hq => by rw [oq q (by omega)]; exact g2 q hq, by simpa using g3, g4, g5⟩
      rw [show ((uA w.1 dst (va_cpy fs gs sp.toNatClampNeg dp.toNatClampNeg n.toNatClampNeg), w.2) : Wd).1 dst = va_cpy fs gs sp.toNatClampNeg dp.toNatClampNeg n.toNatClampNeg by funext j; simp [uA]]
      simp [Array.getElem?_setIfInBounds, hl2]
    obtain ⟨hs1, hs2, hs3, hs4, hs5⟩ := hst
    obtain ⟨t, a1, b1⟩ := k2 X G rfl hFit _ _ lsA cells slots ⟨hs1, hs2, (fun q hq => by
      rcases List.mem_append.mp hq with h | h
      · exact hS.2.2.1 q h
      · obtain ⟨z, -, hz⟩ := List.mem_map.mp h
        rw [← hz]
        exact Nat.le_add_right _ _), hs4, hs5⟩ hl _ hheap S'
    exact ⟨t, step t a1, b1⟩
  · rw [if_neg h0] at hm
    cases hm
end RulesP
section RulesQ
variable {α : Type} {C : KX} {D : MD} {Z : ZT α} {pc pc' : Nat} {ls : List (Nat × Value)} {st : List Value}
theorem C_loop {σ : Type} (L : σ → List (Nat × Value)) {F : (σ → Mo α) → σ → Mo α} (h : ∀ (k : σ → Mo α), (∀ s, Cmp C D Z pc (L s) [] (k s)) → ∀ s, Cmp C D Z pc (L s) [] (F k s)) : ∀ (n : Nat) (s : σ), Cmp C D Z pc (L s) [] (lp F n s) := by
  intro n
  induction n with
  | zero => intro s; exact C_mz
  | succ n ih => intro s; exact h (lp F n) ih s
theorem C_letI {e : Int32} {f : Int32 → Mo α} (kk : ∀ v : Int32, Cmp C D Z pc ls (.int v :: st) (f v)) : Cmp C D Z pc ls (.int e :: st) (mb (mp e) f) := kk e
theorem C_letL {e : Int64} {f : Int64 → Mo α} (kk : ∀ v : Int64, Cmp C D Z pc ls (.long v :: st) (f v)) : Cmp C D Z pc ls (.long e :: st) (mb (mp e) f) := kk e
end RulesQ
end
