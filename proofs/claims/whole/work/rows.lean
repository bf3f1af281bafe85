section
-- ===== PART A: goes FIRST, ahead of the names: the tables' words, and 'selects' of the private methods out of them =====
/-- a private method of a class that the tables say can be made, by its rows of tables_1 -/
def lw_okq (q : MethodName × Nat) : Prop := (q.1.cls ≠ "java/lang/invoke/MethodHandle" ∧ q.1.cls ≠ "java/lang/invoke/VarHandle") ∧ Cond.instantiable q.1.cls q.2 ∈ tables_1 ∧ Cond.privateMethod q.1 ∈ tables_1 ∧ Cond.instanceMethod q.1 ∈ tables_1
theorem lw_p0 : lw_okq (⟨"ReadOnceRecognizer", "store", "(IJ)I"⟩, 11) := ⟨⟨by decide +kernel, by decide +kernel⟩, List.mem_of_getElem? (i := 15) (by decide +kernel), List.mem_of_getElem? (i := 241) (by decide +kernel), List.mem_of_getElem? (i := 242) (by decide +kernel)⟩
theorem lw_p1 : lw_okq (⟨"ReadOnceRecognizer", "slotError", "(I)I"⟩, 11) := ⟨⟨by decide +kernel, by decide +kernel⟩, List.mem_of_getElem? (i := 15) (by decide +kernel), List.mem_of_getElem? (i := 262) (by decide +kernel), List.mem_of_getElem? (i := 263) (by decide +kernel)⟩
theorem lw_p2 : lw_okq (⟨"ReadOnceRecognizer", "isPoint", "(I)Z"⟩, 11) := ⟨⟨by decide +kernel, by decide +kernel⟩, List.mem_of_getElem? (i := 15) (by decide +kernel), List.mem_of_getElem? (i := 285) (by decide +kernel), List.mem_of_getElem? (i := 286) (by decide +kernel)⟩
theorem lw_p3 : lw_okq (⟨"ReadOnceRecognizer", "drawGraph", "(I)I"⟩, 11) := ⟨⟨by decide +kernel, by decide +kernel⟩, List.mem_of_getElem? (i := 15) (by decide +kernel), List.mem_of_getElem? (i := 321) (by decide +kernel), List.mem_of_getElem? (i := 322) (by decide +kernel)⟩
theorem lw_p4 : lw_okq (⟨"ReadOnceRecognizer$Graph", "addPrime", "(I)V"⟩, 5) := ⟨⟨by decide +kernel, by decide +kernel⟩, List.mem_of_getElem? (i := 79) (by decide +kernel), List.mem_of_getElem? (i := 335) (by decide +kernel), List.mem_of_getElem? (i := 336) (by decide +kernel)⟩
theorem lw_p5 : lw_okq (⟨"ReadOnceRecognizer", "isVariable", "(I)Z"⟩, 11) := ⟨⟨by decide +kernel, by decide +kernel⟩, List.mem_of_getElem? (i := 15) (by decide +kernel), List.mem_of_getElem? (i := 355) (by decide +kernel), List.mem_of_getElem? (i := 356) (by decide +kernel)⟩
theorem lw_p6 : lw_okq (⟨"ReadOnceRecognizer$Graph", "areAdjacent", "(II)Z"⟩, 5) := ⟨⟨by decide +kernel, by decide +kernel⟩, List.mem_of_getElem? (i := 79) (by decide +kernel), List.mem_of_getElem? (i := 367) (by decide +kernel), List.mem_of_getElem? (i := 368) (by decide +kernel)⟩
theorem lw_p7 : lw_okq (⟨"ReadOnceRecognizer$Graph", "findPathFrom", "(II)Z"⟩, 5) := ⟨⟨by decide +kernel, by decide +kernel⟩, List.mem_of_getElem? (i := 79) (by decide +kernel), List.mem_of_getElem? (i := 371) (by decide +kernel), List.mem_of_getElem? (i := 372) (by decide +kernel)⟩
theorem lw_p8 : lw_okq (⟨"ReadOnceRecognizer$Graph", "isMaximalClique", "(I)Z"⟩, 5) := ⟨⟨by decide +kernel, by decide +kernel⟩, List.mem_of_getElem? (i := 79) (by decide +kernel), List.mem_of_getElem? (i := 387) (by decide +kernel), List.mem_of_getElem? (i := 388) (by decide +kernel)⟩
theorem lw_p9 : lw_okq (⟨"ReadOnceRecognizer$Graph", "isPrime", "(I)Z"⟩, 5) := ⟨⟨by decide +kernel, by decide +kernel⟩, List.mem_of_getElem? (i := 79) (by decide +kernel), List.mem_of_getElem? (i := 391) (by decide +kernel), List.mem_of_getElem? (i := 392) (by decide +kernel)⟩
theorem lw_p10 : lw_okq (⟨"ReadOnceRecognizer", "whyNotReadOnce", "(J)I"⟩, 11) := ⟨⟨by decide +kernel, by decide +kernel⟩, List.mem_of_getElem? (i := 15) (by decide +kernel), List.mem_of_getElem? (i := 399) (by decide +kernel), List.mem_of_getElem? (i := 400) (by decide +kernel)⟩
theorem lw_p11 : lw_okq (⟨"ReadOnceRecognizer", "growCotree", "(I)I"⟩, 11) := ⟨⟨by decide +kernel, by decide +kernel⟩, List.mem_of_getElem? (i := 15) (by decide +kernel), List.mem_of_getElem? (i := 407) (by decide +kernel), List.mem_of_getElem? (i := 408) (by decide +kernel)⟩
theorem lw_p12 : lw_okq (⟨"ReadOnceRecognizer$Cotree", "grow", "(LReadOnceRecognizer$Graph;III)V"⟩, 3) := ⟨⟨by decide +kernel, by decide +kernel⟩, List.mem_of_getElem? (i := 106) (by decide +kernel), List.mem_of_getElem? (i := 415) (by decide +kernel), List.mem_of_getElem? (i := 416) (by decide +kernel)⟩
theorem lw_p13 : lw_okq (⟨"ReadOnceRecognizer$Cotree", "growChildren", "(LReadOnceRecognizer$Graph;III)V"⟩, 3) := ⟨⟨by decide +kernel, by decide +kernel⟩, List.mem_of_getElem? (i := 106) (by decide +kernel), List.mem_of_getElem? (i := 430) (by decide +kernel), List.mem_of_getElem? (i := 431) (by decide +kernel)⟩
theorem lw_p14 : lw_okq (⟨"ReadOnceRecognizer$Cotree", "depthOfNode", "(I)I"⟩, 3) := ⟨⟨by decide +kernel, by decide +kernel⟩, List.mem_of_getElem? (i := 106) (by decide +kernel), List.mem_of_getElem? (i := 455) (by decide +kernel), List.mem_of_getElem? (i := 456) (by decide +kernel)⟩
theorem lw_p15 : lw_okq (⟨"ReadOnceRecognizer$FormulaText", "putNode", "(LReadOnceRecognizer$Cotree;II)V"⟩, 2) := ⟨⟨by decide +kernel, by decide +kernel⟩, List.mem_of_getElem? (i := 162) (by decide +kernel), List.mem_of_getElem? (i := 472) (by decide +kernel), List.mem_of_getElem? (i := 473) (by decide +kernel)⟩
def lw_privs_1 : List (MethodName × Nat) := [(⟨"ReadOnceRecognizer", "store", "(IJ)I"⟩, 11), (⟨"ReadOnceRecognizer", "slotError", "(I)I"⟩, 11), (⟨"ReadOnceRecognizer", "isPoint", "(I)Z"⟩, 11), (⟨"ReadOnceRecognizer", "drawGraph", "(I)I"⟩, 11), (⟨"ReadOnceRecognizer$Graph", "addPrime", "(I)V"⟩, 5), (⟨"ReadOnceRecognizer", "isVariable", "(I)Z"⟩, 11), (⟨"ReadOnceRecognizer$Graph", "areAdjacent", "(II)Z"⟩, 5), (⟨"ReadOnceRecognizer$Graph", "findPathFrom", "(II)Z"⟩, 5), (⟨"ReadOnceRecognizer$Graph", "isMaximalClique", "(I)Z"⟩, 5), (⟨"ReadOnceRecognizer$Graph", "isPrime", "(I)Z"⟩, 5), (⟨"ReadOnceRecognizer", "whyNotReadOnce", "(J)I"⟩, 11), (⟨"ReadOnceRecognizer", "growCotree", "(I)I"⟩, 11), (⟨"ReadOnceRecognizer$Cotree", "grow", "(LReadOnceRecognizer$Graph;III)V"⟩, 3), (⟨"ReadOnceRecognizer$Cotree", "growChildren", "(LReadOnceRecognizer$Graph;III)V"⟩, 3), (⟨"ReadOnceRecognizer$Cotree", "depthOfNode", "(I)I"⟩, 3), (⟨"ReadOnceRecognizer$FormulaText", "putNode", "(LReadOnceRecognizer$Cotree;II)V"⟩, 2)]
theorem lw_r1 : ∀ q ∈ lw_privs_1, lw_okq q := List.forall_mem_cons.mpr ⟨lw_p0, List.forall_mem_cons.mpr ⟨lw_p1, List.forall_mem_cons.mpr ⟨lw_p2, List.forall_mem_cons.mpr ⟨lw_p3, List.forall_mem_cons.mpr ⟨lw_p4, List.forall_mem_cons.mpr ⟨lw_p5, List.forall_mem_cons.mpr ⟨lw_p6, List.forall_mem_cons.mpr ⟨lw_p7, List.forall_mem_cons.mpr ⟨lw_p8, List.forall_mem_cons.mpr ⟨lw_p9, List.forall_mem_cons.mpr ⟨lw_p10, List.forall_mem_cons.mpr ⟨lw_p11, List.forall_mem_cons.mpr ⟨lw_p12, List.forall_mem_cons.mpr ⟨lw_p13, List.forall_mem_cons.mpr ⟨lw_p14, List.forall_mem_cons.mpr ⟨lw_p15, fun _ h => absurd h List.not_mem_nil⟩⟩⟩⟩⟩⟩⟩⟩⟩⟩⟩⟩⟩⟩⟩⟩
theorem lw_p16 : lw_okq (⟨"ReadOnceRecognizer$FormulaText", "putChild", "(LReadOnceRecognizer$Cotree;II)V"⟩, 2) := ⟨⟨by decide +kernel, by decide +kernel⟩, List.mem_of_getElem? (i := 162) (by decide +kernel), List.mem_of_getElem? (i := 478) (by decide +kernel), List.mem_of_getElem? (i := 479) (by decide +kernel)⟩
theorem lw_p17 : lw_okq (⟨"ReadOnceRecognizer$Input", "readSum", "(I)J"⟩, 6) := ⟨⟨by decide +kernel, by decide +kernel⟩, List.mem_of_getElem? (i := 128) (by decide +kernel), List.mem_of_getElem? (i := 502) (by decide +kernel), List.mem_of_getElem? (i := 503) (by decide +kernel)⟩
theorem lw_p18 : lw_okq (⟨"ReadOnceRecognizer$Input", "readProduct", "(I)J"⟩, 6) := ⟨⟨by decide +kernel, by decide +kernel⟩, List.mem_of_getElem? (i := 128) (by decide +kernel), List.mem_of_getElem? (i := 506) (by decide +kernel), List.mem_of_getElem? (i := 507) (by decide +kernel)⟩
theorem lw_p19 : lw_okq (⟨"ReadOnceRecognizer$Input", "readFactor", "(I)J"⟩, 6) := ⟨⟨by decide +kernel, by decide +kernel⟩, List.mem_of_getElem? (i := 128) (by decide +kernel), List.mem_of_getElem? (i := 510) (by decide +kernel), List.mem_of_getElem? (i := 511) (by decide +kernel)⟩
theorem lw_p20 : lw_okq (⟨"ReadOnceRecognizer$Input", "nextIs", "(I)Z"⟩, 6) := ⟨⟨by decide +kernel, by decide +kernel⟩, List.mem_of_getElem? (i := 128) (by decide +kernel), List.mem_of_getElem? (i := 514) (by decide +kernel), List.mem_of_getElem? (i := 515) (by decide +kernel)⟩
theorem lw_p21 : lw_okq (⟨"ReadOnceRecognizer$Input", "readOpened", "(I)J"⟩, 6) := ⟨⟨by decide +kernel, by decide +kernel⟩, List.mem_of_getElem? (i := 128) (by decide +kernel), List.mem_of_getElem? (i := 518) (by decide +kernel), List.mem_of_getElem? (i := 519) (by decide +kernel)⟩
theorem lw_p22 : lw_okq (⟨"ReadOnceRecognizer$Input", "readAtom", "()J"⟩, 6) := ⟨⟨by decide +kernel, by decide +kernel⟩, List.mem_of_getElem? (i := 128) (by decide +kernel), List.mem_of_getElem? (i := 523) (by decide +kernel), List.mem_of_getElem? (i := 524) (by decide +kernel)⟩
theorem lw_p23 : lw_okq (⟨"ReadOnceRecognizer", "substituted", "(JIJ)J"⟩, 11) := ⟨⟨by decide +kernel, by decide +kernel⟩, List.mem_of_getElem? (i := 15) (by decide +kernel), List.mem_of_getElem? (i := 548) (by decide +kernel), List.mem_of_getElem? (i := 549) (by decide +kernel)⟩
theorem lw_p24 : lw_okq (⟨"ReadOnceRecognizer", "drawnTable", "(II)J"⟩, 11) := ⟨⟨by decide +kernel, by decide +kernel⟩, List.mem_of_getElem? (i := 15) (by decide +kernel), List.mem_of_getElem? (i := 567) (by decide +kernel), List.mem_of_getElem? (i := 568) (by decide +kernel)⟩
theorem lw_p25 : lw_okq (⟨"ReadOnceRecognizer", "openCatalog", "()LReadOnceRecognizer$Catalog;"⟩, 11) := ⟨⟨by decide +kernel, by decide +kernel⟩, List.mem_of_getElem? (i := 15) (by decide +kernel), List.mem_of_getElem? (i := 591) (by decide +kernel), List.mem_of_getElem? (i := 592) (by decide +kernel)⟩
theorem lw_p26 : lw_okq (⟨"ReadOnceRecognizer$Catalog", "enter", "(JII)V"⟩, 2) := ⟨⟨by decide +kernel, by decide +kernel⟩, List.mem_of_getElem? (i := 595) (by decide +kernel), List.mem_of_getElem? (i := 601) (by decide +kernel), List.mem_of_getElem? (i := 602) (by decide +kernel)⟩
theorem lw_p27 : lw_okq (⟨"ReadOnceRecognizer$Catalog", "enterAll", "(I[I)V"⟩, 2) := ⟨⟨by decide +kernel, by decide +kernel⟩, List.mem_of_getElem? (i := 595) (by decide +kernel), List.mem_of_getElem? (i := 606) (by decide +kernel), List.mem_of_getElem? (i := 607) (by decide +kernel)⟩
theorem lw_p28 : lw_okq (⟨"ReadOnceRecognizer$Catalog", "enterSplit", "(II[I)V"⟩, 2) := ⟨⟨by decide +kernel, by decide +kernel⟩, List.mem_of_getElem? (i := 595) (by decide +kernel), List.mem_of_getElem? (i := 613) (by decide +kernel), List.mem_of_getElem? (i := 614) (by decide +kernel)⟩
theorem lw_p29 : lw_okq (⟨"ReadOnceRecognizer$Catalog", "rootAt", "(I)I"⟩, 2) := ⟨⟨by decide +kernel, by decide +kernel⟩, List.mem_of_getElem? (i := 595) (by decide +kernel), List.mem_of_getElem? (i := 623) (by decide +kernel), List.mem_of_getElem? (i := 624) (by decide +kernel)⟩
theorem lw_p30 : lw_okq (⟨"ReadOnceRecognizer$Catalog", "enterJoined", "(JIJI)V"⟩, 2) := ⟨⟨by decide +kernel, by decide +kernel⟩, List.mem_of_getElem? (i := 595) (by decide +kernel), List.mem_of_getElem? (i := 627) (by decide +kernel), List.mem_of_getElem? (i := 628) (by decide +kernel)⟩
theorem lw_p31 : lw_okq (⟨"ReadOnceRecognizer$Catalog", "sort", "()V"⟩, 2) := ⟨⟨by decide +kernel, by decide +kernel⟩, List.mem_of_getElem? (i := 595) (by decide +kernel), List.mem_of_getElem? (i := 631) (by decide +kernel), List.mem_of_getElem? (i := 632) (by decide +kernel)⟩
def lw_privs_2 : List (MethodName × Nat) := [(⟨"ReadOnceRecognizer$FormulaText", "putChild", "(LReadOnceRecognizer$Cotree;II)V"⟩, 2), (⟨"ReadOnceRecognizer$Input", "readSum", "(I)J"⟩, 6), (⟨"ReadOnceRecognizer$Input", "readProduct", "(I)J"⟩, 6), (⟨"ReadOnceRecognizer$Input", "readFactor", "(I)J"⟩, 6), (⟨"ReadOnceRecognizer$Input", "nextIs", "(I)Z"⟩, 6), (⟨"ReadOnceRecognizer$Input", "readOpened", "(I)J"⟩, 6), (⟨"ReadOnceRecognizer$Input", "readAtom", "()J"⟩, 6), (⟨"ReadOnceRecognizer", "substituted", "(JIJ)J"⟩, 11), (⟨"ReadOnceRecognizer", "drawnTable", "(II)J"⟩, 11), (⟨"ReadOnceRecognizer", "openCatalog", "()LReadOnceRecognizer$Catalog;"⟩, 11), (⟨"ReadOnceRecognizer$Catalog", "enter", "(JII)V"⟩, 2), (⟨"ReadOnceRecognizer$Catalog", "enterAll", "(I[I)V"⟩, 2), (⟨"ReadOnceRecognizer$Catalog", "enterSplit", "(II[I)V"⟩, 2), (⟨"ReadOnceRecognizer$Catalog", "rootAt", "(I)I"⟩, 2), (⟨"ReadOnceRecognizer$Catalog", "enterJoined", "(JIJI)V"⟩, 2), (⟨"ReadOnceRecognizer$Catalog", "sort", "()V"⟩, 2)]
theorem lw_r2 : ∀ q ∈ lw_privs_2, lw_okq q := List.forall_mem_cons.mpr ⟨lw_p16, List.forall_mem_cons.mpr ⟨lw_p17, List.forall_mem_cons.mpr ⟨lw_p18, List.forall_mem_cons.mpr ⟨lw_p19, List.forall_mem_cons.mpr ⟨lw_p20, List.forall_mem_cons.mpr ⟨lw_p21, List.forall_mem_cons.mpr ⟨lw_p22, List.forall_mem_cons.mpr ⟨lw_p23, List.forall_mem_cons.mpr ⟨lw_p24, List.forall_mem_cons.mpr ⟨lw_p25, List.forall_mem_cons.mpr ⟨lw_p26, List.forall_mem_cons.mpr ⟨lw_p27, List.forall_mem_cons.mpr ⟨lw_p28, List.forall_mem_cons.mpr ⟨lw_p29, List.forall_mem_cons.mpr ⟨lw_p30, List.forall_mem_cons.mpr ⟨lw_p31, fun _ h => absurd h List.not_mem_nil⟩⟩⟩⟩⟩⟩⟩⟩⟩⟩⟩⟩⟩⟩⟩⟩
theorem lw_p32 : lw_okq (⟨"ReadOnceRecognizer$Catalog", "sink", "(II)V"⟩, 2) := ⟨⟨by decide +kernel, by decide +kernel⟩, List.mem_of_getElem? (i := 595) (by decide +kernel), List.mem_of_getElem? (i := 637) (by decide +kernel), List.mem_of_getElem? (i := 638) (by decide +kernel)⟩
theorem lw_p33 : lw_okq (⟨"ReadOnceRecognizer", "isExtension", "(LReadOnceRecognizer$Catalog;I)Z"⟩, 11) := ⟨⟨by decide +kernel, by decide +kernel⟩, List.mem_of_getElem? (i := 15) (by decide +kernel), List.mem_of_getElem? (i := 649) (by decide +kernel), List.mem_of_getElem? (i := 650) (by decide +kernel)⟩
theorem lw_p34 : lw_okq (⟨"ReadOnceRecognizer", "runStep", "(I)I"⟩, 11) := ⟨⟨by decide +kernel, by decide +kernel⟩, List.mem_of_getElem? (i := 15) (by decide +kernel), List.mem_of_getElem? (i := 687) (by decide +kernel), List.mem_of_getElem? (i := 688) (by decide +kernel)⟩
theorem lw_p35 : lw_okq (⟨"ReadOnceRecognizerModel", "listFunctions", "()V"⟩, 39) := ⟨⟨by decide +kernel, by decide +kernel⟩, List.mem_of_getElem? (i := 732) (by decide +kernel), List.mem_of_getElem? (i := 738) (by decide +kernel), List.mem_of_getElem? (i := 739) (by decide +kernel)⟩
theorem lw_p36 : lw_okq (⟨"ReadOnceRecognizerModel", "variable", "(I)J"⟩, 39) := ⟨⟨by decide +kernel, by decide +kernel⟩, List.mem_of_getElem? (i := 732) (by decide +kernel), List.mem_of_getElem? (i := 742) (by decide +kernel), List.mem_of_getElem? (i := 743) (by decide +kernel)⟩
theorem lw_p37 : lw_okq (⟨"ReadOnceRecognizerModel", "make", "(IIJ)V"⟩, 39) := ⟨⟨by decide +kernel, by decide +kernel⟩, List.mem_of_getElem? (i := 732) (by decide +kernel), List.mem_of_getElem? (i := 746) (by decide +kernel), List.mem_of_getElem? (i := 747) (by decide +kernel)⟩
theorem lw_p38 : lw_okq (⟨"ReadOnceRecognizerModel", "join", "(III)V"⟩, 39) := ⟨⟨by decide +kernel, by decide +kernel⟩, List.mem_of_getElem? (i := 732) (by decide +kernel), List.mem_of_getElem? (i := 753) (by decide +kernel), List.mem_of_getElem? (i := 754) (by decide +kernel)⟩
theorem lw_p39 : lw_okq (⟨"ReadOnceRecognizerModel", "insert", "(J)V"⟩, 39) := ⟨⟨by decide +kernel, by decide +kernel⟩, List.mem_of_getElem? (i := 732) (by decide +kernel), List.mem_of_getElem? (i := 760) (by decide +kernel), List.mem_of_getElem? (i := 761) (by decide +kernel)⟩
theorem lw_p40 : lw_okq (⟨"ReadOnceRecognizerModel", "all", "()J"⟩, 39) := ⟨⟨by decide +kernel, by decide +kernel⟩, List.mem_of_getElem? (i := 732) (by decide +kernel), List.mem_of_getElem? (i := 764) (by decide +kernel), List.mem_of_getElem? (i := 765) (by decide +kernel)⟩
theorem lw_p41 : lw_okq (⟨"ReadOnceRecognizerModel", "store", "(IJ)I"⟩, 39) := ⟨⟨by decide +kernel, by decide +kernel⟩, List.mem_of_getElem? (i := 732) (by decide +kernel), List.mem_of_getElem? (i := 907) (by decide +kernel), List.mem_of_getElem? (i := 908) (by decide +kernel)⟩
theorem lw_p42 : lw_okq (⟨"ReadOnceRecognizerModel", "record", "(I)V"⟩, 39) := ⟨⟨by decide +kernel, by decide +kernel⟩, List.mem_of_getElem? (i := 732) (by decide +kernel), List.mem_of_getElem? (i := 911) (by decide +kernel), List.mem_of_getElem? (i := 912) (by decide +kernel)⟩
theorem lw_p43 : lw_okq (⟨"ReadOnceRecognizerModel", "ones", "(J)I"⟩, 39) := ⟨⟨by decide +kernel, by decide +kernel⟩, List.mem_of_getElem? (i := 732) (by decide +kernel), List.mem_of_getElem? (i := 915) (by decide +kernel), List.mem_of_getElem? (i := 916) (by decide +kernel)⟩
theorem lw_p44 : lw_okq (⟨"ReadOnceRecognizerModel", "isPoint", "(I)Z"⟩, 39) := ⟨⟨by decide +kernel, by decide +kernel⟩, List.mem_of_getElem? (i := 732) (by decide +kernel), List.mem_of_getElem? (i := 940) (by decide +kernel), List.mem_of_getElem? (i := 941) (by decide +kernel)⟩
theorem lw_p45 : lw_okq (⟨"ReadOnceRecognizerModel", "wrong", "(I)I"⟩, 39) := ⟨⟨by decide +kernel, by decide +kernel⟩, List.mem_of_getElem? (i := 732) (by decide +kernel), List.mem_of_getElem? (i := 948) (by decide +kernel), List.mem_of_getElem? (i := 949) (by decide +kernel)⟩
theorem lw_p46 : lw_okq (⟨"ReadOnceRecognizerModel", "essentialOf", "(J)I"⟩, 39) := ⟨⟨by decide +kernel, by decide +kernel⟩, List.mem_of_getElem? (i := 732) (by decide +kernel), List.mem_of_getElem? (i := 952) (by decide +kernel), List.mem_of_getElem? (i := 953) (by decide +kernel)⟩
theorem lw_p47 : lw_okq (⟨"ReadOnceRecognizerModel", "violation", "(J)I"⟩, 39) := ⟨⟨by decide +kernel, by decide +kernel⟩, List.mem_of_getElem? (i := 732) (by decide +kernel), List.mem_of_getElem? (i := 960) (by decide +kernel), List.mem_of_getElem? (i := 961) (by decide +kernel)⟩
def lw_privs_3 : List (MethodName × Nat) := [(⟨"ReadOnceRecognizer$Catalog", "sink", "(II)V"⟩, 2), (⟨"ReadOnceRecognizer", "isExtension", "(LReadOnceRecognizer$Catalog;I)Z"⟩, 11), (⟨"ReadOnceRecognizer", "runStep", "(I)I"⟩, 11), (⟨"ReadOnceRecognizerModel", "listFunctions", "()V"⟩, 39), (⟨"ReadOnceRecognizerModel", "variable", "(I)J"⟩, 39), (⟨"ReadOnceRecognizerModel", "make", "(IIJ)V"⟩, 39), (⟨"ReadOnceRecognizerModel", "join", "(III)V"⟩, 39), (⟨"ReadOnceRecognizerModel", "insert", "(J)V"⟩, 39), (⟨"ReadOnceRecognizerModel", "all", "()J"⟩, 39), (⟨"ReadOnceRecognizerModel", "store", "(IJ)I"⟩, 39), (⟨"ReadOnceRecognizerModel", "record", "(I)V"⟩, 39), (⟨"ReadOnceRecognizerModel", "ones", "(J)I"⟩, 39), (⟨"ReadOnceRecognizerModel", "isPoint", "(I)Z"⟩, 39), (⟨"ReadOnceRecognizerModel", "wrong", "(I)I"⟩, 39), (⟨"ReadOnceRecognizerModel", "essentialOf", "(J)I"⟩, 39), (⟨"ReadOnceRecognizerModel", "violation", "(J)I"⟩, 39)]
theorem lw_r3 : ∀ q ∈ lw_privs_3, lw_okq q := List.forall_mem_cons.mpr ⟨lw_p32, List.forall_mem_cons.mpr ⟨lw_p33, List.forall_mem_cons.mpr ⟨lw_p34, List.forall_mem_cons.mpr ⟨lw_p35, List.forall_mem_cons.mpr ⟨lw_p36, List.forall_mem_cons.mpr ⟨lw_p37, List.forall_mem_cons.mpr ⟨lw_p38, List.forall_mem_cons.mpr ⟨lw_p39, List.forall_mem_cons.mpr ⟨lw_p40, List.forall_mem_cons.mpr ⟨lw_p41, List.forall_mem_cons.mpr ⟨lw_p42, List.forall_mem_cons.mpr ⟨lw_p43, List.forall_mem_cons.mpr ⟨lw_p44, List.forall_mem_cons.mpr ⟨lw_p45, List.forall_mem_cons.mpr ⟨lw_p46, List.forall_mem_cons.mpr ⟨lw_p47, fun _ h => absurd h List.not_mem_nil⟩⟩⟩⟩⟩⟩⟩⟩⟩⟩⟩⟩⟩⟩⟩⟩
theorem lw_p48 : lw_okq (⟨"ReadOnceRecognizerModel", "wrongOrNot", "(I)I"⟩, 39) := ⟨⟨by decide +kernel, by decide +kernel⟩, List.mem_of_getElem? (i := 732) (by decide +kernel), List.mem_of_getElem? (i := 972) (by decide +kernel), List.mem_of_getElem? (i := 973) (by decide +kernel)⟩
theorem lw_p49 : lw_okq (⟨"ReadOnceRecognizerModel", "primesOf", "(J)I"⟩, 39) := ⟨⟨by decide +kernel, by decide +kernel⟩, List.mem_of_getElem? (i := 732) (by decide +kernel), List.mem_of_getElem? (i := 976) (by decide +kernel), List.mem_of_getElem? (i := 977) (by decide +kernel)⟩
theorem lw_p50 : lw_okq (⟨"ReadOnceRecognizerModel", "isPrime", "(JI)Z"⟩, 39) := ⟨⟨by decide +kernel, by decide +kernel⟩, List.mem_of_getElem? (i := 732) (by decide +kernel), List.mem_of_getElem? (i := 980) (by decide +kernel), List.mem_of_getElem? (i := 981) (by decide +kernel)⟩
theorem lw_p51 : lw_okq (⟨"ReadOnceRecognizerModel", "primeOf", "(JI)I"⟩, 39) := ⟨⟨by decide +kernel, by decide +kernel⟩, List.mem_of_getElem? (i := 732) (by decide +kernel), List.mem_of_getElem? (i := 988) (by decide +kernel), List.mem_of_getElem? (i := 989) (by decide +kernel)⟩
theorem lw_p52 : lw_okq (⟨"ReadOnceRecognizerModel", "isVariable", "(I)Z"⟩, 39) := ⟨⟨by decide +kernel, by decide +kernel⟩, List.mem_of_getElem? (i := 732) (by decide +kernel), List.mem_of_getElem? (i := 996) (by decide +kernel), List.mem_of_getElem? (i := 997) (by decide +kernel)⟩
theorem lw_p53 : lw_okq (⟨"ReadOnceRecognizerModel", "graph", "(J)V"⟩, 39) := ⟨⟨by decide +kernel, by decide +kernel⟩, List.mem_of_getElem? (i := 732) (by decide +kernel), List.mem_of_getElem? (i := 1000) (by decide +kernel), List.mem_of_getElem? (i := 1001) (by decide +kernel)⟩
theorem lw_p54 : lw_okq (⟨"ReadOnceRecognizerModel", "path", "()I"⟩, 39) := ⟨⟨by decide +kernel, by decide +kernel⟩, List.mem_of_getElem? (i := 732) (by decide +kernel), List.mem_of_getElem? (i := 1009) (by decide +kernel), List.mem_of_getElem? (i := 1010) (by decide +kernel)⟩
theorem lw_p55 : lw_okq (⟨"ReadOnceRecognizerModel", "areNear", "(II)Z"⟩, 39) := ⟨⟨by decide +kernel, by decide +kernel⟩, List.mem_of_getElem? (i := 732) (by decide +kernel), List.mem_of_getElem? (i := 1013) (by decide +kernel), List.mem_of_getElem? (i := 1014) (by decide +kernel)⟩
theorem lw_p56 : lw_okq (⟨"ReadOnceRecognizerModel", "badCliqueOf", "(J)I"⟩, 39) := ⟨⟨by decide +kernel, by decide +kernel⟩, List.mem_of_getElem? (i := 732) (by decide +kernel), List.mem_of_getElem? (i := 1021) (by decide +kernel), List.mem_of_getElem? (i := 1022) (by decide +kernel)⟩
theorem lw_p57 : lw_okq (⟨"ReadOnceRecognizerModel", "isClique", "(I)Z"⟩, 39) := ⟨⟨by decide +kernel, by decide +kernel⟩, List.mem_of_getElem? (i := 732) (by decide +kernel), List.mem_of_getElem? (i := 1025) (by decide +kernel), List.mem_of_getElem? (i := 1026) (by decide +kernel)⟩
theorem lw_p58 : lw_okq (⟨"ReadOnceRecognizerModel", "isMaximal", "(I)Z"⟩, 39) := ⟨⟨by decide +kernel, by decide +kernel⟩, List.mem_of_getElem? (i := 732) (by decide +kernel), List.mem_of_getElem? (i := 1029) (by decide +kernel), List.mem_of_getElem? (i := 1030) (by decide +kernel)⟩
theorem lw_p59 : lw_okq (⟨"ReadOnceRecognizerModel", "reasonOf", "(J)I"⟩, 39) := ⟨⟨by decide +kernel, by decide +kernel⟩, List.mem_of_getElem? (i := 732) (by decide +kernel), List.mem_of_getElem? (i := 1037) (by decide +kernel), List.mem_of_getElem? (i := 1038) (by decide +kernel)⟩
theorem lw_p60 : lw_okq (⟨"ReadOnceRecognizerModel", "tree", "(I)I"⟩, 39) := ⟨⟨by decide +kernel, by decide +kernel⟩, List.mem_of_getElem? (i := 732) (by decide +kernel), List.mem_of_getElem? (i := 1045) (by decide +kernel), List.mem_of_getElem? (i := 1046) (by decide +kernel)⟩
theorem lw_p61 : lw_okq (⟨"ReadOnceRecognizerModel", "grow", "(II)V"⟩, 39) := ⟨⟨by decide +kernel, by decide +kernel⟩, List.mem_of_getElem? (i := 732) (by decide +kernel), List.mem_of_getElem? (i := 1049) (by decide +kernel), List.mem_of_getElem? (i := 1050) (by decide +kernel)⟩
theorem lw_p62 : lw_okq (⟨"ReadOnceRecognizerModel", "component", "(IIZ)I"⟩, 39) := ⟨⟨by decide +kernel, by decide +kernel⟩, List.mem_of_getElem? (i := 732) (by decide +kernel), List.mem_of_getElem? (i := 1053) (by decide +kernel), List.mem_of_getElem? (i := 1054) (by decide +kernel)⟩
theorem lw_p63 : lw_okq (⟨"ReadOnceRecognizerModel", "isNode", "(I)Z"⟩, 39) := ⟨⟨by decide +kernel, by decide +kernel⟩, List.mem_of_getElem? (i := 732) (by decide +kernel), List.mem_of_getElem? (i := 1061) (by decide +kernel), List.mem_of_getElem? (i := 1062) (by decide +kernel)⟩
def lw_privs_4 : List (MethodName × Nat) := [(⟨"ReadOnceRecognizerModel", "wrongOrNot", "(I)I"⟩, 39), (⟨"ReadOnceRecognizerModel", "primesOf", "(J)I"⟩, 39), (⟨"ReadOnceRecognizerModel", "isPrime", "(JI)Z"⟩, 39), (⟨"ReadOnceRecognizerModel", "primeOf", "(JI)I"⟩, 39), (⟨"ReadOnceRecognizerModel", "isVariable", "(I)Z"⟩, 39), (⟨"ReadOnceRecognizerModel", "graph", "(J)V"⟩, 39), (⟨"ReadOnceRecognizerModel", "path", "()I"⟩, 39), (⟨"ReadOnceRecognizerModel", "areNear", "(II)Z"⟩, 39), (⟨"ReadOnceRecognizerModel", "badCliqueOf", "(J)I"⟩, 39), (⟨"ReadOnceRecognizerModel", "isClique", "(I)Z"⟩, 39), (⟨"ReadOnceRecognizerModel", "isMaximal", "(I)Z"⟩, 39), (⟨"ReadOnceRecognizerModel", "reasonOf", "(J)I"⟩, 39), (⟨"ReadOnceRecognizerModel", "tree", "(I)I"⟩, 39), (⟨"ReadOnceRecognizerModel", "grow", "(II)V"⟩, 39), (⟨"ReadOnceRecognizerModel", "component", "(IIZ)I"⟩, 39), (⟨"ReadOnceRecognizerModel", "isNode", "(I)Z"⟩, 39)]
theorem lw_r4 : ∀ q ∈ lw_privs_4, lw_okq q := List.forall_mem_cons.mpr ⟨lw_p48, List.forall_mem_cons.mpr ⟨lw_p49, List.forall_mem_cons.mpr ⟨lw_p50, List.forall_mem_cons.mpr ⟨lw_p51, List.forall_mem_cons.mpr ⟨lw_p52, List.forall_mem_cons.mpr ⟨lw_p53, List.forall_mem_cons.mpr ⟨lw_p54, List.forall_mem_cons.mpr ⟨lw_p55, List.forall_mem_cons.mpr ⟨lw_p56, List.forall_mem_cons.mpr ⟨lw_p57, List.forall_mem_cons.mpr ⟨lw_p58, List.forall_mem_cons.mpr ⟨lw_p59, List.forall_mem_cons.mpr ⟨lw_p60, List.forall_mem_cons.mpr ⟨lw_p61, List.forall_mem_cons.mpr ⟨lw_p62, List.forall_mem_cons.mpr ⟨lw_p63, fun _ h => absurd h List.not_mem_nil⟩⟩⟩⟩⟩⟩⟩⟩⟩⟩⟩⟩⟩⟩⟩⟩
theorem lw_p64 : lw_okq (⟨"ReadOnceRecognizerModel", "put", "(I)V"⟩, 39) := ⟨⟨by decide +kernel, by decide +kernel⟩, List.mem_of_getElem? (i := 732) (by decide +kernel), List.mem_of_getElem? (i := 1077) (by decide +kernel), List.mem_of_getElem? (i := 1078) (by decide +kernel)⟩
theorem lw_p65 : lw_okq (⟨"ReadOnceRecognizerModel", "write", "(I)V"⟩, 39) := ⟨⟨by decide +kernel, by decide +kernel⟩, List.mem_of_getElem? (i := 732) (by decide +kernel), List.mem_of_getElem? (i := 1081) (by decide +kernel), List.mem_of_getElem? (i := 1082) (by decide +kernel)⟩
theorem lw_p66 : lw_okq (⟨"ReadOnceRecognizerModel", "formula", "(I)J"⟩, 39) := ⟨⟨by decide +kernel, by decide +kernel⟩, List.mem_of_getElem? (i := 732) (by decide +kernel), List.mem_of_getElem? (i := 1098) (by decide +kernel), List.mem_of_getElem? (i := 1099) (by decide +kernel)⟩
theorem lw_p67 : lw_okq (⟨"ReadOnceRecognizerModel", "term", "(I)J"⟩, 39) := ⟨⟨by decide +kernel, by decide +kernel⟩, List.mem_of_getElem? (i := 732) (by decide +kernel), List.mem_of_getElem? (i := 1102) (by decide +kernel), List.mem_of_getElem? (i := 1103) (by decide +kernel)⟩
theorem lw_p68 : lw_okq (⟨"ReadOnceRecognizerModel", "factor", "(I)J"⟩, 39) := ⟨⟨by decide +kernel, by decide +kernel⟩, List.mem_of_getElem? (i := 732) (by decide +kernel), List.mem_of_getElem? (i := 1106) (by decide +kernel), List.mem_of_getElem? (i := 1107) (by decide +kernel)⟩
theorem lw_p69 : lw_okq (⟨"ReadOnceRecognizerModel", "here", "()I"⟩, 39) := ⟨⟨by decide +kernel, by decide +kernel⟩, List.mem_of_getElem? (i := 732) (by decide +kernel), List.mem_of_getElem? (i := 1110) (by decide +kernel), List.mem_of_getElem? (i := 1111) (by decide +kernel)⟩
theorem lw_p70 : lw_okq (⟨"ReadOnceRecognizerModel", "fail", "()V"⟩, 39) := ⟨⟨by decide +kernel, by decide +kernel⟩, List.mem_of_getElem? (i := 732) (by decide +kernel), List.mem_of_getElem? (i := 1115) (by decide +kernel), List.mem_of_getElem? (i := 1116) (by decide +kernel)⟩
theorem lw_p71 : lw_okq (⟨"ReadOnceRecognizerModel", "randomOf", "(II)J"⟩, 39) := ⟨⟨by decide +kernel, by decide +kernel⟩, List.mem_of_getElem? (i := 732) (by decide +kernel), List.mem_of_getElem? (i := 1146) (by decide +kernel), List.mem_of_getElem? (i := 1147) (by decide +kernel)⟩
theorem lw_p72 : lw_okq (⟨"ReadOnceRecognizerModel", "agrees", "(J)Z"⟩, 39) := ⟨⟨by decide +kernel, by decide +kernel⟩, List.mem_of_getElem? (i := 732) (by decide +kernel), List.mem_of_getElem? (i := 1168) (by decide +kernel), List.mem_of_getElem? (i := 1169) (by decide +kernel)⟩
theorem lw_p73 : lw_okq (⟨"ReadOnceRecognizerModel", "execute", "(I)I"⟩, 39) := ⟨⟨by decide +kernel, by decide +kernel⟩, List.mem_of_getElem? (i := 732) (by decide +kernel), List.mem_of_getElem? (i := 1196) (by decide +kernel), List.mem_of_getElem? (i := 1197) (by decide +kernel)⟩
def lw_privs_5 : List (MethodName × Nat) := [(⟨"ReadOnceRecognizerModel", "put", "(I)V"⟩, 39), (⟨"ReadOnceRecognizerModel", "write", "(I)V"⟩, 39), (⟨"ReadOnceRecognizerModel", "formula", "(I)J"⟩, 39), (⟨"ReadOnceRecognizerModel", "term", "(I)J"⟩, 39), (⟨"ReadOnceRecognizerModel", "factor", "(I)J"⟩, 39), (⟨"ReadOnceRecognizerModel", "here", "()I"⟩, 39), (⟨"ReadOnceRecognizerModel", "fail", "()V"⟩, 39), (⟨"ReadOnceRecognizerModel", "randomOf", "(II)J"⟩, 39), (⟨"ReadOnceRecognizerModel", "agrees", "(J)Z"⟩, 39), (⟨"ReadOnceRecognizerModel", "execute", "(I)I"⟩, 39)]
theorem lw_r5 : ∀ q ∈ lw_privs_5, lw_okq q := List.forall_mem_cons.mpr ⟨lw_p64, List.forall_mem_cons.mpr ⟨lw_p65, List.forall_mem_cons.mpr ⟨lw_p66, List.forall_mem_cons.mpr ⟨lw_p67, List.forall_mem_cons.mpr ⟨lw_p68, List.forall_mem_cons.mpr ⟨lw_p69, List.forall_mem_cons.mpr ⟨lw_p70, List.forall_mem_cons.mpr ⟨lw_p71, List.forall_mem_cons.mpr ⟨lw_p72, List.forall_mem_cons.mpr ⟨lw_p73, fun _ h => absurd h List.not_mem_nil⟩⟩⟩⟩⟩⟩⟩⟩⟩⟩
def lw_privs : List (MethodName × Nat) := lw_privs_1 ++ (lw_privs_2 ++ (lw_privs_3 ++ (lw_privs_4 ++ (lw_privs_5))))
def lw_tbl : List Cond := k2_sels lw_privs ++ tables_1
theorem lw_privs_ok : ∀ q ∈ lw_privs, lw_okq q := by
  show ∀ q ∈ lw_privs_1 ++ (lw_privs_2 ++ (lw_privs_3 ++ (lw_privs_4 ++ (lw_privs_5)))), lw_okq q
  exact List.forall_mem_append.mpr ⟨lw_r1, List.forall_mem_append.mpr ⟨lw_r2, List.forall_mem_append.mpr ⟨lw_r3, List.forall_mem_append.mpr ⟨lw_r4, lw_r5⟩⟩⟩⟩
end
section

/-! ===== BEGIN printed: names, fields, word lists, decode rows ===== -/
def RX0 : String := "ReadOnceRecognizer$Catalog"
def TX0 : u_T := fun k => match k with
  | 0 => ("ReadOnceRecognizer$Catalog", "entries", "[J", true)
  | _ => ("ReadOnceRecognizer$Catalog", "count", "I", false)
def tyX0 : Nat → FieldType := fun k => match k with
  | 0 => .array .long
  | _ => .int
abbrev wsX00 : List Cond := u_ws RX0 TX0 2
theorem nmX0 : ∀ a, a < 2 → ∀ b, b < 2 → a ≠ b → (TX0 a).2.1 ≠ (TX0 b).2.1 := by decide +kernel
theorem tyX0_ok : ∀ k, k < 2 → parseFieldDescriptor (TX0 k).2.2.1 = some (tyX0 k) := by decide +kernel
abbrev cX0_init : ByteArray := prog_2_method_1_code
def yX0_init : MethodName := ⟨RX0, "<init>", "()V"⟩
abbrev cX0_tableAt : ByteArray := prog_2_method_2_code
def yX0_tableAt : MethodName := ⟨RX0, "tableAt", "(I)J"⟩
abbrev cX0_supportAt : ByteArray := prog_2_method_3_code
def yX0_supportAt : MethodName := ⟨RX0, "supportAt", "(I)I"⟩
abbrev cX0_rootAt : ByteArray := prog_2_method_4_code
def yX0_rootAt : MethodName := ⟨RX0, "rootAt", "(I)I"⟩
abbrev cX0_enter : ByteArray := prog_2_method_5_code
def yX0_enter : MethodName := ⟨RX0, "enter", "(JII)V"⟩
abbrev cX0_enterAll : ByteArray := prog_2_method_6_code
def yX0_enterAll : MethodName := ⟨RX0, "enterAll", "(I[I)V"⟩
abbrev cX0_enterSplit : ByteArray := prog_2_method_7_code
def yX0_enterSplit : MethodName := ⟨RX0, "enterSplit", "(II[I)V"⟩
abbrev cX0_enterJoined : ByteArray := prog_2_method_8_code
def yX0_enterJoined : MethodName := ⟨RX0, "enterJoined", "(JIJI)V"⟩
abbrev cX0_sort : ByteArray := prog_2_method_9_code
def yX0_sort : MethodName := ⟨RX0, "sort", "()V"⟩
abbrev cX0_sink : ByteArray := prog_2_method_10_code
def yX0_sink : MethodName := ⟨RX0, "sink", "(II)V"⟩
def RX1 : String := "ReadOnceRecognizer$Cotree"
def TX1 : u_T := fun k => match k with
  | 0 => ("ReadOnceRecognizer$Cotree", "types", "[I", true)
  | 1 => ("ReadOnceRecognizer$Cotree", "parents", "[I", true)
  | _ => ("ReadOnceRecognizer$Cotree", "count", "I", false)
def tyX1 : Nat → FieldType := fun k => match k with
  | 0 => .array .int
  | 1 => .array .int
  | _ => .int
abbrev wsX10 : List Cond := u_ws RX1 TX1 3
theorem nmX1 : ∀ a, a < 3 → ∀ b, b < 3 → a ≠ b → (TX1 a).2.1 ≠ (TX1 b).2.1 := by decide +kernel
theorem tyX1_ok : ∀ k, k < 3 → parseFieldDescriptor (TX1 k).2.2.1 = some (tyX1 k) := by decide +kernel
abbrev cX1_init : ByteArray := prog_3_method_1_code
def yX1_init : MethodName := ⟨RX1, "<init>", "()V"⟩
abbrev cX1_fill : ByteArray := prog_3_method_2_code
def yX1_fill : MethodName := ⟨RX1, "fill", "(LReadOnceRecognizer$Graph;)V"⟩
abbrev cX1_grow : ByteArray := prog_3_method_3_code
def yX1_grow : MethodName := ⟨RX1, "grow", "(LReadOnceRecognizer$Graph;III)V"⟩
abbrev cX1_growChildren : ByteArray := prog_3_method_4_code
def yX1_growChildren : MethodName := ⟨RX1, "growChildren", "(LReadOnceRecognizer$Graph;III)V"⟩
abbrev cX1_component : ByteArray := prog_3_method_5_code
def yX1_component : MethodName := ⟨RX1, "component", "(LReadOnceRecognizer$Graph;IIZ)I"⟩
abbrev cX1_has : ByteArray := prog_3_method_6_code
def yX1_has : MethodName := ⟨RX1, "has", "(I)Z"⟩
abbrev cX1_depthOfLeaf : ByteArray := prog_3_method_7_code
def yX1_depthOfLeaf : MethodName := ⟨RX1, "depthOfLeaf", "(I)I"⟩
abbrev cX1_depthOfNode : ByteArray := prog_3_method_8_code
def yX1_depthOfNode : MethodName := ⟨RX1, "depthOfNode", "(I)I"⟩
def RX2 : String := "ReadOnceRecognizer$FormulaText"
def TX2 : u_T := fun k => match k with
  | 0 => ("ReadOnceRecognizer$FormulaText", "signs", "[I", true)
  | _ => ("ReadOnceRecognizer$FormulaText", "length", "I", false)
def tyX2 : Nat → FieldType := fun k => match k with
  | 0 => .array .int
  | _ => .int
abbrev wsX20 : List Cond := u_ws RX2 TX2 2
theorem nmX2 : ∀ a, a < 2 → ∀ b, b < 2 → a ≠ b → (TX2 a).2.1 ≠ (TX2 b).2.1 := by decide +kernel
theorem tyX2_ok : ∀ k, k < 2 → parseFieldDescriptor (TX2 k).2.2.1 = some (tyX2 k) := by decide +kernel
abbrev cX2_init : ByteArray := prog_4_method_1_code
def yX2_init : MethodName := ⟨RX2, "<init>", "()V"⟩
abbrev cX2_put : ByteArray := prog_4_method_2_code
def yX2_put : MethodName := ⟨RX2, "put", "(I)V"⟩
abbrev cX2_putTree : ByteArray := prog_4_method_3_code
def yX2_putTree : MethodName := ⟨RX2, "putTree", "(LReadOnceRecognizer$Cotree;)V"⟩
abbrev cX2_putNode : ByteArray := prog_4_method_4_code
def yX2_putNode : MethodName := ⟨RX2, "putNode", "(LReadOnceRecognizer$Cotree;II)V"⟩
abbrev cX2_putChild : ByteArray := prog_4_method_5_code
def yX2_putChild : MethodName := ⟨RX2, "putChild", "(LReadOnceRecognizer$Cotree;II)V"⟩
def RX3 : String := "ReadOnceRecognizer$Graph"
def TX3 : u_T := fun k => match k with
  | 0 => ("ReadOnceRecognizer$Graph", "primes", "[I", true)
  | 1 => ("ReadOnceRecognizer$Graph", "primeCount", "I", false)
  | 2 => ("ReadOnceRecognizer$Graph", "vertices", "I", false)
  | 3 => ("ReadOnceRecognizer$Graph", "adjacent", "[I", true)
  | _ => ("ReadOnceRecognizer$Graph", "path", "[I", true)
def tyX3 : Nat → FieldType := fun k => match k with
  | 0 => .array .int
  | 1 => .int
  | 2 => .int
  | 3 => .array .int
  | _ => .array .int
abbrev wsX30 : List Cond := u_ws RX3 TX3 5
theorem nmX3 : ∀ a, a < 5 → ∀ b, b < 5 → a ≠ b → (TX3 a).2.1 ≠ (TX3 b).2.1 := by decide +kernel
theorem tyX3_ok : ∀ k, k < 5 → parseFieldDescriptor (TX3 k).2.2.1 = some (tyX3 k) := by decide +kernel
abbrev cX3_init : ByteArray := prog_5_method_1_code
def yX3_init : MethodName := ⟨RX3, "<init>", "()V"⟩
abbrev cX3_fill : ByteArray := prog_5_method_2_code
def yX3_fill : MethodName := ⟨RX3, "fill", "(IJ)V"⟩
abbrev cX3_isMinimal : ByteArray := prog_5_method_3_code
def yX3_isMinimal : MethodName := ⟨RX3, "isMinimal", "(IJI)Z"⟩
abbrev cX3_addPrime : ByteArray := prog_5_method_4_code
def yX3_addPrime : MethodName := ⟨RX3, "addPrime", "(I)V"⟩
abbrev cX3_primeAt : ByteArray := prog_5_method_5_code
def yX3_primeAt : MethodName := ⟨RX3, "primeAt", "(I)I"⟩
abbrev cX3_areAdjacent : ByteArray := prog_5_method_6_code
def yX3_areAdjacent : MethodName := ⟨RX3, "areAdjacent", "(II)Z"⟩
abbrev cX3_findPath : ByteArray := prog_5_method_7_code
def yX3_findPath : MethodName := ⟨RX3, "findPath", "()Z"⟩
abbrev cX3_findPathFrom : ByteArray := prog_5_method_8_code
def yX3_findPathFrom : MethodName := ⟨RX3, "findPathFrom", "(II)Z"⟩
abbrev cX3_lowestBadClique : ByteArray := prog_5_method_9_code
def yX3_lowestBadClique : MethodName := ⟨RX3, "lowestBadClique", "()I"⟩
abbrev cX3_isMaximalClique : ByteArray := prog_5_method_10_code
def yX3_isMaximalClique : MethodName := ⟨RX3, "isMaximalClique", "(I)Z"⟩
abbrev cX3_isPrime : ByteArray := prog_5_method_11_code
def yX3_isPrime : MethodName := ⟨RX3, "isPrime", "(I)Z"⟩
def RX4 : String := "ReadOnceRecognizer$History"
def TX4 : u_T := fun k => match k with
  | 0 => ("ReadOnceRecognizer$History", "slots", "[I", true)
  | 1 => ("ReadOnceRecognizer$History", "contents", "[J", true)
  | _ => ("ReadOnceRecognizer$History", "count", "I", false)
def tyX4 : Nat → FieldType := fun k => match k with
  | 0 => .array .int
  | 1 => .array .long
  | _ => .int
abbrev wsX40 : List Cond := u_ws RX4 TX4 3
theorem nmX4 : ∀ a, a < 3 → ∀ b, b < 3 → a ≠ b → (TX4 a).2.1 ≠ (TX4 b).2.1 := by decide +kernel
theorem tyX4_ok : ∀ k, k < 3 → parseFieldDescriptor (TX4 k).2.2.1 = some (tyX4 k) := by decide +kernel
abbrev cX4_init : ByteArray := prog_6_method_1_code
def yX4_init : MethodName := ⟨RX4, "<init>", "()V"⟩
abbrev cX4_remember : ByteArray := prog_6_method_2_code
def yX4_remember : MethodName := ⟨RX4, "remember", "(IJ)V"⟩
abbrev cX4_forget : ByteArray := prog_6_method_3_code
def yX4_forget : MethodName := ⟨RX4, "forget", "()V"⟩
def RX5 : String := "ReadOnceRecognizer$Input"
def TX5 : u_T := fun k => match k with
  | 0 => ("ReadOnceRecognizer$Input", "bytes", "[I", true)
  | 1 => ("ReadOnceRecognizer$Input", "length", "I", false)
  | 2 => ("ReadOnceRecognizer$Input", "n", "I", false)
  | 3 => ("ReadOnceRecognizer$Input", "full", "J", false)
  | 4 => ("ReadOnceRecognizer$Input", "position", "I", false)
  | _ => ("ReadOnceRecognizer$Input", "occurrences", "I", false)
def tyX5 : Nat → FieldType := fun k => match k with
  | 0 => .array .int
  | 1 => .int
  | 2 => .int
  | 3 => .long
  | 4 => .int
  | _ => .int
abbrev wsX50 : List Cond := u_ws RX5 TX5 6
theorem nmX5 : ∀ a, a < 6 → ∀ b, b < 6 → a ≠ b → (TX5 a).2.1 ≠ (TX5 b).2.1 := by decide +kernel
theorem tyX5_ok : ∀ k, k < 6 → parseFieldDescriptor (TX5 k).2.2.1 = some (tyX5 k) := by decide +kernel
abbrev cX5_init : ByteArray := prog_7_method_1_code
def yX5_init : MethodName := ⟨RX5, "<init>", "()V"⟩
abbrev cX5_append : ByteArray := prog_7_method_2_code
def yX5_append : MethodName := ⟨RX5, "append", "(I)Z"⟩
abbrev cX5_readFormula : ByteArray := prog_7_method_3_code
def yX5_readFormula : MethodName := ⟨RX5, "readFormula", "(I)J"⟩
abbrev cX5_nextIs : ByteArray := prog_7_method_4_code
def yX5_nextIs : MethodName := ⟨RX5, "nextIs", "(I)Z"⟩
abbrev cX5_readSum : ByteArray := prog_7_method_5_code
def yX5_readSum : MethodName := ⟨RX5, "readSum", "(I)J"⟩
abbrev cX5_readProduct : ByteArray := prog_7_method_6_code
def yX5_readProduct : MethodName := ⟨RX5, "readProduct", "(I)J"⟩
abbrev cX5_readFactor : ByteArray := prog_7_method_7_code
def yX5_readFactor : MethodName := ⟨RX5, "readFactor", "(I)J"⟩
abbrev cX5_readOpened : ByteArray := prog_7_method_8_code
def yX5_readOpened : MethodName := ⟨RX5, "readOpened", "(I)J"⟩
abbrev cX5_readAtom : ByteArray := prog_7_method_9_code
def yX5_readAtom : MethodName := ⟨RX5, "readAtom", "()J"⟩
def RX6 : String := "ReadOnceRecognizer$State"
def TX6 : u_T := fun k => match k with
  | 0 => ("ReadOnceRecognizer$State", "n", "I", false)
  | 1 => ("ReadOnceRecognizer$State", "functions", "[J", true)
  | 2 => ("ReadOnceRecognizer$State", "samplePoints", "J", false)
  | 3 => ("ReadOnceRecognizer$State", "sampleBits", "J", false)
  | 4 => ("ReadOnceRecognizer$State", "steps", "[I", true)
  | _ => ("ReadOnceRecognizer$State", "stepCount", "I", false)
def tyX6 : Nat → FieldType := fun k => match k with
  | 0 => .int
  | 1 => .array .long
  | 2 => .long
  | 3 => .long
  | 4 => .array .int
  | _ => .int
abbrev wsX60 : List Cond := u_ws RX6 TX6 6
theorem nmX6 : ∀ a, a < 6 → ∀ b, b < 6 → a ≠ b → (TX6 a).2.1 ≠ (TX6 b).2.1 := by decide +kernel
theorem tyX6_ok : ∀ k, k < 6 → parseFieldDescriptor (TX6 k).2.2.1 = some (tyX6 k) := by decide +kernel
abbrev cX6_init : ByteArray := prog_8_method_1_code
def yX6_init : MethodName := ⟨RX6, "<init>", "()V"⟩
abbrev cX6_startAnew : ByteArray := prog_8_method_2_code
def yX6_startAnew : MethodName := ⟨RX6, "startAnew", "(I)V"⟩
abbrev cX6_copyFrom : ByteArray := prog_8_method_3_code
def yX6_copyFrom : MethodName := ⟨RX6, "copyFrom", "(LReadOnceRecognizer$State;)V"⟩
abbrev cX6_holds : ByteArray := prog_8_method_4_code
def yX6_holds : MethodName := ⟨RX6, "holds", "(I)Z"⟩
abbrev cX6_usedCount : ByteArray := prog_8_method_5_code
def yX6_usedCount : MethodName := ⟨RX6, "usedCount", "()I"⟩
abbrev cX6_appendStep : ByteArray := prog_8_method_6_code
def yX6_appendStep : MethodName := ⟨RX6, "appendStep", "(IIII)V"⟩
def RX7 : String := "ReadOnceRecognizer"
def TX7 : u_T := fun k => match k with
  | 0 => ("ReadOnceRecognizer", "state", "LReadOnceRecognizer$State;", true)
  | 1 => ("ReadOnceRecognizer", "saved", "LReadOnceRecognizer$State;", true)
  | 2 => ("ReadOnceRecognizer", "hasSaved", "Z", false)
  | 3 => ("ReadOnceRecognizer", "history", "LReadOnceRecognizer$History;", true)
  | 4 => ("ReadOnceRecognizer", "graph", "LReadOnceRecognizer$Graph;", true)
  | 5 => ("ReadOnceRecognizer", "cotree", "LReadOnceRecognizer$Cotree;", true)
  | 6 => ("ReadOnceRecognizer", "input", "LReadOnceRecognizer$Input;", true)
  | 7 => ("ReadOnceRecognizer", "written", "LReadOnceRecognizer$FormulaText;", true)
  | 8 => ("ReadOnceRecognizer", "elements", "[I", true)
  | 9 => ("ReadOnceRecognizer", "lengths", "[I", true)
  | _ => ("ReadOnceRecognizer", "catalog", "LReadOnceRecognizer$Catalog;", false)
def tyX7 : Nat → FieldType := fun k => match k with
  | 0 => .object "ReadOnceRecognizer$State"
  | 1 => .object "ReadOnceRecognizer$State"
  | 2 => .boolean
  | 3 => .object "ReadOnceRecognizer$History"
  | 4 => .object "ReadOnceRecognizer$Graph"
  | 5 => .object "ReadOnceRecognizer$Cotree"
  | 6 => .object "ReadOnceRecognizer$Input"
  | 7 => .object "ReadOnceRecognizer$FormulaText"
  | 8 => .array .int
  | 9 => .array .int
  | _ => .object "ReadOnceRecognizer$Catalog"
abbrev wsX70 : List Cond := u_ws RX7 TX7 11
theorem nmX7 : ∀ a, a < 11 → ∀ b, b < 11 → a ≠ b → (TX7 a).2.1 ≠ (TX7 b).2.1 := by decide +kernel
theorem tyX7_ok : ∀ k, k < 11 → parseFieldDescriptor (TX7 k).2.2.1 = some (tyX7 k) := by decide +kernel
abbrev cX7_init : ByteArray := prog_1_method_1_code
def yX7_init : MethodName := ⟨RX7, "<init>", "()V"⟩
abbrev cX7_setVariables : ByteArray := prog_1_method_2_code
def yX7_setVariables : MethodName := ⟨RX7, "setVariables", "(I)I"⟩
abbrev cX7_variables : ByteArray := prog_1_method_3_code
def yX7_variables : MethodName := ⟨RX7, "variables", "()I"⟩
abbrev cX7_setTable : ByteArray := prog_1_method_4_code
def yX7_setTable : MethodName := ⟨RX7, "setTable", "(IJ)I"⟩
abbrev cX7_table : ByteArray := prog_1_method_5_code
def yX7_table : MethodName := ⟨RX7, "table", "(I)J"⟩
abbrev cX7_clear : ByteArray := prog_1_method_6_code
def yX7_clear : MethodName := ⟨RX7, "clear", "(I)I"⟩
abbrev cX7_value : ByteArray := prog_1_method_7_code
def yX7_value : MethodName := ⟨RX7, "value", "(II)I"⟩
abbrev cX7_usedSlots : ByteArray := prog_1_method_8_code
def yX7_usedSlots : MethodName := ⟨RX7, "usedSlots", "()I"⟩
abbrev cX7_essential : ByteArray := prog_1_method_9_code
def yX7_essential : MethodName := ⟨RX7, "essential", "(I)I"⟩
abbrev cX7_isMonotone : ByteArray := prog_1_method_10_code
def yX7_isMonotone : MethodName := ⟨RX7, "isMonotone", "(I)I"⟩
abbrev cX7_violatingPoint : ByteArray := prog_1_method_11_code
def yX7_violatingPoint : MethodName := ⟨RX7, "violatingPoint", "(I)I"⟩
abbrev cX7_primeImplicants : ByteArray := prog_1_method_12_code
def yX7_primeImplicants : MethodName := ⟨RX7, "primeImplicants", "(I)I"⟩
abbrev cX7_primeImplicant : ByteArray := prog_1_method_13_code
def yX7_primeImplicant : MethodName := ⟨RX7, "primeImplicant", "(II)I"⟩
abbrev cX7_neighbors : ByteArray := prog_1_method_14_code
def yX7_neighbors : MethodName := ⟨RX7, "neighbors", "(II)I"⟩
abbrev cX7_inducedPath : ByteArray := prog_1_method_15_code
def yX7_inducedPath : MethodName := ⟨RX7, "inducedPath", "(II)I"⟩
abbrev cX7_badClique : ByteArray := prog_1_method_16_code
def yX7_badClique : MethodName := ⟨RX7, "badClique", "(I)I"⟩
abbrev cX7_reason : ByteArray := prog_1_method_17_code
def yX7_reason : MethodName := ⟨RX7, "reason", "(I)I"⟩
abbrev cX7_nodes : ByteArray := prog_1_method_18_code
def yX7_nodes : MethodName := ⟨RX7, "nodes", "(I)I"⟩
abbrev cX7_nodeType : ByteArray := prog_1_method_19_code
def yX7_nodeType : MethodName := ⟨RX7, "nodeType", "(II)I"⟩
abbrev cX7_parent : ByteArray := prog_1_method_20_code
def yX7_parent : MethodName := ⟨RX7, "parent", "(II)I"⟩
abbrev cX7_depth : ByteArray := prog_1_method_21_code
def yX7_depth : MethodName := ⟨RX7, "depth", "(II)I"⟩
abbrev cX7_writeFormula : ByteArray := prog_1_method_22_code
def yX7_writeFormula : MethodName := ⟨RX7, "writeFormula", "(I)I"⟩
abbrev cX7_output : ByteArray := prog_1_method_23_code
def yX7_output : MethodName := ⟨RX7, "output", "(I)I"⟩
abbrev cX7_feed : ByteArray := prog_1_method_24_code
def yX7_feed : MethodName := ⟨RX7, "feed", "(I)I"⟩
abbrev cX7_parse : ByteArray := prog_1_method_25_code
def yX7_parse : MethodName := ⟨RX7, "parse", "(I)I"⟩
abbrev cX7_combine : ByteArray := prog_1_method_26_code
def yX7_combine : MethodName := ⟨RX7, "combine", "(IIII)I"⟩
abbrev cX7_dual : ByteArray := prog_1_method_27_code
def yX7_dual : MethodName := ⟨RX7, "dual", "(II)I"⟩
abbrev cX7_cofactor : ByteArray := prog_1_method_28_code
def yX7_cofactor : MethodName := ⟨RX7, "cofactor", "(IIII)I"⟩
abbrev cX7_substitute : ByteArray := prog_1_method_29_code
def yX7_substitute : MethodName := ⟨RX7, "substitute", "(IIII)I"⟩
abbrev cX7_exchange : ByteArray := prog_1_method_30_code
def yX7_exchange : MethodName := ⟨RX7, "exchange", "(IIII)I"⟩
abbrev cX7_random : ByteArray := prog_1_method_31_code
def yX7_random : MethodName := ⟨RX7, "random", "(III)I"⟩
abbrev cX7_readOnceTrials : ByteArray := prog_1_method_32_code
def yX7_readOnceTrials : MethodName := ⟨RX7, "readOnceTrials", "(III)I"⟩
abbrev cX7_addSample : ByteArray := prog_1_method_33_code
def yX7_addSample : MethodName := ⟨RX7, "addSample", "(II)I"⟩
abbrev cX7_removeSample : ByteArray := prog_1_method_34_code
def yX7_removeSample : MethodName := ⟨RX7, "removeSample", "(I)I"⟩
abbrev cX7_extensions : ByteArray := prog_1_method_35_code
def yX7_extensions : MethodName := ⟨RX7, "extensions", "()I"⟩
abbrev cX7_extension : ByteArray := prog_1_method_36_code
def yX7_extension : MethodName := ⟨RX7, "extension", "(I)J"⟩
abbrev cX7_simplestExtension : ByteArray := prog_1_method_37_code
def yX7_simplestExtension : MethodName := ⟨RX7, "simplestExtension", "()J"⟩
abbrev cX7_readOnceCount : ByteArray := prog_1_method_38_code
def yX7_readOnceCount : MethodName := ⟨RX7, "readOnceCount", "(I)I"⟩
abbrev cX7_addStep : ByteArray := prog_1_method_39_code
def yX7_addStep : MethodName := ⟨RX7, "addStep", "(IIII)I"⟩
abbrev cX7_clearSteps : ByteArray := prog_1_method_40_code
def yX7_clearSteps : MethodName := ⟨RX7, "clearSteps", "()I"⟩
abbrev cX7_runSteps : ByteArray := prog_1_method_41_code
def yX7_runSteps : MethodName := ⟨RX7, "runSteps", "()I"⟩
abbrev cX7_undo : ByteArray := prog_1_method_42_code
def yX7_undo : MethodName := ⟨RX7, "undo", "()I"⟩
abbrev cX7_undoable : ByteArray := prog_1_method_43_code
def yX7_undoable : MethodName := ⟨RX7, "undoable", "()I"⟩
abbrev cX7_save : ByteArray := prog_1_method_44_code
def yX7_save : MethodName := ⟨RX7, "save", "()I"⟩
abbrev cX7_restore : ByteArray := prog_1_method_45_code
def yX7_restore : MethodName := ⟨RX7, "restore", "()I"⟩
abbrev cX7_createArray : ByteArray := prog_1_method_46_code
def yX7_createArray : MethodName := ⟨RX7, "createArray", "(II)I"⟩
abbrev cX7_setElement : ByteArray := prog_1_method_47_code
def yX7_setElement : MethodName := ⟨RX7, "setElement", "(III)I"⟩
abbrev cX7_element : ByteArray := prog_1_method_48_code
def yX7_element : MethodName := ⟨RX7, "element", "(II)J"⟩
abbrev cX7_compare : ByteArray := prog_1_method_49_code
def yX7_compare : MethodName := ⟨RX7, "compare", "(II)I"⟩
abbrev cX7_isIndex : ByteArray := prog_1_method_50_code
def yX7_isIndex : MethodName := ⟨RX7, "isIndex", "(II)Z"⟩
abbrev cX7_isSlot : ByteArray := prog_1_method_51_code
def yX7_isSlot : MethodName := ⟨RX7, "isSlot", "(I)Z"⟩
abbrev cX7_isBit : ByteArray := prog_1_method_52_code
def yX7_isBit : MethodName := ⟨RX7, "isBit", "(I)Z"⟩
abbrev cX7_isPoint : ByteArray := prog_1_method_53_code
def yX7_isPoint : MethodName := ⟨RX7, "isPoint", "(I)Z"⟩
abbrev cX7_isVariable : ByteArray := prog_1_method_54_code
def yX7_isVariable : MethodName := ⟨RX7, "isVariable", "(I)Z"⟩
abbrev cX7_slotError : ByteArray := prog_1_method_55_code
def yX7_slotError : MethodName := ⟨RX7, "slotError", "(I)I"⟩
abbrev cX7_store : ByteArray := prog_1_method_56_code
def yX7_store : MethodName := ⟨RX7, "store", "(IJ)I"⟩
abbrev cX7_drawGraph : ByteArray := prog_1_method_57_code
def yX7_drawGraph : MethodName := ⟨RX7, "drawGraph", "(I)I"⟩
abbrev cX7_growCotree : ByteArray := prog_1_method_58_code
def yX7_growCotree : MethodName := ⟨RX7, "growCotree", "(I)I"⟩
abbrev cX7_whyNotReadOnce : ByteArray := prog_1_method_59_code
def yX7_whyNotReadOnce : MethodName := ⟨RX7, "whyNotReadOnce", "(J)I"⟩
abbrev cX7_runStep : ByteArray := prog_1_method_60_code
def yX7_runStep : MethodName := ⟨RX7, "runStep", "(I)I"⟩
abbrev cX7_openCatalog : ByteArray := prog_1_method_61_code
def yX7_openCatalog : MethodName := ⟨RX7, "openCatalog", "()LReadOnceRecognizer$Catalog;"⟩
abbrev cX7_isExtension : ByteArray := prog_1_method_62_code
def yX7_isExtension : MethodName := ⟨RX7, "isExtension", "(LReadOnceRecognizer$Catalog;I)Z"⟩
abbrev cX7_pointCount : ByteArray := prog_1_method_63_code
def yX7_pointCount : MethodName := ⟨RX7, "pointCount", "(I)I"⟩
abbrev cX7_fullTable : ByteArray := prog_1_method_64_code
def yX7_fullTable : MethodName := ⟨RX7, "fullTable", "(I)J"⟩
abbrev cX7_bitAt : ByteArray := prog_1_method_65_code
def yX7_bitAt : MethodName := ⟨RX7, "bitAt", "(JI)I"⟩
abbrev cX7_withBit : ByteArray := prog_1_method_66_code
def yX7_withBit : MethodName := ⟨RX7, "withBit", "(III)I"⟩
abbrev cX7_essentialSet : ByteArray := prog_1_method_67_code
def yX7_essentialSet : MethodName := ⟨RX7, "essentialSet", "(IJ)I"⟩
abbrev cX7_lowestViolation : ByteArray := prog_1_method_68_code
def yX7_lowestViolation : MethodName := ⟨RX7, "lowestViolation", "(IJ)I"⟩
abbrev cX7_fallsAbove : ByteArray := prog_1_method_69_code
def yX7_fallsAbove : MethodName := ⟨RX7, "fallsAbove", "(IJI)Z"⟩
abbrev cX7_applied : ByteArray := prog_1_method_70_code
def yX7_applied : MethodName := ⟨RX7, "applied", "(IJJ)J"⟩
abbrev cX7_substituted : ByteArray := prog_1_method_71_code
def yX7_substituted : MethodName := ⟨RX7, "substituted", "(JIJ)J"⟩
abbrev cX7_drawnTable : ByteArray := prog_1_method_72_code
def yX7_drawnTable : MethodName := ⟨RX7, "drawnTable", "(II)J"⟩
abbrev cX7_supersets : ByteArray := prog_1_method_73_code
def yX7_supersets : MethodName := ⟨RX7, "supersets", "(II)J"⟩
abbrev cX7_hasVariable : ByteArray := prog_1_method_74_code
def yX7_hasVariable : MethodName := ⟨RX7, "hasVariable", "(II)Z"⟩
abbrev cX7_lowestVariable : ByteArray := prog_1_method_75_code
def yX7_lowestVariable : MethodName := ⟨RX7, "lowestVariable", "(I)I"⟩
def RX8 : String := "ReadOnceRecognizerModel"
def TX8 : u_T := fun k => match k with
  | 0 => ("ReadOnceRecognizerModel", "n", "I", false)
  | 1 => ("ReadOnceRecognizerModel", "points", "I", false)
  | 2 => ("ReadOnceRecognizerModel", "table", "[J", true)
  | 3 => ("ReadOnceRecognizerModel", "filled", "[Z", true)
  | 4 => ("ReadOnceRecognizerModel", "records", "I", false)
  | 5 => ("ReadOnceRecognizerModel", "recordSlot", "[I", true)
  | 6 => ("ReadOnceRecognizerModel", "recordTable", "[J", true)
  | 7 => ("ReadOnceRecognizerModel", "recordFilled", "[Z", true)
  | 8 => ("ReadOnceRecognizerModel", "sampled", "J", false)
  | 9 => ("ReadOnceRecognizerModel", "sampleBits", "J", false)
  | 10 => ("ReadOnceRecognizerModel", "steps", "I", false)
  | 11 => ("ReadOnceRecognizerModel", "step", "[I", true)
  | 12 => ("ReadOnceRecognizerModel", "input", "[I", true)
  | 13 => ("ReadOnceRecognizerModel", "inputSize", "I", false)
  | 14 => ("ReadOnceRecognizerModel", "output", "[I", true)
  | 15 => ("ReadOnceRecognizerModel", "outputSize", "I", false)
  | 16 => ("ReadOnceRecognizerModel", "arrayLength", "[I", true)
  | 17 => ("ReadOnceRecognizerModel", "element", "[I", true)
  | 18 => ("ReadOnceRecognizerModel", "savedN", "I", false)
  | 19 => ("ReadOnceRecognizerModel", "savedSteps", "I", false)
  | 20 => ("ReadOnceRecognizerModel", "savedSampled", "J", false)
  | 21 => ("ReadOnceRecognizerModel", "savedBits", "J", false)
  | 22 => ("ReadOnceRecognizerModel", "savedTable", "[J", true)
  | 23 => ("ReadOnceRecognizerModel", "savedFilled", "[Z", true)
  | 24 => ("ReadOnceRecognizerModel", "savedStep", "[I", true)
  | 25 => ("ReadOnceRecognizerModel", "near", "[I", true)
  | 26 => ("ReadOnceRecognizerModel", "vertices", "I", false)
  | 27 => ("ReadOnceRecognizerModel", "nodes", "I", false)
  | 28 => ("ReadOnceRecognizerModel", "type", "[I", true)
  | 29 => ("ReadOnceRecognizerModel", "parent", "[I", true)
  | 30 => ("ReadOnceRecognizerModel", "place", "I", false)
  | 31 => ("ReadOnceRecognizerModel", "fault", "I", false)
  | 32 => ("ReadOnceRecognizerModel", "occurrences", "I", false)
  | 33 => ("ReadOnceRecognizerModel", "functions", "I", false)
  | 34 => ("ReadOnceRecognizerModel", "kept", "I", false)
  | 35 => ("ReadOnceRecognizerModel", "function", "[J", true)
  | 36 => ("ReadOnceRecognizerModel", "made", "[J", true)
  | 37 => ("ReadOnceRecognizerModel", "madeSet", "[I", true)
  | _ => ("ReadOnceRecognizerModel", "madeRoot", "[I", true)
def tyX8 : Nat → FieldType := fun k => match k with
  | 0 => .int
  | 1 => .int
  | 2 => .array .long
  | 3 => .array .boolean
  | 4 => .int
  | 5 => .array .int
  | 6 => .array .long
  | 7 => .array .boolean
  | 8 => .long
  | 9 => .long
  | 10 => .int
  | 11 => .array .int
  | 12 => .array .int
  | 13 => .int
  | 14 => .array .int
  | 15 => .int
  | 16 => .array .int
  | 17 => .array .int
  | 18 => .int
  | 19 => .int
  | 20 => .long
  | 21 => .long
  | 22 => .array .long
  | 23 => .array .boolean
  | 24 => .array .int
  | 25 => .array .int
  | 26 => .int
  | 27 => .int
  | 28 => .array .int
  | 29 => .array .int
  | 30 => .int
  | 31 => .int
  | 32 => .int
  | 33 => .int
  | 34 => .int
  | 35 => .array .long
  | 36 => .array .long
  | 37 => .array .int
  | _ => .array .int
abbrev wsX80 : List Cond := u_ws RX8 TX8 39
theorem nmX8 : ∀ a, a < 39 → ∀ b, b < 39 → a ≠ b → (TX8 a).2.1 ≠ (TX8 b).2.1 := by decide +kernel
theorem tyX8_ok : ∀ k, k < 39 → parseFieldDescriptor (TX8 k).2.2.1 = some (tyX8 k) := by decide +kernel
abbrev cX8_init : ByteArray := prog_10_method_1_code
def yX8_init : MethodName := ⟨RX8, "<init>", "()V"⟩
abbrev cX8_isIn : ByteArray := prog_10_method_2_code
def yX8_isIn : MethodName := ⟨RX8, "isIn", "(JJJ)Z"⟩
abbrev cX8_isSlot : ByteArray := prog_10_method_3_code
def yX8_isSlot : MethodName := ⟨RX8, "isSlot", "(I)Z"⟩
abbrev cX8_isPoint : ByteArray := prog_10_method_4_code
def yX8_isPoint : MethodName := ⟨RX8, "isPoint", "(I)Z"⟩
abbrev cX8_isVariable : ByteArray := prog_10_method_5_code
def yX8_isVariable : MethodName := ⟨RX8, "isVariable", "(I)Z"⟩
abbrev cX8_at : ByteArray := prog_10_method_6_code
def yX8_at : MethodName := ⟨RX8, "at", "(JI)Z"⟩
abbrev cX8_ones : ByteArray := prog_10_method_7_code
def yX8_ones : MethodName := ⟨RX8, "ones", "(J)I"⟩
abbrev cX8_bits : ByteArray := prog_10_method_8_code
def yX8_bits : MethodName := ⟨RX8, "bits", "(I)I"⟩
abbrev cX8_record : ByteArray := prog_10_method_9_code
def yX8_record : MethodName := ⟨RX8, "record", "(I)V"⟩
abbrev cX8_store : ByteArray := prog_10_method_10_code
def yX8_store : MethodName := ⟨RX8, "store", "(IJ)I"⟩
abbrev cX8_setVariables : ByteArray := prog_10_method_11_code
def yX8_setVariables : MethodName := ⟨RX8, "setVariables", "(I)I"⟩
abbrev cX8_variables : ByteArray := prog_10_method_12_code
def yX8_variables : MethodName := ⟨RX8, "variables", "()I"⟩
abbrev cX8_setTable : ByteArray := prog_10_method_13_code
def yX8_setTable : MethodName := ⟨RX8, "setTable", "(IJ)I"⟩
abbrev cX8_table : ByteArray := prog_10_method_14_code
def yX8_table : MethodName := ⟨RX8, "table", "(I)J"⟩
abbrev cX8_clear : ByteArray := prog_10_method_15_code
def yX8_clear : MethodName := ⟨RX8, "clear", "(I)I"⟩
abbrev cX8_wrong : ByteArray := prog_10_method_16_code
def yX8_wrong : MethodName := ⟨RX8, "wrong", "(I)I"⟩
abbrev cX8_value : ByteArray := prog_10_method_17_code
def yX8_value : MethodName := ⟨RX8, "value", "(II)I"⟩
abbrev cX8_essentialOf : ByteArray := prog_10_method_18_code
def yX8_essentialOf : MethodName := ⟨RX8, "essentialOf", "(J)I"⟩
abbrev cX8_essential : ByteArray := prog_10_method_19_code
def yX8_essential : MethodName := ⟨RX8, "essential", "(I)I"⟩
abbrev cX8_violation : ByteArray := prog_10_method_20_code
def yX8_violation : MethodName := ⟨RX8, "violation", "(J)I"⟩
abbrev cX8_isMonotone : ByteArray := prog_10_method_21_code
def yX8_isMonotone : MethodName := ⟨RX8, "isMonotone", "(I)I"⟩
abbrev cX8_violatingPoint : ByteArray := prog_10_method_22_code
def yX8_violatingPoint : MethodName := ⟨RX8, "violatingPoint", "(I)I"⟩
abbrev cX8_isPrime : ByteArray := prog_10_method_23_code
def yX8_isPrime : MethodName := ⟨RX8, "isPrime", "(JI)Z"⟩
abbrev cX8_wrongOrNot : ByteArray := prog_10_method_24_code
def yX8_wrongOrNot : MethodName := ⟨RX8, "wrongOrNot", "(I)I"⟩
abbrev cX8_primesOf : ByteArray := prog_10_method_25_code
def yX8_primesOf : MethodName := ⟨RX8, "primesOf", "(J)I"⟩
abbrev cX8_primeOf : ByteArray := prog_10_method_26_code
def yX8_primeOf : MethodName := ⟨RX8, "primeOf", "(JI)I"⟩
abbrev cX8_primeImplicants : ByteArray := prog_10_method_27_code
def yX8_primeImplicants : MethodName := ⟨RX8, "primeImplicants", "(I)I"⟩
abbrev cX8_primeImplicant : ByteArray := prog_10_method_28_code
def yX8_primeImplicant : MethodName := ⟨RX8, "primeImplicant", "(II)I"⟩
abbrev cX8_graph : ByteArray := prog_10_method_29_code
def yX8_graph : MethodName := ⟨RX8, "graph", "(J)V"⟩
abbrev cX8_areNear : ByteArray := prog_10_method_30_code
def yX8_areNear : MethodName := ⟨RX8, "areNear", "(II)Z"⟩
abbrev cX8_neighbors : ByteArray := prog_10_method_31_code
def yX8_neighbors : MethodName := ⟨RX8, "neighbors", "(II)I"⟩
abbrev cX8_path : ByteArray := prog_10_method_32_code
def yX8_path : MethodName := ⟨RX8, "path", "()I"⟩
abbrev cX8_inducedPath : ByteArray := prog_10_method_33_code
def yX8_inducedPath : MethodName := ⟨RX8, "inducedPath", "(II)I"⟩
abbrev cX8_isClique : ByteArray := prog_10_method_34_code
def yX8_isClique : MethodName := ⟨RX8, "isClique", "(I)Z"⟩
abbrev cX8_isMaximal : ByteArray := prog_10_method_35_code
def yX8_isMaximal : MethodName := ⟨RX8, "isMaximal", "(I)Z"⟩
abbrev cX8_badCliqueOf : ByteArray := prog_10_method_36_code
def yX8_badCliqueOf : MethodName := ⟨RX8, "badCliqueOf", "(J)I"⟩
abbrev cX8_badClique : ByteArray := prog_10_method_37_code
def yX8_badClique : MethodName := ⟨RX8, "badClique", "(I)I"⟩
abbrev cX8_reasonOf : ByteArray := prog_10_method_38_code
def yX8_reasonOf : MethodName := ⟨RX8, "reasonOf", "(J)I"⟩
abbrev cX8_reason : ByteArray := prog_10_method_39_code
def yX8_reason : MethodName := ⟨RX8, "reason", "(I)I"⟩
abbrev cX8_component : ByteArray := prog_10_method_40_code
def yX8_component : MethodName := ⟨RX8, "component", "(IIZ)I"⟩
abbrev cX8_lowest : ByteArray := prog_10_method_41_code
def yX8_lowest : MethodName := ⟨RX8, "lowest", "(I)I"⟩
abbrev cX8_grow : ByteArray := prog_10_method_42_code
def yX8_grow : MethodName := ⟨RX8, "grow", "(II)V"⟩
abbrev cX8_tree : ByteArray := prog_10_method_43_code
def yX8_tree : MethodName := ⟨RX8, "tree", "(I)I"⟩
abbrev cX8_nodes : ByteArray := prog_10_method_44_code
def yX8_nodes : MethodName := ⟨RX8, "nodes", "(I)I"⟩
abbrev cX8_isNode : ByteArray := prog_10_method_45_code
def yX8_isNode : MethodName := ⟨RX8, "isNode", "(I)Z"⟩
abbrev cX8_nodeType : ByteArray := prog_10_method_46_code
def yX8_nodeType : MethodName := ⟨RX8, "nodeType", "(II)I"⟩
abbrev cX8_parent : ByteArray := prog_10_method_47_code
def yX8_parent : MethodName := ⟨RX8, "parent", "(II)I"⟩
abbrev cX8_depth : ByteArray := prog_10_method_48_code
def yX8_depth : MethodName := ⟨RX8, "depth", "(II)I"⟩
abbrev cX8_put : ByteArray := prog_10_method_49_code
def yX8_put : MethodName := ⟨RX8, "put", "(I)V"⟩
abbrev cX8_write : ByteArray := prog_10_method_50_code
def yX8_write : MethodName := ⟨RX8, "write", "(I)V"⟩
abbrev cX8_writeFormula : ByteArray := prog_10_method_51_code
def yX8_writeFormula : MethodName := ⟨RX8, "writeFormula", "(I)I"⟩
abbrev cX8_output : ByteArray := prog_10_method_52_code
def yX8_output : MethodName := ⟨RX8, "output", "(I)I"⟩
abbrev cX8_feed : ByteArray := prog_10_method_53_code
def yX8_feed : MethodName := ⟨RX8, "feed", "(I)I"⟩
abbrev cX8_here : ByteArray := prog_10_method_54_code
def yX8_here : MethodName := ⟨RX8, "here", "()I"⟩
abbrev cX8_fail : ByteArray := prog_10_method_55_code
def yX8_fail : MethodName := ⟨RX8, "fail", "()V"⟩
abbrev cX8_all : ByteArray := prog_10_method_56_code
def yX8_all : MethodName := ⟨RX8, "all", "()J"⟩
abbrev cX8_variable : ByteArray := prog_10_method_57_code
def yX8_variable : MethodName := ⟨RX8, "variable", "(I)J"⟩
abbrev cX8_factor : ByteArray := prog_10_method_58_code
def yX8_factor : MethodName := ⟨RX8, "factor", "(I)J"⟩
abbrev cX8_term : ByteArray := prog_10_method_59_code
def yX8_term : MethodName := ⟨RX8, "term", "(I)J"⟩
abbrev cX8_formula : ByteArray := prog_10_method_60_code
def yX8_formula : MethodName := ⟨RX8, "formula", "(I)J"⟩
abbrev cX8_parse : ByteArray := prog_10_method_61_code
def yX8_parse : MethodName := ⟨RX8, "parse", "(I)I"⟩
abbrev cX8_combine : ByteArray := prog_10_method_62_code
def yX8_combine : MethodName := ⟨RX8, "combine", "(IIII)I"⟩
abbrev cX8_dual : ByteArray := prog_10_method_63_code
def yX8_dual : MethodName := ⟨RX8, "dual", "(II)I"⟩
abbrev cX8_cofactor : ByteArray := prog_10_method_64_code
def yX8_cofactor : MethodName := ⟨RX8, "cofactor", "(IIII)I"⟩
abbrev cX8_substitute : ByteArray := prog_10_method_65_code
def yX8_substitute : MethodName := ⟨RX8, "substitute", "(IIII)I"⟩
abbrev cX8_exchange : ByteArray := prog_10_method_66_code
def yX8_exchange : MethodName := ⟨RX8, "exchange", "(IIII)I"⟩
abbrev cX8_randomOf : ByteArray := prog_10_method_67_code
def yX8_randomOf : MethodName := ⟨RX8, "randomOf", "(II)J"⟩
abbrev cX8_random : ByteArray := prog_10_method_68_code
def yX8_random : MethodName := ⟨RX8, "random", "(III)I"⟩
abbrev cX8_readOnceTrials : ByteArray := prog_10_method_69_code
def yX8_readOnceTrials : MethodName := ⟨RX8, "readOnceTrials", "(III)I"⟩
abbrev cX8_make : ByteArray := prog_10_method_70_code
def yX8_make : MethodName := ⟨RX8, "make", "(IIJ)V"⟩
abbrev cX8_join : ByteArray := prog_10_method_71_code
def yX8_join : MethodName := ⟨RX8, "join", "(III)V"⟩
abbrev cX8_listFunctions : ByteArray := prog_10_method_72_code
def yX8_listFunctions : MethodName := ⟨RX8, "listFunctions", "()V"⟩
abbrev cX8_insert : ByteArray := prog_10_method_73_code
def yX8_insert : MethodName := ⟨RX8, "insert", "(J)V"⟩
abbrev cX8_addSample : ByteArray := prog_10_method_74_code
def yX8_addSample : MethodName := ⟨RX8, "addSample", "(II)I"⟩
abbrev cX8_removeSample : ByteArray := prog_10_method_75_code
def yX8_removeSample : MethodName := ⟨RX8, "removeSample", "(I)I"⟩
abbrev cX8_agrees : ByteArray := prog_10_method_76_code
def yX8_agrees : MethodName := ⟨RX8, "agrees", "(J)Z"⟩
abbrev cX8_extensions : ByteArray := prog_10_method_77_code
def yX8_extensions : MethodName := ⟨RX8, "extensions", "()I"⟩
abbrev cX8_extension : ByteArray := prog_10_method_78_code
def yX8_extension : MethodName := ⟨RX8, "extension", "(I)J"⟩
abbrev cX8_simplestExtension : ByteArray := prog_10_method_79_code
def yX8_simplestExtension : MethodName := ⟨RX8, "simplestExtension", "()J"⟩
abbrev cX8_readOnceCount : ByteArray := prog_10_method_80_code
def yX8_readOnceCount : MethodName := ⟨RX8, "readOnceCount", "(I)I"⟩
abbrev cX8_addStep : ByteArray := prog_10_method_81_code
def yX8_addStep : MethodName := ⟨RX8, "addStep", "(IIII)I"⟩
abbrev cX8_clearSteps : ByteArray := prog_10_method_82_code
def yX8_clearSteps : MethodName := ⟨RX8, "clearSteps", "()I"⟩
abbrev cX8_execute : ByteArray := prog_10_method_83_code
def yX8_execute : MethodName := ⟨RX8, "execute", "(I)I"⟩
abbrev cX8_runSteps : ByteArray := prog_10_method_84_code
def yX8_runSteps : MethodName := ⟨RX8, "runSteps", "()I"⟩
abbrev cX8_undo : ByteArray := prog_10_method_85_code
def yX8_undo : MethodName := ⟨RX8, "undo", "()I"⟩
abbrev cX8_save : ByteArray := prog_10_method_86_code
def yX8_save : MethodName := ⟨RX8, "save", "()I"⟩
abbrev cX8_restore : ByteArray := prog_10_method_87_code
def yX8_restore : MethodName := ⟨RX8, "restore", "()I"⟩
abbrev cX8_isArray : ByteArray := prog_10_method_88_code
def yX8_isArray : MethodName := ⟨RX8, "isArray", "(I)Z"⟩
abbrev cX8_createArray : ByteArray := prog_10_method_89_code
def yX8_createArray : MethodName := ⟨RX8, "createArray", "(II)I"⟩
abbrev cX8_setElement : ByteArray := prog_10_method_90_code
def yX8_setElement : MethodName := ⟨RX8, "setElement", "(III)I"⟩
abbrev cX8_element : ByteArray := prog_10_method_91_code
def yX8_element : MethodName := ⟨RX8, "element", "(II)J"⟩
abbrev cX8_compare : ByteArray := prog_10_method_92_code
def yX8_compare : MethodName := ⟨RX8, "compare", "(II)I"⟩
abbrev cX8_usedSlots : ByteArray := prog_10_method_93_code
def yX8_usedSlots : MethodName := ⟨RX8, "usedSlots", "()I"⟩
abbrev cX8_undoable : ByteArray := prog_10_method_94_code
def yX8_undoable : MethodName := ⟨RX8, "undoable", "()I"⟩
def RJ6 : String := "java/lang/Integer"
def TJ6 : u_T := fun k => match k with
  | _ => ("", "", "", false)
def tyJ6 : Nat → FieldType := fun k => match k with
  | _ => .int
abbrev wsJ60 : List Cond := u_ws RJ6 TJ6 0
theorem nmJ6 : ∀ a, a < 0 → ∀ b, b < 0 → a ≠ b → (TJ6 a).2.1 ≠ (TJ6 b).2.1 := by decide +kernel
theorem tyJ6_ok : ∀ k, k < 0 → parseFieldDescriptor (TJ6 k).2.2.1 = some (tyJ6 k) := by decide +kernel
abbrev cJ6_bitCount_0f7a4 : ByteArray := prog_11_method_49_code
def yJ6_bitCount_0f7a4 : MethodName := ⟨RJ6, "bitCount", "(I)I"⟩
def RJ13 : String := "java/lang/Long"
def TJ13 : u_T := fun k => match k with
  | _ => ("", "", "", false)
def tyJ13 : Nat → FieldType := fun k => match k with
  | _ => .int
abbrev wsJ130 : List Cond := u_ws RJ13 TJ13 0
theorem nmJ13 : ∀ a, a < 0 → ∀ b, b < 0 → a ≠ b → (TJ13 a).2.1 ≠ (TJ13 b).2.1 := by decide +kernel
theorem tyJ13_ok : ∀ k, k < 0 → parseFieldDescriptor (TJ13 k).2.2.1 = some (tyJ13 k) := by decide +kernel
abbrev cJ13_bitCount_95d88 : ByteArray := prog_12_method_50_code
def yJ13_bitCount_95d88 : MethodName := ⟨RJ13, "bitCount", "(J)I"⟩
def RJ10 : String := "java/lang/System"
def TJ10 : u_T := fun k => match k with
  | _ => ("", "", "", false)
def tyJ10 : Nat → FieldType := fun k => match k with
  | _ => .int
abbrev wsJ100 : List Cond := u_ws RJ10 TJ10 0
theorem nmJ10 : ∀ a, a < 0 → ∀ b, b < 0 → a ≠ b → (TJ10 a).2.1 ≠ (TJ10 b).2.1 := by decide +kernel
theorem tyJ10_ok : ∀ k, k < 0 → parseFieldDescriptor (TJ10 k).2.2.1 = some (tyJ10 k) := by decide +kernel
def RJ7 : String := "java/util/Arrays"
def TJ7 : u_T := fun k => match k with
  | _ => ("", "", "", false)
def tyJ7 : Nat → FieldType := fun k => match k with
  | _ => .int
abbrev wsJ70 : List Cond := u_ws RJ7 TJ7 0
theorem nmJ7 : ∀ a, a < 0 → ∀ b, b < 0 → a ≠ b → (TJ7 a).2.1 ≠ (TJ7 b).2.1 := by decide +kernel
theorem tyJ7_ok : ∀ k, k < 0 → parseFieldDescriptor (TJ7 k).2.2.1 = some (tyJ7 k) := by decide +kernel
abbrev cJ7_fill_d0a16 : ByteArray := prog_14_method_101_code
def yJ7_fill_d0a16 : MethodName := ⟨RJ7, "fill", "([JJ)V"⟩
abbrev cJ7_fill_53178 : ByteArray := prog_14_method_103_code
def yJ7_fill_53178 : MethodName := ⟨RJ7, "fill", "([II)V"⟩
def RL : String := "ReadOnceRecognizerLaw"
abbrev cL_law : ByteArray := code
def yL_law : MethodName := ⟨RL, "law", "([I)Z"⟩
abbrev vwCl : List vw_C := [(RX0, TX0, 2), (RX1, TX1, 3), (RX2, TX2, 2), (RX3, TX3, 5), (RX4, TX4, 3), (RX5, TX5, 6), (RX6, TX6, 6), (RX7, TX7, 11), (RX8, TX8, 39)]
end
section
/-! OUR LAYER. An abstract heap is a list of cells: an object (class number, fields), int[], long[], boolean[]; a reference is the cell's place in the list; places 1000 and 1001 stand for the two static arrays. tG: from this point of a method's code the machine comes to an end with Q. tEv: a method's contract in these words. -/
abbrev tC : Type := (Nat × List Value) ⊕ (List Int32 ⊕ (List Int64 ⊕ List Int32))
abbrev tHp : Type := List tC
abbrev tEn : Type := va_G × (ClassId × ClassId × ClassId) × (Nat × Nat)
def tad (E : tEn) (ads : List Nat) (k : Nat) : Nat := match ads[k]? with
  | some a => a
  | none => if k = 1000 then E.2.2.1 else E.2.2.2
def tv (E : tEn) (ads : List Nat) (v : Value) : Value := match v with
  | .ref k => .ref (tad E ads k)
  | w => w
theorem tv_cat (E : tEn) (ads : List Nat) (v : Value) : (tv E ads v).category = v.category := by cases v <;> rfl
def tce (E : tEn) (ads : List Nat) (c : tC) : va_E := match c with
  | .inl o => .inr (o.1, o.2.map (tv E ads))
  | .inr (.inl l) => .inl (E.2.1.1, l.length, .inl (fun j => l.getD j 0))
  | .inr (.inr (.inl l)) => .inl (E.2.1.2.1, l.length, .inr (.inl (fun j => l.getD j 0)))
  | .inr (.inr (.inr l)) => .inl (E.2.1.2.2, l.length, .inl (fun j => l.getD j 0))
def tw (E : tEn) (ads : List Nat) (h : tHp) : va_W := List.zipWith (fun a c => (a, tce E ads c)) ads h
theorem tw_get {E : tEn} {ads : List Nat} {h : tHp} {j : Nat} {c : tC} (hl : ads.length = h.length) (hc : h[j]? = some c) : (tw E ads h)[j]? = some (tad E ads j, tce E ads c) := by
  have hj : j < h.length := (List.getElem?_eq_some_iff.mp hc).1
  have ha : ads[j]? = some (ads[j]'(by omega)) := List.getElem?_eq_getElem (by omega)
  unfold tw
  rw [List.getElem?_zipWith, ha, hc]
  simp only [tad, ha]
theorem tw_set {E : tEn} {ads : List Nat} {h : tHp} {j : Nat} {c : tC} (hl : ads.length = h.length) (hj : j < h.length) : (tw E ads h).set j (tad E ads j, tce E ads c) = tw E ads (h.set j c) := by
  apply List.ext_getElem?
  intro i
  have hlen : (tw E ads h).length = h.length := by unfold tw; rw [List.length_zipWith]; omega
  by_cases hij : j = i
  · subst hij
    have h2 : (h.set j c)[j]? = some c := by rw [List.getElem?_set_self hj]
    rw [tw_get (by rw [List.length_set]; exact hl) h2, List.getElem?_set_self (by omega)]
  · rw [List.getElem?_set_ne hij]
    unfold tw
    rw [List.getElem?_zipWith, List.getElem?_zipWith, List.getElem?_set_ne hij]
def tR (E : tEn) (ads : List Nat) (h : tHp) (A : Nat → Prop) (H : Heap) : Prop := ads.length = h.length ∧ va_P E.1 vwCl (tw E ads h) H ∧ va_D A (tw E ads h)
def tVT : List Int64 := [2863311530, 3435973836, 4042322160, 4278255360, 4294901760]
def tGA : List Int32 := [301, 132, 57, 23, 10, 4, 1]
def tNest : Cond → Bool
  | .fieldLinkNest .. => true
  | .methodLinkNest .. => true
  | _ => false
def tSt (w : Cond) : Bool := goodWord w || tNest w
def tTB : List Cond := lw_tbl.filter tSt
theorem tmem {w : Cond} (h1 : w ∈ lw_tbl) (h2 : tSt w = true) : w ∈ tTB := List.mem_filter.mpr ⟨h1, h2⟩
def tU (E : tEn) (A : Nat → Prop) (U : State) : Prop :=
  va_K E.1 vwCl [(E.2.1.1, .int), (E.2.1.2.1, .long), (E.2.1.2.2, .boolean)] U ∧ (∀ w ∈ tTB, va_Nw w U) ∧
  (va_Z "ReadOnceRecognizer" "VARIABLE_TABLES" "[J" (.ref E.2.2.1) A U U.heap ∧ va_T .long E.2.2.1 5 (fun j => .long (tVT.getD j 0)) A U U.heap) ∧
  (va_Z "ReadOnceRecognizer$Catalog" "GAPS" "[I" (.ref E.2.2.2) A U U.heap ∧ va_T .int E.2.2.2 7 (fun j => .int (tGA.getD j 0)) A U U.heap)
theorem tWm {s U : State} {w : Cond} (hW : s.WarmedH U.vm) (hw : w ∈ tTB) (h : va_Nw w s) (args : Array Value) : w.before args U = true := by
  have h1 := (List.mem_filter.mp hw).2
  rcases Bool.or_eq_true_iff.mp h1 with h2 | h2
  · exact word_at hW (good_of_word h2) h
  · cases w <;> first
      | exact va_Nw.use rfl (va_Nw.warmF hW h)
      | exact va_Nw.use rfl (va_Nw.warmM hW h)
      | exact absurd h2 (by decide)
      | (simp [tNest] at h2; done)
theorem tU.hts {E : tEn} {A : Nat → Prop} {s : State} (h : tU E A s) (args : Array Value) : ∀ w ∈ tTB, w.before args s = true := fun w hw => tWm (State.WarmedH.refl s) hw (h.2.1 w hw) args
theorem tU.call {E : tEn} {A A1 : Nat → Prop} {s U : State} {H : Heap} {locs : List Loc} (h : tU E A s) (hS : va_S A s.heap H locs) (hA : ∀ q, A1 q → A q) (hU : U.heap = H) (hW : s.WarmedH U.vm) : tU E A1 U := by
  obtain ⟨h1, h2, ⟨h3, h4⟩, h5, h6⟩ := h
  have hk : ∀ a : Nat, a < s.heap.size → ¬ A a → U.heap[a]? = s.heap[a]? := fun a ha hn => by rw [hU]; exact hS.2.1 a ha hn
  exact ⟨va_K.moved hW.alike h1, fun w hw => tWm hW hw (h2 w hw) #[], ⟨((h3.kept hk).moved hW.alike).narrow hA, ((h4.kept hk).moved hW.alike).narrow hA⟩, ((h5.kept hk).moved hW.alike).narrow hA, ((h6.kept hk).moved hW.alike).narrow hA⟩
/-- what holds all along a method's run -/
def tCx (E : tEn) (own : String) (cc : ByteArray) (nL : Nat) (ret : Option FieldType) (ini : Bool) (d : Nat) (p : Program) (R : Room) (s : State) (m : MethodId) (meth : Method) (c : Code) (A : Nat → Prop) : Prop :=
  p.tables.exec = Jvm.exec ∧ c.code = cc ∧ c.maxLocals = nL ∧ meth.sig.returnType = ret ∧ meth.locks = false ∧ (ini = true → meth.name = "<init>") ∧ s.vm.findClass own = some m.cls ∧ R.frames = d ∧ R.locals = 64 * d ∧ tU E A s ∧ ∀ q, s.heap.size ≤ q → A q
def tQ (E : tEn) (A : Nat → Prop) (ads0 : List Nat) (Q : Option Value → tHp → Prop) : Array Value → State → Outcome → State → Prop := fun _ st oc t =>
  (∃ (r : Option Value) (h' : tHp) (ads' : List Nat), oc = .returned (r.map (tv E ads')) ∧ Q r h' ∧ ads0 <+: ads' ∧ tR E ads' h' A t.heap) ∧ va_F A st t
def tLm (E : tEn) (ads : List Nat) (L : List (Nat × Value)) : List (Nat × Value) := L.map (fun q => (q.1, tv E ads q.2))
def tG (l : Launch) (E : tEn) (own : String) (cc : ByteArray) (nL : Nat) (ret : Option FieldType) (ini : Bool) (d : Nat) (Q : Option Value → tHp → Prop) (k n : Nat) (pc : Nat) (L : List (Nat × Value)) (st : List Value) (h : tHp) : Prop :=
  ∀ (p : Program) (e : Env) (R : Room) (s : State) (m : MethodId) (args : Array Value) (below : List Frame) (meth : Method) (c : Code) (A : Nat → Prop) (ads0 : List Nat), tCx E own cc nL ret ini d p R s m meth c A →
    ∀ (ads : List Nat) (H : Heap) (locs : List Loc) (cells slots : Nat) (ls : Array Slot), cells + k ≤ R.cells → slots + n ≤ R.slots → ads0 <+: ads → tR E ads h A H → va_S A s.heap H locs → lv_has ls nL (tLm E ads L) →
      W p l e R s m args below meth c H locs cells slots (MQ below (tQ E A ads0 Q) args s R.cells R.slots A) (F0 m pc ls (st.map (tv E ads)))
def tEv (l : Launch) (E : tEn) (y : MethodName) (cc : ByteArray) (maxL : Nat) (ret : Option FieldType) (d k n : Nat) (av : List Value) (h : tHp) (Q : Option Value → tHp → Prop) : Prop :=
  ∀ (ads : List Nat) (sz : Nat), Met l y [Cond.code y cc maxL ret] { frames := d, cells := k, slots := n, locals := 64 * d }
    (va_Pc (av.map (tv E ads)) (fun U => U.heap.size = sz ∧ tU E (va_A (tw E ads h) sz) U ∧ tR E ads h (fun _ => True) U.heap))
    (tQ E (va_A (tw E ads h) sz) ads Q) k n (va_A (tw E ads h) sz)
theorem tLm_at {E : tEn} {ads : List Nat} {ls : Array Slot} {nL : Nat} {L : List (Nat × Value)} (h : lv_has ls nL (tLm E ads L)) (j : Nat) {i : Nat} {v : Value} (hj : L[j]? = some (i, v)) : ls[i]? = some (.val (tv E ads v)) :=
  lv_at h j (by unfold tLm; rw [List.getElem?_map, hj]; rfl)
theorem lv_args_tv (E : tEn) (ads : List Nat) : ∀ (vs : List Value) (i : Nat), lv_args i (vs.map (tv E ads)) = tLm E ads (lv_args i vs)
  | [], _ => rfl
  | v :: vs, i => by
    show (i, tv E ads v) :: lv_args (if (tv E ads v).category = 2 then i + 2 else i + 1) (vs.map (tv E ads)) = (i, tv E ads v) :: tLm E ads (lv_args (if v.category = 2 then i + 2 else i + 1) vs)
    rw [tv_cat, lv_args_tv E ads vs]
theorem lg_sl_len (E : tEn) (ads : List Nat) : ∀ vs : List Value, (lg_sl (vs.map (tv E ads))).length = (lg_sl vs).length
  | [] => rfl
  | v :: vs => by
    have h := lg_sl_len E ads vs
    unfold lg_sl at h ⊢
    rw [List.map_cons, List.flatMap_cons, List.flatMap_cons, List.length_append, List.length_append, h, tv_cat]
    split <;> rfl
theorem tEv.of {l : Launch} {E : tEn} {y : MethodName} {cc : ByteArray} {maxL : Nat} {ret : Option FieldType} {ini : Bool} {d k n : Nat} {av : List Value} {h : tHp} {Q : Option Value → tHp → Prop} {L : List (Nat × Value)} {own : String}
    (hy : plainName y.cls = true) (ho : y.cls = own) (hi : ini = true → y.name = "<init>") (hL : lv_args 0 av = L) (hn : (lg_sl av).length ≤ maxL) (hG : tG l E own cc maxL ret ini d Q k n 0 L [] h) : tEv l E y cc maxL ret d k n av h Q := by
  intro ads sz
  refine Met.ofW (cc := cc) (maxL := maxL) (ret := ret) hy rfl ?_
  intro p e s m args below meth c s₁ B hml hv
  obtain ⟨rfl, hsz, hU, hR⟩ := hv
  subst hsz; subst ho; subst hL
  have hl := lv_entry (av.map (tv E ads)) (n := maxL) (by rw [lg_sl_len]; exact hn)
  rw [lg_entry_eq]
  rw [lv_args_tv] at hl
  refine hG p e _ s m _ below meth c (va_A (tw E ads h) s.heap.size) ads ⟨B.exec, B.bytes, hml, B.returns, B.notSynchronized, fun h9 => ?_, findClass_of_methodNamed B.named, rfl, rfl, hU, fun q hq => Or.inr hq⟩ ads s.heap [] 0 0 _ (by show 0 + k ≤ k; omega) (by show 0 + n ≤ n; omega) (List.prefix_refl ads) ⟨hR.1, hR.2.1, hR.2.2.self⟩ va_S.rf hl
  have := (name_of_methodNamed B.named B.method).1
  rw [this]
  exact hi h9
end
section
section TRULES
variable {l : Launch} {E : tEn} {own : String} {cc : ByteArray} {nL : Nat} {ret : Option FieldType} {ini : Bool} {d : Nat} {Q : Option Value → tHp → Prop} {k n : Nat} {pc : Nat} {L : List (Nat × Value)} {st : List Value} {h : tHp}
theorem g_iadd {x y : Int32} {q : Nat} (hd : decode cc pc = .ok (.iadd, 1)) (hq : pc + 1 = q)  (kk : tG l E own cc nL ret ini d Q k n q L (.int (x + y) :: st) h) : tG l E own cc nL ret ini d Q k n pc L (.int y :: .int x :: st) h := by
  subst hq
  exact fun p e R s m args below meth c A ads0 X ads H locs cells slots ls h1 h2 h3 h4 h5 h6 => lv_iadd X.1 X.2.1 hd  (kk p e R s m args below meth c A ads0 X ads H locs cells slots ls h1 h2 h3 h4 h5 h6)
theorem g_isub {x y : Int32} {q : Nat} (hd : decode cc pc = .ok (.isub, 1)) (hq : pc + 1 = q)  (kk : tG l E own cc nL ret ini d Q k n q L (.int (x - y) :: st) h) : tG l E own cc nL ret ini d Q k n pc L (.int y :: .int x :: st) h := by
  subst hq
  exact fun p e R s m args below meth c A ads0 X ads H locs cells slots ls h1 h2 h3 h4 h5 h6 => lv_isub X.1 X.2.1 hd  (kk p e R s m args below meth c A ads0 X ads H locs cells slots ls h1 h2 h3 h4 h5 h6)
theorem g_imul {x y : Int32} {q : Nat} (hd : decode cc pc = .ok (.imul, 1)) (hq : pc + 1 = q)  (kk : tG l E own cc nL ret ini d Q k n q L (.int (x * y) :: st) h) : tG l E own cc nL ret ini d Q k n pc L (.int y :: .int x :: st) h := by
  subst hq
  exact fun p e R s m args below meth c A ads0 X ads H locs cells slots ls h1 h2 h3 h4 h5 h6 => lv_imul X.1 X.2.1 hd  (kk p e R s m args below meth c A ads0 X ads H locs cells slots ls h1 h2 h3 h4 h5 h6)
theorem g_iand {x y : Int32} {q : Nat} (hd : decode cc pc = .ok (.iand, 1)) (hq : pc + 1 = q)  (kk : tG l E own cc nL ret ini d Q k n q L (.int (x &&& y) :: st) h) : tG l E own cc nL ret ini d Q k n pc L (.int y :: .int x :: st) h := by
  subst hq
  exact fun p e R s m args below meth c A ads0 X ads H locs cells slots ls h1 h2 h3 h4 h5 h6 => lv_iand X.1 X.2.1 hd  (kk p e R s m args below meth c A ads0 X ads H locs cells slots ls h1 h2 h3 h4 h5 h6)
theorem g_ior {x y : Int32} {q : Nat} (hd : decode cc pc = .ok (.ior, 1)) (hq : pc + 1 = q)  (kk : tG l E own cc nL ret ini d Q k n q L (.int (x ||| y) :: st) h) : tG l E own cc nL ret ini d Q k n pc L (.int y :: .int x :: st) h := by
  subst hq
  exact fun p e R s m args below meth c A ads0 X ads H locs cells slots ls h1 h2 h3 h4 h5 h6 => lv_ior X.1 X.2.1 hd  (kk p e R s m args below meth c A ads0 X ads H locs cells slots ls h1 h2 h3 h4 h5 h6)
theorem g_ixor {x y : Int32} {q : Nat} (hd : decode cc pc = .ok (.ixor, 1)) (hq : pc + 1 = q)  (kk : tG l E own cc nL ret ini d Q k n q L (.int (x ^^^ y) :: st) h) : tG l E own cc nL ret ini d Q k n pc L (.int y :: .int x :: st) h := by
  subst hq
  exact fun p e R s m args below meth c A ads0 X ads H locs cells slots ls h1 h2 h3 h4 h5 h6 => lv_ixor X.1 X.2.1 hd  (kk p e R s m args below meth c A ads0 X ads H locs cells slots ls h1 h2 h3 h4 h5 h6)
theorem g_ishl {x y : Int32} {q : Nat} (hd : decode cc pc = .ok (.ishl, 1)) (hq : pc + 1 = q)  (kk : tG l E own cc nL ret ini d Q k n q L (.int (x <<< (y &&& 31)) :: st) h) : tG l E own cc nL ret ini d Q k n pc L (.int y :: .int x :: st) h := by
  subst hq
  exact fun p e R s m args below meth c A ads0 X ads H locs cells slots ls h1 h2 h3 h4 h5 h6 => lv_ishl X.1 X.2.1 hd  (kk p e R s m args below meth c A ads0 X ads H locs cells slots ls h1 h2 h3 h4 h5 h6)
theorem g_ishr {x y : Int32} {q : Nat} (hd : decode cc pc = .ok (.ishr, 1)) (hq : pc + 1 = q)  (kk : tG l E own cc nL ret ini d Q k n q L (.int (x >>> (y &&& 31)) :: st) h) : tG l E own cc nL ret ini d Q k n pc L (.int y :: .int x :: st) h := by
  subst hq
  exact fun p e R s m args below meth c A ads0 X ads H locs cells slots ls h1 h2 h3 h4 h5 h6 => lv_ishr X.1 X.2.1 hd  (kk p e R s m args below meth c A ads0 X ads H locs cells slots ls h1 h2 h3 h4 h5 h6)
theorem g_idiv {x y : Int32} {q : Nat} (hd : decode cc pc = .ok (.idiv, 1)) (hq : pc + 1 = q) (hne : ¬ y = 0) (kk : tG l E own cc nL ret ini d Q k n q L (.int (x / y) :: st) h) : tG l E own cc nL ret ini d Q k n pc L (.int y :: .int x :: st) h := by
  subst hq
  exact fun p e R s m args below meth c A ads0 X ads H locs cells slots ls h1 h2 h3 h4 h5 h6 => lv_idiv X.1 X.2.1 hd hne (kk p e R s m args below meth c A ads0 X ads H locs cells slots ls h1 h2 h3 h4 h5 h6)
theorem g_irem {x y : Int32} {q : Nat} (hd : decode cc pc = .ok (.irem, 1)) (hq : pc + 1 = q) (hne : ¬ y = 0) (kk : tG l E own cc nL ret ini d Q k n q L (.int (x - x / y * y) :: st) h) : tG l E own cc nL ret ini d Q k n pc L (.int y :: .int x :: st) h := by
  subst hq
  exact fun p e R s m args below meth c A ads0 X ads H locs cells slots ls h1 h2 h3 h4 h5 h6 => lv_irem X.1 X.2.1 hd hne (kk p e R s m args below meth c A ads0 X ads H locs cells slots ls h1 h2 h3 h4 h5 h6)
theorem g_ineg {x : Int32} {q : Nat} (hd : decode cc pc = .ok (.ineg, 1)) (hq : pc + 1 = q)  (kk : tG l E own cc nL ret ini d Q k n q L (.int (-x) :: st) h) : tG l E own cc nL ret ini d Q k n pc L (.int x :: st) h := by
  subst hq
  exact fun p e R s m args below meth c A ads0 X ads H locs cells slots ls h1 h2 h3 h4 h5 h6 => lv_ineg X.1 X.2.1 hd  (kk p e R s m args below meth c A ads0 X ads H locs cells slots ls h1 h2 h3 h4 h5 h6)
theorem g_ladd {x y : Int64} {q : Nat} (hd : decode cc pc = .ok (.ladd, 1)) (hq : pc + 1 = q)  (kk : tG l E own cc nL ret ini d Q k n q L (.long (x + y) :: st) h) : tG l E own cc nL ret ini d Q k n pc L (.long y :: .long x :: st) h := by
  subst hq
  exact fun p e R s m args below meth c A ads0 X ads H locs cells slots ls h1 h2 h3 h4 h5 h6 => lv_ladd X.1 X.2.1 hd  (kk p e R s m args below meth c A ads0 X ads H locs cells slots ls h1 h2 h3 h4 h5 h6)
theorem g_lsub {x y : Int64} {q : Nat} (hd : decode cc pc = .ok (.lsub, 1)) (hq : pc + 1 = q)  (kk : tG l E own cc nL ret ini d Q k n q L (.long (x - y) :: st) h) : tG l E own cc nL ret ini d Q k n pc L (.long y :: .long x :: st) h := by
  subst hq
  exact fun p e R s m args below meth c A ads0 X ads H locs cells slots ls h1 h2 h3 h4 h5 h6 => lv_lsub X.1 X.2.1 hd  (kk p e R s m args below meth c A ads0 X ads H locs cells slots ls h1 h2 h3 h4 h5 h6)
theorem g_land {x y : Int64} {q : Nat} (hd : decode cc pc = .ok (.land, 1)) (hq : pc + 1 = q)  (kk : tG l E own cc nL ret ini d Q k n q L (.long (x &&& y) :: st) h) : tG l E own cc nL ret ini d Q k n pc L (.long y :: .long x :: st) h := by
  subst hq
  exact fun p e R s m args below meth c A ads0 X ads H locs cells slots ls h1 h2 h3 h4 h5 h6 => lv_land X.1 X.2.1 hd  (kk p e R s m args below meth c A ads0 X ads H locs cells slots ls h1 h2 h3 h4 h5 h6)
theorem g_lor {x y : Int64} {q : Nat} (hd : decode cc pc = .ok (.lor, 1)) (hq : pc + 1 = q)  (kk : tG l E own cc nL ret ini d Q k n q L (.long (x ||| y) :: st) h) : tG l E own cc nL ret ini d Q k n pc L (.long y :: .long x :: st) h := by
  subst hq
  exact fun p e R s m args below meth c A ads0 X ads H locs cells slots ls h1 h2 h3 h4 h5 h6 => lv_lor X.1 X.2.1 hd  (kk p e R s m args below meth c A ads0 X ads H locs cells slots ls h1 h2 h3 h4 h5 h6)
theorem g_lxor {x y : Int64} {q : Nat} (hd : decode cc pc = .ok (.lxor, 1)) (hq : pc + 1 = q)  (kk : tG l E own cc nL ret ini d Q k n q L (.long (x ^^^ y) :: st) h) : tG l E own cc nL ret ini d Q k n pc L (.long y :: .long x :: st) h := by
  subst hq
  exact fun p e R s m args below meth c A ads0 X ads H locs cells slots ls h1 h2 h3 h4 h5 h6 => lv_lxor X.1 X.2.1 hd  (kk p e R s m args below meth c A ads0 X ads H locs cells slots ls h1 h2 h3 h4 h5 h6)
def tiushr (x y : Int32) : Int32 := (x.toUInt32 >>> (y.toUInt32 &&& Int32.toUInt32 31)).toInt32
def tlushr (x : Int64) (y : Int32) : Int64 := (x.toUInt64 >>> (y.toInt64.toUInt64 &&& Int64.toUInt64 63)).toInt64
def tlshl (x : Int64) (y : Int32) : Int64 := x <<< (y.toInt64 &&& 63)
def tlshr (x : Int64) (y : Int32) : Int64 := x >>> (y.toInt64 &&& 63)
theorem g_iushr {x y : Int32} {q : Nat} (hd : decode cc pc = .ok (.iushr, 1)) (hq : pc + 1 = q)  (kk : tG l E own cc nL ret ini d Q k n q L (.int (tiushr x y) :: st) h) : tG l E own cc nL ret ini d Q k n pc L (.int y :: .int x :: st) h := by
  subst hq
  exact fun p e R s m args below meth c A ads0 X ads H locs cells slots ls h1 h2 h3 h4 h5 h6 => lv_iushr X.1 X.2.1 hd rfl (kk p e R s m args below meth c A ads0 X ads H locs cells slots ls h1 h2 h3 h4 h5 h6)
theorem g_lushr {x : Int64} {y : Int32} {q : Nat} (hd : decode cc pc = .ok (.lushr, 1)) (hq : pc + 1 = q)  (kk : tG l E own cc nL ret ini d Q k n q L (.long (tlushr x y) :: st) h) : tG l E own cc nL ret ini d Q k n pc L (.int y :: .long x :: st) h := by
  subst hq
  exact fun p e R s m args below meth c A ads0 X ads H locs cells slots ls h1 h2 h3 h4 h5 h6 => lv_lushr X.1 X.2.1 hd rfl (kk p e R s m args below meth c A ads0 X ads H locs cells slots ls h1 h2 h3 h4 h5 h6)
theorem g_lshl {x : Int64} {y : Int32} {q : Nat} (hd : decode cc pc = .ok (.lshl, 1)) (hq : pc + 1 = q)  (kk : tG l E own cc nL ret ini d Q k n q L (.long (tlshl x y) :: st) h) : tG l E own cc nL ret ini d Q k n pc L (.int y :: .long x :: st) h := by
  subst hq
  exact fun p e R s m args below meth c A ads0 X ads H locs cells slots ls h1 h2 h3 h4 h5 h6 => lv_lshl X.1 X.2.1 hd rfl (kk p e R s m args below meth c A ads0 X ads H locs cells slots ls h1 h2 h3 h4 h5 h6)
theorem g_lshr {x : Int64} {y : Int32} {q : Nat} (hd : decode cc pc = .ok (.lshr, 1)) (hq : pc + 1 = q)  (kk : tG l E own cc nL ret ini d Q k n q L (.long (tlshr x y) :: st) h) : tG l E own cc nL ret ini d Q k n pc L (.int y :: .long x :: st) h := by
  subst hq
  exact fun p e R s m args below meth c A ads0 X ads H locs cells slots ls h1 h2 h3 h4 h5 h6 => lv_lshr X.1 X.2.1 hd rfl (kk p e R s m args below meth c A ads0 X ads H locs cells slots ls h1 h2 h3 h4 h5 h6)
theorem g_i2l {x : Int32} {q : Nat} (hd : decode cc pc = .ok (.i2l, 1)) (hq : pc + 1 = q)  (kk : tG l E own cc nL ret ini d Q k n q L (.long x.toInt64 :: st) h) : tG l E own cc nL ret ini d Q k n pc L (.int x :: st) h := by
  subst hq
  exact fun p e R s m args below meth c A ads0 X ads H locs cells slots ls h1 h2 h3 h4 h5 h6 => lv_i2l X.1 X.2.1 hd rfl (kk p e R s m args below meth c A ads0 X ads H locs cells slots ls h1 h2 h3 h4 h5 h6)
theorem g_l2i {x : Int64} {q : Nat} (hd : decode cc pc = .ok (.l2i, 1)) (hq : pc + 1 = q)  (kk : tG l E own cc nL ret ini d Q k n q L (.int x.toInt32 :: st) h) : tG l E own cc nL ret ini d Q k n pc L (.long x :: st) h := by
  subst hq
  exact fun p e R s m args below meth c A ads0 X ads H locs cells slots ls h1 h2 h3 h4 h5 h6 => lv_l2i X.1 X.2.1 hd rfl (kk p e R s m args below meth c A ads0 X ads H locs cells slots ls h1 h2 h3 h4 h5 h6)
theorem g_lcmp {x y : Int64} {q : Nat} (hd : decode cc pc = .ok (.lcmp, 1)) (hq : pc + 1 = q)  (kk : tG l E own cc nL ret ini d Q k n q L (.int (lg_cmp x y) :: st) h) : tG l E own cc nL ret ini d Q k n pc L (.long y :: .long x :: st) h := by
  subst hq
  exact fun p e R s m args below meth c A ads0 X ads H locs cells slots ls h1 h2 h3 h4 h5 h6 => W.lcmp X.1 X.2.1 hd  (kk p e R s m args below meth c A ads0 X ads H locs cells slots ls h1 h2 h3 h4 h5 h6)
theorem g_iconst {z : Int} {v : Int32} {q : Nat} (hd : decode cc pc = .ok (.iconst z, 1)) (hq : pc + 1 = q) (hv : Int32.ofInt z = v) (kk : tG l E own cc nL ret ini d Q k n q L (.int v :: st) h) : tG l E own cc nL ret ini d Q k n pc L (st) h := by
  subst hq
  exact fun p e R s m args below meth c A ads0 X ads H locs cells slots ls h1 h2 h3 h4 h5 h6 => lv_iconst X.1 X.2.1 hd hv (kk p e R s m args below meth c A ads0 X ads H locs cells slots ls h1 h2 h3 h4 h5 h6)
theorem g_bipush {z : Int} {v : Int32} {q : Nat} (hd : decode cc pc = .ok (.bipush z, 2)) (hq : pc + 2 = q) (hv : (Int8.ofInt z).toInt32 = v) (kk : tG l E own cc nL ret ini d Q k n q L (.int v :: st) h) : tG l E own cc nL ret ini d Q k n pc L (st) h := by
  subst hq
  exact fun p e R s m args below meth c A ads0 X ads H locs cells slots ls h1 h2 h3 h4 h5 h6 => lv_bipush X.1 X.2.1 hd hv (kk p e R s m args below meth c A ads0 X ads H locs cells slots ls h1 h2 h3 h4 h5 h6)
theorem g_sipush {z : Int} {v : Int32} {q : Nat} (hd : decode cc pc = .ok (.sipush z, 3)) (hq : pc + 3 = q) (hv : (Int16.ofInt z).toInt32 = v) (kk : tG l E own cc nL ret ini d Q k n q L (.int v :: st) h) : tG l E own cc nL ret ini d Q k n pc L (st) h := by
  subst hq
  exact fun p e R s m args below meth c A ads0 X ads H locs cells slots ls h1 h2 h3 h4 h5 h6 => lv_sipush X.1 X.2.1 hd hv (kk p e R s m args below meth c A ads0 X ads H locs cells slots ls h1 h2 h3 h4 h5 h6)
theorem g_lconst {z : Fin 2} {v : Int64} {q : Nat} (hd : decode cc pc = .ok (.lconst z, 1)) (hq : pc + 1 = q) (hv : Int64.ofNat (z : Nat) = v) (kk : tG l E own cc nL ret ini d Q k n q L (.long v :: st) h) : tG l E own cc nL ret ini d Q k n pc L (st) h := by
  subst hq
  exact fun p e R s m args below meth c A ads0 X ads H locs cells slots ls h1 h2 h3 h4 h5 h6 => lv_lconst X.1 X.2.1 hd hv (kk p e R s m args below meth c A ads0 X ads H locs cells slots ls h1 h2 h3 h4 h5 h6)
theorem g_aconst_null  {q : Nat} (hd : decode cc pc = .ok (.aconst_null, 1)) (hq : pc + 1 = q)  (kk : tG l E own cc nL ret ini d Q k n q L (.null :: st) h) : tG l E own cc nL ret ini d Q k n pc L (st) h := by
  subst hq
  exact fun p e R s m args below meth c A ads0 X ads H locs cells slots ls h1 h2 h3 h4 h5 h6 => lv_null X.1 X.2.1 hd  (kk p e R s m args below meth c A ads0 X ads H locs cells slots ls h1 h2 h3 h4 h5 h6)
theorem g_dup {v : Value} {q : Nat} (hd : decode cc pc = .ok (.dup, 1)) (hq : pc + 1 = q) (hv : v.category = 1) (kk : tG l E own cc nL ret ini d Q k n q L (v :: v :: st) h) : tG l E own cc nL ret ini d Q k n pc L (v :: st) h := by
  subst hq
  exact fun p e R s m args below meth c A ads0 X ads H locs cells slots ls h1 h2 h3 h4 h5 h6 => lv_dup X.1 X.2.1 hd (by rw [tv_cat]; exact hv) (kk p e R s m args below meth c A ads0 X ads H locs cells slots ls h1 h2 h3 h4 h5 h6)
theorem g_pop {v : Value} {q : Nat} (hd : decode cc pc = .ok (.pop, 1)) (hq : pc + 1 = q) (hv : v.category = 1) (kk : tG l E own cc nL ret ini d Q k n q L (st) h) : tG l E own cc nL ret ini d Q k n pc L (v :: st) h := by
  subst hq
  exact fun p e R s m args below meth c A ads0 X ads H locs cells slots ls h1 h2 h3 h4 h5 h6 => lv_pop X.1 X.2.1 hd (by rw [tv_cat]; exact hv) (kk p e R s m args below meth c A ads0 X ads H locs cells slots ls h1 h2 h3 h4 h5 h6)
theorem g_dup2 {v w : Value} {q : Nat} (hd : decode cc pc = .ok (.dup2, 1)) (hq : pc + 1 = q) (hv : v.category = 1) (hw : w.category = 1) (kk : tG l E own cc nL ret ini d Q k n q L (v :: w :: v :: w :: st) h) : tG l E own cc nL ret ini d Q k n pc L (v :: w :: st) h := by
  subst hq
  exact fun p e R s m args below meth c A ads0 X ads H locs cells slots ls h1 h2 h3 h4 h5 h6 => lv_dup2_11 X.1 X.2.1 hd (by rw [tv_cat]; exact hv) (by rw [tv_cat]; exact hw) (kk p e R s m args below meth c A ads0 X ads H locs cells slots ls h1 h2 h3 h4 h5 h6)
theorem g_iload_n (j : Nat) {kf : Fin 4} {x : Int32} {q : Nat} (hd : decode cc pc = .ok (.iload_n kf, 1)) (hq : pc + 1 = q) (hl : L[j]? = some (kf.val, .int x)) (kk : tG l E own cc nL ret ini d Q k n q L (.int x :: st) h) : tG l E own cc nL ret ini d Q k n pc L (st) h := by
  subst hq
  exact fun p e R s m args below meth c A ads0 X ads H locs cells slots ls h1 h2 h3 h4 h5 h6 => lv_iload_n X.1 X.2.1 hd rfl (tLm_at h6 j hl) (kk p e R s m args below meth c A ads0 X ads H locs cells slots ls h1 h2 h3 h4 h5 h6)
theorem g_iload (j : Nat) {i : Nat} {x : Int32} {q : Nat} (hd : decode cc pc = .ok (.iload i, 2)) (hq : pc + 2 = q) (hl : L[j]? = some (i, .int x)) (kk : tG l E own cc nL ret ini d Q k n q L (.int x :: st) h) : tG l E own cc nL ret ini d Q k n pc L (st) h := by
  subst hq
  exact fun p e R s m args below meth c A ads0 X ads H locs cells slots ls h1 h2 h3 h4 h5 h6 => lv_iload X.1 X.2.1 hd (tLm_at h6 j hl) (kk p e R s m args below meth c A ads0 X ads H locs cells slots ls h1 h2 h3 h4 h5 h6)
theorem g_lload_n (j : Nat) {kf : Fin 4} {x : Int64} {q : Nat} (hd : decode cc pc = .ok (.lload_n kf, 1)) (hq : pc + 1 = q) (hl : L[j]? = some (kf.val, .long x)) (kk : tG l E own cc nL ret ini d Q k n q L (.long x :: st) h) : tG l E own cc nL ret ini d Q k n pc L (st) h := by
  subst hq
  exact fun p e R s m args below meth c A ads0 X ads H locs cells slots ls h1 h2 h3 h4 h5 h6 => lv_lload_n X.1 X.2.1 hd rfl (tLm_at h6 j hl) (kk p e R s m args below meth c A ads0 X ads H locs cells slots ls h1 h2 h3 h4 h5 h6)
theorem g_lload (j : Nat) {i : Nat} {x : Int64} {q : Nat} (hd : decode cc pc = .ok (.lload i, 2)) (hq : pc + 2 = q) (hl : L[j]? = some (i, .long x)) (kk : tG l E own cc nL ret ini d Q k n q L (.long x :: st) h) : tG l E own cc nL ret ini d Q k n pc L (st) h := by
  subst hq
  exact fun p e R s m args below meth c A ads0 X ads H locs cells slots ls h1 h2 h3 h4 h5 h6 => lv_lload X.1 X.2.1 hd (tLm_at h6 j hl) (kk p e R s m args below meth c A ads0 X ads H locs cells slots ls h1 h2 h3 h4 h5 h6)
theorem g_aload_n (j : Nat) {kf : Fin 4} {x : Nat} {q : Nat} (hd : decode cc pc = .ok (.aload_n kf, 1)) (hq : pc + 1 = q) (hl : L[j]? = some (kf.val, .ref x)) (kk : tG l E own cc nL ret ini d Q k n q L (.ref x :: st) h) : tG l E own cc nL ret ini d Q k n pc L (st) h := by
  subst hq
  exact fun p e R s m args below meth c A ads0 X ads H locs cells slots ls h1 h2 h3 h4 h5 h6 => lv_aload_n X.1 X.2.1 hd rfl (tLm_at h6 j hl) (kk p e R s m args below meth c A ads0 X ads H locs cells slots ls h1 h2 h3 h4 h5 h6)
theorem g_aload (j : Nat) {i : Nat} {x : Nat} {q : Nat} (hd : decode cc pc = .ok (.aload i, 2)) (hq : pc + 2 = q) (hl : L[j]? = some (i, .ref x)) (kk : tG l E own cc nL ret ini d Q k n q L (.ref x :: st) h) : tG l E own cc nL ret ini d Q k n pc L (st) h := by
  subst hq
  exact fun p e R s m args below meth c A ads0 X ads H locs cells slots ls h1 h2 h3 h4 h5 h6 => lv_aload X.1 X.2.1 hd (tLm_at h6 j hl) (kk p e R s m args below meth c A ads0 X ads H locs cells slots ls h1 h2 h3 h4 h5 h6)
def tins (i : Nat) (v : Value) : List (Nat × Value) → List (Nat × Value)
  | [] => [(i, v)]
  | q :: L => bif Nat.blt i q.1 then (i, v) :: q :: L else q :: tins i v L
theorem tins_mem {i : Nat} {v : Value} : ∀ {L : List (Nat × Value)} {q : Nat × Value}, q ∈ tins i v L → q = (i, v) ∨ q ∈ L
  | [], q, h => Or.inl (List.mem_singleton.mp h)
  | r :: L, q, h => by
    unfold tins at h
    cases hb : Nat.blt i r.1 with
    | true => rw [hb] at h; exact (List.mem_cons.mp h).imp id id
    | false =>
      rw [hb] at h
      rcases List.mem_cons.mp h with h | h
      · exact Or.inr (h ▸ List.mem_cons_self)
      · exact (tins_mem h).imp id (List.mem_cons_of_mem _)
def tls (i : Nat) (v : Value) (L : List (Nat × Value)) : List (Nat × Value) := tins i v (L.filter (fun q => !(q.1 == i) && !(q.1 + 1 == i && q.2.category == 2)))
def tls2 (i : Nat) (v : Value) (L : List (Nat × Value)) : List (Nat × Value) := tins i v (L.filter (fun q => !(q.1 == i) && (!(q.1 == i + 1) && !(q.1 + 1 == i && q.2.category == 2))))
theorem tls_has {ads : List Nat} {ls : Array Slot} {i : Nat} {v : Value} (h : lv_has ls nL ((i, tv E ads v) :: (tLm E ads L).filter (fun q => !(q.1 == i) && !(q.1 + 1 == i && q.2.category == 2)))) : lv_has ls nL (tLm E ads (tls i v L)) := by
  refine ⟨h.1, h.2.1, fun q hq => h.2.2 q ?_⟩
  obtain ⟨r, hr, rfl⟩ := List.mem_map.mp hq
  rcases tins_mem hr with rfl | hr
  · exact List.mem_cons_self
  · obtain ⟨h1, h2⟩ := List.mem_filter.mp hr
    exact List.mem_cons_of_mem _ (List.mem_filter.mpr ⟨List.mem_map.mpr ⟨r, h1, rfl⟩, by rw [tv_cat]; exact h2⟩)
theorem tls2_has {ads : List Nat} {ls : Array Slot} {i : Nat} {v : Value} (h : lv_has ls nL ((i, tv E ads v) :: (tLm E ads L).filter (fun q => !(q.1 == i) && (!(q.1 == i + 1) && !(q.1 + 1 == i && q.2.category == 2))))) : lv_has ls nL (tLm E ads (tls2 i v L)) := by
  refine ⟨h.1, h.2.1, fun q hq => h.2.2 q ?_⟩
  obtain ⟨r, hr, rfl⟩ := List.mem_map.mp hq
  rcases tins_mem hr with rfl | hr
  · exact List.mem_cons_self
  · obtain ⟨h1, h2⟩ := List.mem_filter.mp hr
    exact List.mem_cons_of_mem _ (List.mem_filter.mpr ⟨List.mem_map.mpr ⟨r, h1, rfl⟩, by rw [tv_cat]; exact h2⟩)
theorem g_istore_n {kf : Fin 4} {x : Int32} {q : Nat} {L' : List (Nat × Value)} (hd : decode cc pc = .ok (.istore_n kf, 1)) (hq : pc + 1 = q) (hi : kf.val < nL) (hL : tls kf.val (.int x) L = L') (kk : tG l E own cc nL ret ini d Q k n q L' (st) h) : tG l E own cc nL ret ini d Q k n pc L (.int x :: st) h := by
  subst hq; subst hL
  exact fun p e R s m args below meth c A ads0 X ads H locs cells slots ls h1 h2 h3 h4 h5 h6 => lv_istore_n X.1 X.2.1 hd rfl h6 hi rfl (fun ls9 h9 => kk p e R s m args below meth c A ads0 X ads H locs cells slots ls9 h1 h2 h3 h4 h5 (tls_has h9))
theorem g_istore {i : Nat} {x : Int32} {q : Nat} {L' : List (Nat × Value)} (hd : decode cc pc = .ok (.istore i, 2)) (hq : pc + 2 = q) (hi : i < nL) (hL : tls i (.int x) L = L') (kk : tG l E own cc nL ret ini d Q k n q L' (st) h) : tG l E own cc nL ret ini d Q k n pc L (.int x :: st) h := by
  subst hq; subst hL
  exact fun p e R s m args below meth c A ads0 X ads H locs cells slots ls h1 h2 h3 h4 h5 h6 => lv_istore X.1 X.2.1 hd h6 hi rfl (fun ls9 h9 => kk p e R s m args below meth c A ads0 X ads H locs cells slots ls9 h1 h2 h3 h4 h5 (tls_has h9))
theorem g_lstore_n {kf : Fin 4} {x : Int64} {q : Nat} {L' : List (Nat × Value)} (hd : decode cc pc = .ok (.lstore_n kf, 1)) (hq : pc + 1 = q) (hi : kf.val + 1 < nL) (hL : tls2 kf.val (.long x) L = L') (kk : tG l E own cc nL ret ini d Q k n q L' (st) h) : tG l E own cc nL ret ini d Q k n pc L (.long x :: st) h := by
  subst hq; subst hL
  exact fun p e R s m args below meth c A ads0 X ads H locs cells slots ls h1 h2 h3 h4 h5 h6 => lv_lstore_n X.1 X.2.1 hd rfl h6 hi rfl (fun ls9 h9 => kk p e R s m args below meth c A ads0 X ads H locs cells slots ls9 h1 h2 h3 h4 h5 (tls2_has h9))
theorem g_lstore {i : Nat} {x : Int64} {q : Nat} {L' : List (Nat × Value)} (hd : decode cc pc = .ok (.lstore i, 2)) (hq : pc + 2 = q) (hi : i + 1 < nL) (hL : tls2 i (.long x) L = L') (kk : tG l E own cc nL ret ini d Q k n q L' (st) h) : tG l E own cc nL ret ini d Q k n pc L (.long x :: st) h := by
  subst hq; subst hL
  exact fun p e R s m args below meth c A ads0 X ads H locs cells slots ls h1 h2 h3 h4 h5 h6 => lv_lstore X.1 X.2.1 hd h6 hi rfl (fun ls9 h9 => kk p e R s m args below meth c A ads0 X ads H locs cells slots ls9 h1 h2 h3 h4 h5 (tls2_has h9))
theorem g_astore_n {kf : Fin 4} {x : Nat} {q : Nat} {L' : List (Nat × Value)} (hd : decode cc pc = .ok (.astore_n kf, 1)) (hq : pc + 1 = q) (hi : kf.val < nL) (hL : tls kf.val (.ref x) L = L') (kk : tG l E own cc nL ret ini d Q k n q L' (st) h) : tG l E own cc nL ret ini d Q k n pc L (.ref x :: st) h := by
  subst hq; subst hL
  exact fun p e R s m args below meth c A ads0 X ads H locs cells slots ls h1 h2 h3 h4 h5 h6 => lv_astore_n X.1 X.2.1 hd rfl h6 hi rfl (fun ls9 h9 => kk p e R s m args below meth c A ads0 X ads H locs cells slots ls9 h1 h2 h3 h4 h5 (tls_has h9))
theorem g_astore {i : Nat} {x : Nat} {q : Nat} {L' : List (Nat × Value)} (hd : decode cc pc = .ok (.astore i, 2)) (hq : pc + 2 = q) (hi : i < nL) (hL : tls i (.ref x) L = L') (kk : tG l E own cc nL ret ini d Q k n q L' (st) h) : tG l E own cc nL ret ini d Q k n pc L (.ref x :: st) h := by
  subst hq; subst hL
  exact fun p e R s m args below meth c A ads0 X ads H locs cells slots ls h1 h2 h3 h4 h5 h6 => lv_astore X.1 X.2.1 hd h6 hi rfl (fun ls9 h9 => kk p e R s m args below meth c A ads0 X ads H locs cells slots ls9 h1 h2 h3 h4 h5 (tls_has h9))
theorem g_iinc (j : Nat) {i : Nat} {z : Int} {x v : Int32} {q : Nat} {L' : List (Nat × Value)} (hd : decode cc pc = .ok (.iinc i z, 3)) (hq : pc + 3 = q) (hl : L[j]? = some (i, .int x)) (hv : x + Int32.ofInt z = v) (hi : i < nL) (hL : tls i (.int v) L = L') (kk : tG l E own cc nL ret ini d Q k n q L' (st) h) : tG l E own cc nL ret ini d Q k n pc L (st) h := by
  subst hq; subst hL
  exact fun p e R s m args below meth c A ads0 X ads H locs cells slots ls h1 h2 h3 h4 h5 h6 => lv_iinc (k := j) X.1 X.2.1 hd h6 (by unfold tLm; rw [List.getElem?_map, hl]; rfl) hv hi rfl (fun ls9 h9 => kk p e R s m args below meth c A ads0 X ads H locs cells slots ls9 h1 h2 h3 h4 h5 (tls_has h9))
theorem g_ls (is : List Nat) {L' : List (Nat × Value)} (hL : is.filterMap (fun i => L[i]?) = L') (kk : tG l E own cc nL ret ini d Q k n pc L' (st) h) : tG l E own cc nL ret ini d Q k n pc L (st) h := by
  subst hL
  exact fun p e R s m args below meth c A ads0 X ads H locs cells slots ls h1 h2 h3 h4 h5 h6 => kk p e R s m args below meth c A ads0 X ads H locs cells slots ls h1 h2 h3 h4 h5 ⟨h6.1, h6.2.1, fun q hq => by
    obtain ⟨r, hr, rfl⟩ := List.mem_map.mp hq
    obtain ⟨i, -, hi⟩ := List.mem_filterMap.mp hr
    exact h6.2.2 _ (List.mem_map.mpr ⟨r, List.mem_of_getElem? hi, rfl⟩)⟩
theorem g_if_eq {x : Int32} {off : Int} {t q : Nat} (hd : decode cc pc = .ok (.ifCond .eq off, 3)) (ht : (pc : Int) + off = (t : Int)) (hq : pc + 3 = q) (kt : x = 0 → tG l E own cc nL ret ini d Q k n t L (st) h) (kf : ¬ x = 0 → tG l E own cc nL ret ini d Q k n q L (st) h) : tG l E own cc nL ret ini d Q k n pc L (.int x :: st) h := by
  subst hq
  exact fun p e R s m args below meth c A ads0 X ads H locs cells slots ls h1 h2 h3 h4 h5 h6 => lv_if_eq X.1 X.2.1 hd ht (fun z => kt z p e R s m args below meth c A ads0 X ads H locs cells slots ls h1 h2 h3 h4 h5 h6) (fun z => kf z p e R s m args below meth c A ads0 X ads H locs cells slots ls h1 h2 h3 h4 h5 h6)
theorem g_icmp_eq {x y : Int32} {off : Int} {t q : Nat} (hd : decode cc pc = .ok (.if_icmp .eq off, 3)) (ht : (pc : Int) + off = (t : Int)) (hq : pc + 3 = q) (kt : x = y → tG l E own cc nL ret ini d Q k n t L (st) h) (kf : ¬ x = y → tG l E own cc nL ret ini d Q k n q L (st) h) : tG l E own cc nL ret ini d Q k n pc L (.int y :: .int x :: st) h := by
  subst hq
  exact fun p e R s m args below meth c A ads0 X ads H locs cells slots ls h1 h2 h3 h4 h5 h6 => lv_icmp_eq X.1 X.2.1 hd ht (fun z => kt z p e R s m args below meth c A ads0 X ads H locs cells slots ls h1 h2 h3 h4 h5 h6) (fun z => kf z p e R s m args below meth c A ads0 X ads H locs cells slots ls h1 h2 h3 h4 h5 h6)
theorem g_if_ne {x : Int32} {off : Int} {t q : Nat} (hd : decode cc pc = .ok (.ifCond .ne off, 3)) (ht : (pc : Int) + off = (t : Int)) (hq : pc + 3 = q) (kt : ¬ x = 0 → tG l E own cc nL ret ini d Q k n t L (st) h) (kf : x = 0 → tG l E own cc nL ret ini d Q k n q L (st) h) : tG l E own cc nL ret ini d Q k n pc L (.int x :: st) h := by
  subst hq
  exact fun p e R s m args below meth c A ads0 X ads H locs cells slots ls h1 h2 h3 h4 h5 h6 => lv_if_ne X.1 X.2.1 hd ht (fun z => kt z p e R s m args below meth c A ads0 X ads H locs cells slots ls h1 h2 h3 h4 h5 h6) (fun z => kf z p e R s m args below meth c A ads0 X ads H locs cells slots ls h1 h2 h3 h4 h5 h6)
theorem g_icmp_ne {x y : Int32} {off : Int} {t q : Nat} (hd : decode cc pc = .ok (.if_icmp .ne off, 3)) (ht : (pc : Int) + off = (t : Int)) (hq : pc + 3 = q) (kt : ¬ x = y → tG l E own cc nL ret ini d Q k n t L (st) h) (kf : x = y → tG l E own cc nL ret ini d Q k n q L (st) h) : tG l E own cc nL ret ini d Q k n pc L (.int y :: .int x :: st) h := by
  subst hq
  exact fun p e R s m args below meth c A ads0 X ads H locs cells slots ls h1 h2 h3 h4 h5 h6 => lv_icmp_ne X.1 X.2.1 hd ht (fun z => kt z p e R s m args below meth c A ads0 X ads H locs cells slots ls h1 h2 h3 h4 h5 h6) (fun z => kf z p e R s m args below meth c A ads0 X ads H locs cells slots ls h1 h2 h3 h4 h5 h6)
theorem g_if_lt {x : Int32} {off : Int} {t q : Nat} (hd : decode cc pc = .ok (.ifCond .lt off, 3)) (ht : (pc : Int) + off = (t : Int)) (hq : pc + 3 = q) (kt : x < 0 → tG l E own cc nL ret ini d Q k n t L (st) h) (kf : ¬ x < 0 → tG l E own cc nL ret ini d Q k n q L (st) h) : tG l E own cc nL ret ini d Q k n pc L (.int x :: st) h := by
  subst hq
  exact fun p e R s m args below meth c A ads0 X ads H locs cells slots ls h1 h2 h3 h4 h5 h6 => lv_if_lt X.1 X.2.1 hd ht (fun z => kt z p e R s m args below meth c A ads0 X ads H locs cells slots ls h1 h2 h3 h4 h5 h6) (fun z => kf z p e R s m args below meth c A ads0 X ads H locs cells slots ls h1 h2 h3 h4 h5 h6)
theorem g_icmp_lt {x y : Int32} {off : Int} {t q : Nat} (hd : decode cc pc = .ok (.if_icmp .lt off, 3)) (ht : (pc : Int) + off = (t : Int)) (hq : pc + 3 = q) (kt : x < y → tG l E own cc nL ret ini d Q k n t L (st) h) (kf : ¬ x < y → tG l E own cc nL ret ini d Q k n q L (st) h) : tG l E own cc nL ret ini d Q k n pc L (.int y :: .int x :: st) h := by
  subst hq
  exact fun p e R s m args below meth c A ads0 X ads H locs cells slots ls h1 h2 h3 h4 h5 h6 => lv_icmp_lt X.1 X.2.1 hd ht (fun z => kt z p e R s m args below meth c A ads0 X ads H locs cells slots ls h1 h2 h3 h4 h5 h6) (fun z => kf z p e R s m args below meth c A ads0 X ads H locs cells slots ls h1 h2 h3 h4 h5 h6)
theorem g_if_ge {x : Int32} {off : Int} {t q : Nat} (hd : decode cc pc = .ok (.ifCond .ge off, 3)) (ht : (pc : Int) + off = (t : Int)) (hq : pc + 3 = q) (kt : 0 ≤ x → tG l E own cc nL ret ini d Q k n t L (st) h) (kf : ¬ 0 ≤ x → tG l E own cc nL ret ini d Q k n q L (st) h) : tG l E own cc nL ret ini d Q k n pc L (.int x :: st) h := by
  subst hq
  exact fun p e R s m args below meth c A ads0 X ads H locs cells slots ls h1 h2 h3 h4 h5 h6 => lv_if_ge X.1 X.2.1 hd ht (fun z => kt z p e R s m args below meth c A ads0 X ads H locs cells slots ls h1 h2 h3 h4 h5 h6) (fun z => kf z p e R s m args below meth c A ads0 X ads H locs cells slots ls h1 h2 h3 h4 h5 h6)
theorem g_icmp_ge {x y : Int32} {off : Int} {t q : Nat} (hd : decode cc pc = .ok (.if_icmp .ge off, 3)) (ht : (pc : Int) + off = (t : Int)) (hq : pc + 3 = q) (kt : y ≤ x → tG l E own cc nL ret ini d Q k n t L (st) h) (kf : ¬ y ≤ x → tG l E own cc nL ret ini d Q k n q L (st) h) : tG l E own cc nL ret ini d Q k n pc L (.int y :: .int x :: st) h := by
  subst hq
  exact fun p e R s m args below meth c A ads0 X ads H locs cells slots ls h1 h2 h3 h4 h5 h6 => lv_icmp_ge X.1 X.2.1 hd ht (fun z => kt z p e R s m args below meth c A ads0 X ads H locs cells slots ls h1 h2 h3 h4 h5 h6) (fun z => kf z p e R s m args below meth c A ads0 X ads H locs cells slots ls h1 h2 h3 h4 h5 h6)
theorem g_if_gt {x : Int32} {off : Int} {t q : Nat} (hd : decode cc pc = .ok (.ifCond .gt off, 3)) (ht : (pc : Int) + off = (t : Int)) (hq : pc + 3 = q) (kt : 0 < x → tG l E own cc nL ret ini d Q k n t L (st) h) (kf : ¬ 0 < x → tG l E own cc nL ret ini d Q k n q L (st) h) : tG l E own cc nL ret ini d Q k n pc L (.int x :: st) h := by
  subst hq
  exact fun p e R s m args below meth c A ads0 X ads H locs cells slots ls h1 h2 h3 h4 h5 h6 => lv_if_gt X.1 X.2.1 hd ht (fun z => kt z p e R s m args below meth c A ads0 X ads H locs cells slots ls h1 h2 h3 h4 h5 h6) (fun z => kf z p e R s m args below meth c A ads0 X ads H locs cells slots ls h1 h2 h3 h4 h5 h6)
theorem g_icmp_gt {x y : Int32} {off : Int} {t q : Nat} (hd : decode cc pc = .ok (.if_icmp .gt off, 3)) (ht : (pc : Int) + off = (t : Int)) (hq : pc + 3 = q) (kt : y < x → tG l E own cc nL ret ini d Q k n t L (st) h) (kf : ¬ y < x → tG l E own cc nL ret ini d Q k n q L (st) h) : tG l E own cc nL ret ini d Q k n pc L (.int y :: .int x :: st) h := by
  subst hq
  exact fun p e R s m args below meth c A ads0 X ads H locs cells slots ls h1 h2 h3 h4 h5 h6 => lv_icmp_gt X.1 X.2.1 hd ht (fun z => kt z p e R s m args below meth c A ads0 X ads H locs cells slots ls h1 h2 h3 h4 h5 h6) (fun z => kf z p e R s m args below meth c A ads0 X ads H locs cells slots ls h1 h2 h3 h4 h5 h6)
theorem g_if_le {x : Int32} {off : Int} {t q : Nat} (hd : decode cc pc = .ok (.ifCond .le off, 3)) (ht : (pc : Int) + off = (t : Int)) (hq : pc + 3 = q) (kt : x ≤ 0 → tG l E own cc nL ret ini d Q k n t L (st) h) (kf : ¬ x ≤ 0 → tG l E own cc nL ret ini d Q k n q L (st) h) : tG l E own cc nL ret ini d Q k n pc L (.int x :: st) h := by
  subst hq
  exact fun p e R s m args below meth c A ads0 X ads H locs cells slots ls h1 h2 h3 h4 h5 h6 => lv_if_le X.1 X.2.1 hd ht (fun z => kt z p e R s m args below meth c A ads0 X ads H locs cells slots ls h1 h2 h3 h4 h5 h6) (fun z => kf z p e R s m args below meth c A ads0 X ads H locs cells slots ls h1 h2 h3 h4 h5 h6)
theorem g_icmp_le {x y : Int32} {off : Int} {t q : Nat} (hd : decode cc pc = .ok (.if_icmp .le off, 3)) (ht : (pc : Int) + off = (t : Int)) (hq : pc + 3 = q) (kt : x ≤ y → tG l E own cc nL ret ini d Q k n t L (st) h) (kf : ¬ x ≤ y → tG l E own cc nL ret ini d Q k n q L (st) h) : tG l E own cc nL ret ini d Q k n pc L (.int y :: .int x :: st) h := by
  subst hq
  exact fun p e R s m args below meth c A ads0 X ads H locs cells slots ls h1 h2 h3 h4 h5 h6 => lv_icmp_le X.1 X.2.1 hd ht (fun z => kt z p e R s m args below meth c A ads0 X ads H locs cells slots ls h1 h2 h3 h4 h5 h6) (fun z => kf z p e R s m args below meth c A ads0 X ads H locs cells slots ls h1 h2 h3 h4 h5 h6)
theorem g_goto {off : Int} {t : Nat} (hd : decode cc pc = .ok (.goto off, 3)) (ht : (pc : Int) + off = (t : Int)) (kk : tG l E own cc nL ret ini d Q k n t L (st) h) : tG l E own cc nL ret ini d Q k n pc L (st) h :=
  fun p e R s m args below meth c A ads0 X ads H locs cells slots ls h1 h2 h3 h4 h5 h6 => lv_goto X.1 X.2.1 hd ht (kk p e R s m args below meth c A ads0 X ads H locs cells slots ls h1 h2 h3 h4 h5 h6)
theorem g_ifnonnull {x : Nat} {off : Int} {t : Nat} (hd : decode cc pc = .ok (.ifnonnull off, 3)) (ht : (pc : Int) + off = (t : Int)) (kk : tG l E own cc nL ret ini d Q k n t L (st) h) : tG l E own cc nL ret ini d Q k n pc L (.ref x :: st) h :=
  fun p e R s m args below meth c A ads0 X ads H locs cells slots ls h1 h2 h3 h4 h5 h6 => lv_ifnonnull X.1 X.2.1 hd ht (kk p e R s m args below meth c A ads0 X ads H locs cells slots ls h1 h2 h3 h4 h5 h6)
theorem g_ifnonnullN {off : Int} {q : Nat} (hd : decode cc pc = .ok (.ifnonnull off, 3)) (hq : pc + 3 = q) (kk : tG l E own cc nL ret ini d Q k n q L (st) h) : tG l E own cc nL ret ini d Q k n pc L (.null :: st) h := by
  subst hq
  exact fun p e R s m args below meth c A ads0 X ads H locs cells slots ls h1 h2 h3 h4 h5 h6 => lv_ifnonnullN X.1 X.2.1 hd (kk p e R s m args below meth c A ads0 X ads H locs cells slots ls h1 h2 h3 h4 h5 h6)
theorem g_ldc {idx : Nat} {v : Int32} {q : Nat} (hw : Cond.constant own idx v ∈ lw_tbl) (hd : decode cc pc = .ok (.ldc idx, 2)) (hq : pc + 2 = q) (kk : tG l E own cc nL ret ini d Q k n q L (.int v :: st) h) : tG l E own cc nL ret ini d Q k n pc L (st) h := by
  subst hq
  exact fun p e R s m args below meth c A ads0 X ads H locs cells slots ls h1 h2 h3 h4 h5 h6 => lv_ldc X.1 X.2.1 X.2.2.2.2.2.2.1 (X.2.2.2.2.2.2.2.2.2.1.hts args _ (tmem hw rfl)) hd (kk p e R s m args below meth c A ads0 X ads H locs cells slots ls h1 h2 h3 h4 h5 h6)
theorem g_ldc_w {idx : Nat} {v : Int32} {q : Nat} (hw : Cond.constant own idx v ∈ lw_tbl) (hd : decode cc pc = .ok (.ldc_w idx, 3)) (hq : pc + 3 = q) (kk : tG l E own cc nL ret ini d Q k n q L (.int v :: st) h) : tG l E own cc nL ret ini d Q k n pc L (st) h := by
  subst hq
  exact fun p e R s m args below meth c A ads0 X ads H locs cells slots ls h1 h2 h3 h4 h5 h6 => lv_ldcw X.1 X.2.1 X.2.2.2.2.2.2.1 (X.2.2.2.2.2.2.2.2.2.1.hts args _ (tmem hw rfl)) hd (kk p e R s m args below meth c A ads0 X ads H locs cells slots ls h1 h2 h3 h4 h5 h6)
theorem g_ldc2_w {idx : Nat} {v : Int64} {q : Nat} (hw : Cond.constantLong own idx v ∈ lw_tbl) (hd : decode cc pc = .ok (.ldc2_w idx, 3)) (hq : pc + 3 = q) (kk : tG l E own cc nL ret ini d Q k n q L (.long v :: st) h) : tG l E own cc nL ret ini d Q k n pc L (st) h := by
  subst hq
  exact fun p e R s m args below meth c A ads0 X ads H locs cells slots ls h1 h2 h3 h4 h5 h6 => lv_ldc2 X.1 X.2.1 X.2.2.2.2.2.2.1 (X.2.2.2.2.2.2.2.2.2.1.hts args _ (tmem hw rfl)) hd (kk p e R s m args below meth c A ads0 X ads H locs cells slots ls h1 h2 h3 h4 h5 h6)
theorem g_ireturn {v : Int32} (hd : decode cc pc = .ok (.ireturn, 1)) (hr : ret = some .int) (hQ : Q (some (.int v)) h) : tG l E own cc nL ret ini d Q k n pc L ([.int v]) h := by
  intro p e R s m args below meth c A ads0 X ads H locs cells slots ls h1 h2 h3 h4 h5 h6
  have hlocks := X.2.2.2.2.1
  refine W.widen (k := R.cells) (n := R.slots) (by omega) (by omega) ?_
  exact W.iret X.1 X.2.1 (X.2.2.2.1.trans hr)  (fun t ht hW => ⟨⟨(some (.int v)), h, ads, rfl, hQ, h3, by rw [ht]; exact h4⟩, h5.F ht⟩) h5.2.2 hd
theorem g_zreturn {v : Int32} (hb : v = 0 ∨ v = 1) (hd : decode cc pc = .ok (.ireturn, 1)) (hr : ret = some .boolean) (hQ : Q (some (.int v)) h) : tG l E own cc nL ret ini d Q k n pc L ([.int v]) h := by
  intro p e R s m args below meth c A ads0 X ads H locs cells slots ls h1 h2 h3 h4 h5 h6
  have hlocks := X.2.2.2.2.1
  refine W.widen (k := R.cells) (n := R.slots) (by omega) (by omega) ?_
  exact W.zret (ty := .boolean) X.1 X.2.1 (X.2.2.2.1.trans hr) (by rcases hb with rfl | rfl <;> rfl) (fun t ht hW => ⟨⟨(some (.int v)), h, ads, rfl, hQ, h3, by rw [ht]; exact h4⟩, h5.F ht⟩) h5.2.2 hd
theorem g_lreturn {v : Int64} (hd : decode cc pc = .ok (.lreturn, 1)) (hr : ret = some .long) (hQ : Q (some (.long v)) h) : tG l E own cc nL ret ini d Q k n pc L ([.long v]) h := by
  intro p e R s m args below meth c A ads0 X ads H locs cells slots ls h1 h2 h3 h4 h5 h6
  have hlocks := X.2.2.2.2.1
  refine W.widen (k := R.cells) (n := R.slots) (by omega) (by omega) ?_
  exact W.lret X.1 X.2.1 (X.2.2.2.1.trans hr)  (fun t ht hW => ⟨⟨(some (.long v)), h, ads, rfl, hQ, h3, by rw [ht]; exact h4⟩, h5.F ht⟩) h5.2.2 hd
theorem g_return (hd : decode cc pc = .ok (.return_, 1)) (hr : ret = none) (hQ : Q none h) : tG l E own cc nL ret ini d Q k n pc L ([]) h := by
  intro p e R s m args below meth c A ads0 X ads H locs cells slots ls h1 h2 h3 h4 h5 h6
  have hlocks := X.2.2.2.2.1
  refine W.widen (k := R.cells) (n := R.slots) (by omega) (by omega) ?_
  exact W.vret X.1 X.2.1 (X.2.2.2.1.trans hr) (fun t ht hW => ⟨⟨none, h, ads, rfl, hQ, h3, by rw [ht]; exact h4⟩, h5.F ht⟩) h5.2.2 hd
theorem g_areturn {a : Nat} {nm : String} (hd : decode cc pc = .ok (.areturn, 1)) (hr : ret = some (.object nm)) (hQ : Q (some (.ref a)) h) : tG l E own cc nL ret ini d Q k n pc L ([.ref a]) h := by
  intro p e R s m args below meth c A ads0 X ads H locs cells slots ls h1 h2 h3 h4 h5 h6
  have hlocks := X.2.2.2.2.1
  refine W.widen (k := R.cells) (n := R.slots) (by omega) (by omega) ?_
  exact W.aret X.1 X.2.1 (X.2.2.2.1.trans hr) (Or.inl ⟨_, rfl⟩) (Or.inr ⟨_, rfl⟩) (fun t ht hW => ⟨⟨some (.ref a), h, ads, rfl, hQ, h3, by rw [ht]; exact h4⟩, h5.F ht⟩) h5.2.2 hd
end TRULES
end
section
section THEAP
variable {l : Launch} {E : tEn} {own : String} {cc : ByteArray} {nL : Nat} {ret : Option FieldType} {ini : Bool} {d : Nat} {Q : Option Value → tHp → Prop} {k n : Nat} {pc : Nat} {L : List (Nat × Value)} {st : List Value} {h : tHp}
/-- what the pool says of a field: in class own, entry idx is field j of class number ci -/
def tFL (own : String) (idx ci j : Nat) : Prop := ∃ (C : String) (T : u_T) (N : Nat), vwCl[ci]? = some (C, T, N) ∧ j < N ∧ (∀ w ∈ u_ws C T N, w ∈ tTB) ∧
  (Cond.fieldLink own idx (T j).1 (T j).2.1 (T j).2.2.1 ∈ lw_tbl ∨ ∃ host : String, Cond.fieldLinkNest own idx (T j).1 (T j).2.1 (T j).2.2.1 host ∈ lw_tbl)
theorem g_get {idx ci j a : Nat} {fs : List Value} {v : Value} {q : Nat} (hf : tFL own idx ci j) (hd : decode cc pc = .ok (.getfield idx, 3)) (hq : pc + 3 = q) (hc : h[a]? = some (.inl (ci, fs))) (hv : fs[j]? = some v)
    (kk : tG l E own cc nL ret ini d Q k n q L (v :: st) h) : tG l E own cc nL ret ini d Q k n pc L (.ref a :: st) h := by
  subst hq
  intro p e R s m args below meth c A ads0 X ads H locs cells slots ls h1 h2 h3 h4 h5 h6
  obtain ⟨C, T, N, e1, e2, e3, e4⟩ := hf
  have hts := X.2.2.2.2.2.2.2.2.2.1.hts args
  have hK := X.2.2.2.2.2.2.2.2.2.1.1
  have hw := tw_get (E := E) h4.1 hc
  have hv2 : (fs.map (tv E ads))[j]? = some (tv E ads v) := by rw [List.getElem?_map, hv]; rfl
  have K := kk p e R s m args below meth c A ads0 X ads H locs cells slots ls h1 h2 h3 h4 h5 h6
  rcases e4 with e4 | ⟨host, e4⟩
  · exact va_get (D := E.1) X.1 X.2.1 hts e3 X.2.2.2.2.2.2.1 hK h4.2.1 a hw e1 j e2 (hts _ (tmem e4 rfl)) (fun _ h9 => h9) hv2 hd K
  · exact va_getN (D := E.1) X.1 X.2.1 hts e3 X.2.2.2.2.2.2.1 hK h4.2.1 a hw e1 j e2 (hts _ (tmem e4 rfl)) (fun _ h9 => h9) hv2 hd K
def tFP (own : String) (idx ci j : Nat) (ty : FieldType) (fin : Bool) : Prop := ∃ (C : String) (T : u_T) (N : Nat) (ty0 : Nat → FieldType), vwCl[ci]? = some (C, T, N) ∧ j < N ∧ (∀ w ∈ u_ws C T N, w ∈ tTB) ∧
  (∀ k, k < N → parseFieldDescriptor (T k).2.2.1 = some (ty0 k)) ∧ (∀ a, a < N → ∀ b, b < N → a ≠ b → (T a).2.1 ≠ (T b).2.1) ∧ (T j).2.2.2 = fin ∧ parseFieldDescriptor (T j).2.2.1 = some ty ∧
  ((Cond.fieldLink own idx (T j).1 (T j).2.1 (T j).2.2.1 ∈ lw_tbl ∧ (fin = true → (T j).1 = own)) ∨ (fin = false ∧ ∃ host : String, Cond.fieldLinkNest own idx (T j).1 (T j).2.1 (T j).2.2.1 host ∈ lw_tbl))
theorem tw_put {ads : List Nat} {a ci j : Nat} {fs : List Value} {v : Value} (hl : ads.length = h.length) (hc : h[a]? = some (.inl (ci, fs))) : (tw E ads h).set a (tad E ads a, .inr (ci, (fs.map (tv E ads)).set j (tv E ads v))) = tw E ads (h.set a (.inl (ci, fs.set j v))) := by
  rw [← tw_set hl (List.getElem?_eq_some_iff.mp hc).1]
  show _ = (tw E ads h).set a (tad E ads a, .inr (ci, (fs.set j v).map (tv E ads)))
  rw [List.map_set]
theorem tR_set {ads : List Nat} {A : Nat → Prop} {a : Nat} {c : tC} {H1 : Heap} (hl : ads.length = h.length) (ha : a < h.length) (hP : va_P E.1 vwCl ((tw E ads h).set a (tad E ads a, tce E ads c)) H1) (hD : va_D A ((tw E ads h).set a (tad E ads a, tce E ads c))) : tR E ads (h.set a c) A H1 := by
  rw [tw_set hl ha] at hP hD
  exact ⟨by rw [List.length_set]; exact hl, hP, hD⟩
theorem g_put {idx ci j a : Nat} {fs : List Value} {v : Value} {ty : FieldType} {q : Nat} {h' : tHp} (hf : tFP own idx ci j ty false) (hd : decode cc pc = .ok (.putfield idx, 3)) (hq : pc + 3 = q) (hc : h[a]? = some (.inl (ci, fs))) (hj : j < fs.length) (hn : ∀ ads, narrow ty (tv E ads v) = tv E ads v ∧ fits ty (tv E ads v) = true) (hh : h.set a (.inl (ci, fs.set j v)) = h')
    (kk : tG l E own cc nL ret ini d Q k n q L st h') : tG l E own cc nL ret ini d Q k n pc L (v :: .ref a :: st) h := by
  subst hq; subst hh
  intro p e R s m args below meth c A ads0 X ads H locs cells slots ls h1 h2 h3 h4 h5 h6
  obtain ⟨C, T, N, ty0, e1, e2, e3, e4, e5, e6, e7, e8⟩ := hf
  have hts := X.2.2.2.2.2.2.2.2.2.1.hts args
  have hK := X.2.2.2.2.2.2.2.2.2.1.1
  have hw := tw_get (E := E) h4.1 hc
  have K : ∀ (H1 : Heap) (locs1 : List Loc), va_P E.1 vwCl ((tw E ads h).set a (tad E ads a, .inr (ci, (fs.map (tv E ads)).set j (tv E ads v)))) H1 → va_D A ((tw E ads h).set a (tad E ads a, .inr (ci, (fs.map (tv E ads)).set j (tv E ads v)))) → va_S A s.heap H1 locs1 → W p l e R s m args below meth c H1 locs1 cells slots (MQ below (tQ E A ads0 Q) args s R.cells R.slots A) (F0 m (pc + 3) ls (st.map (tv E ads))) := by
    intro H1 locs1 hP hD hS
    rw [tw_put h4.1 hc] at hP hD
    exact kk p e R s m args below meth c A ads0 X ads H1 locs1 cells slots ls h1 h2 h3 ⟨by rw [List.length_set]; exact h4.1, hP, hD⟩ hS h6
  rcases e8 with ⟨e8, -⟩ | ⟨-, host, e8⟩
  · exact va_put (D := E.1) X.1 X.2.1 hts e3 ty0 e4 e5 X.2.2.2.2.2.2.1 hK h4.2.1 h4.2.2 h5 a hw e1 j e2 (hts _ (tmem e8 rfl)) (fun _ h9 => h9) e6 e7 (hn ads).1 (hn ads).2 (by rw [List.length_map]; exact hj) hd K
  · exact va_putN (D := E.1) X.1 X.2.1 hts e3 ty0 e4 e5 X.2.2.2.2.2.2.1 hK h4.2.1 h4.2.2 h5 a hw e1 j e2 (hts _ (tmem e8 rfl)) (fun _ h9 => h9) e6 e7 (hn ads).1 (hn ads).2 (by rw [List.length_map]; exact hj) hd K
theorem g_putF {idx ci j a : Nat} {fs : List Value} {v : Value} {ty : FieldType} {q : Nat} {h' : tHp} (hini : ini = true) (hf : tFP own idx ci j ty true) (hd : decode cc pc = .ok (.putfield idx, 3)) (hq : pc + 3 = q) (hc : h[a]? = some (.inl (ci, fs))) (hj : j < fs.length) (hn : ∀ ads, narrow ty (tv E ads v) = tv E ads v ∧ fits ty (tv E ads v) = true) (hh : h.set a (.inl (ci, fs.set j v)) = h')
    (kk : tG l E own cc nL ret ini d Q k n q L st h') : tG l E own cc nL ret ini d Q k n pc L (v :: .ref a :: st) h := by
  subst hq; subst hh
  intro p e R s m args below meth c A ads0 X ads H locs cells slots ls h1 h2 h3 h4 h5 h6
  obtain ⟨C, T, N, ty0, e1, e2, e3, e4, e5, e6, e7, e8⟩ := hf
  have hts := X.2.2.2.2.2.2.2.2.2.1.hts args
  have hK := X.2.2.2.2.2.2.2.2.2.1.1
  have hw := tw_get (E := E) h4.1 hc
  have K : ∀ (H1 : Heap) (locs1 : List Loc), va_P E.1 vwCl ((tw E ads h).set a (tad E ads a, .inr (ci, (fs.map (tv E ads)).set j (tv E ads v)))) H1 → va_D A ((tw E ads h).set a (tad E ads a, .inr (ci, (fs.map (tv E ads)).set j (tv E ads v)))) → va_S A s.heap H1 locs1 → W p l e R s m args below meth c H1 locs1 cells slots (MQ below (tQ E A ads0 Q) args s R.cells R.slots A) (F0 m (pc + 3) ls (st.map (tv E ads))) := by
    intro H1 locs1 hP hD hS
    rw [tw_put h4.1 hc] at hP hD
    exact kk p e R s m args below meth c A ads0 X ads H1 locs1 cells slots ls h1 h2 h3 ⟨by rw [List.length_set]; exact h4.1, hP, hD⟩ hS h6
  rcases e8 with ⟨e8, e9⟩ | ⟨e8, -⟩
  · exact va_putF (D := E.1) X.1 X.2.1 hts e3 ty0 e4 e5 X.2.2.2.2.2.2.1 hK h4.2.1 h4.2.2 h5 a hw e1 j e2 (hts _ (tmem e8 rfl)) (fun _ h9 => h9) e6 (X.2.2.2.2.2.1 hini) (e9 rfl) e7 (hn ads).1 (hn ads).2 (by rw [List.length_map]; exact hj) hd K
  · cases e8
/-! arrays -/
def tld {α : Type} (xs : List α) (i : Int32) : Option α := if i < 0 then none else xs[i.toNatClampNeg]?
def tst {α : Type} (xs : List α) (i : Int32) (v : α) : Option (List α) := if i < 0 then none else if xs.length ≤ i.toNatClampNeg then none else some (xs.set i.toNatClampNeg v)
theorem tld_some {α : Type} {xs : List α} {i : Int32} {v : α} (z : α) (h : tld xs i = some v) : vp_in i xs.length ∧ xs.getD i.toNatClampNeg z = v := by
  unfold tld at h
  split at h
  · cases h
  · next h0 =>
    obtain ⟨h1, h2⟩ := List.getElem?_eq_some_iff.mp h
    refine ⟨fun h9 => h9.elim h0 (fun h9 => by omega), ?_⟩
    rw [List.getD_eq_getElem?_getD, h]; rfl
theorem tst_some {α : Type} {xs ys : List α} {i : Int32} {v : α} (h : tst xs i v = some ys) : vp_in i xs.length ∧ ys = xs.set i.toNatClampNeg v ∧ i.toNatClampNeg < xs.length := by
  unfold tst at h
  split at h
  · cases h
  · next h0 =>
    split at h
    · cases h
    · next h1 => exact ⟨fun h9 => h9.elim h0 h1, (Option.some.inj h).symm, by omega⟩
theorem upd_set {xs : List Int32} {j : Nat} {v : Int32} (hj : j < xs.length) : upd (fun i => xs.getD i 0) j v = fun i => (xs.set j v).getD i 0 := by
  funext i
  unfold upd
  dsimp only
  rw [List.getD_eq_getElem?_getD, List.getD_eq_getElem?_getD]
  by_cases hij : i = j
  · subst hij; rw [if_pos rfl, List.getElem?_set_self hj]; rfl
  · rw [if_neg hij, List.getElem?_set_ne (fun q => hij q.symm)]
theorem updL_set {xs : List Int64} {j : Nat} {v : Int64} (hj : j < xs.length) : vp_updL (fun i => xs.getD i 0) j v = fun i => (xs.set j v).getD i 0 := by
  funext i
  unfold vp_updL
  dsimp only
  rw [List.getD_eq_getElem?_getD, List.getD_eq_getElem?_getD]
  by_cases hij : i = j
  · subst hij; rw [if_pos rfl, List.getElem?_set_self hj]; rfl
  · rw [if_neg hij, List.getElem?_set_ne (fun q => hij q.symm)]
theorem g_iaload {a : Nat} {xs : List Int32} {i v : Int32} {q : Nat} (hd : decode cc pc = .ok (.iaload, 1)) (hq : pc + 1 = q) (hc : h[a]? = some (.inr (.inl xs))) (hv : tld xs i = some v)
    (kk : tG l E own cc nL ret ini d Q k n q L (.int v :: st) h) : tG l E own cc nL ret ini d Q k n pc L (.int i :: .ref a :: st) h := by
  subst hq
  intro p e R s m args below meth c A ads0 X ads H locs cells slots ls h1 h2 h3 h4 h5 h6
  obtain ⟨hi, hv2⟩ := tld_some 0 hv
  have K := kk p e R s m args below meth c A ads0 X ads H locs cells slots ls h1 h2 h3 h4 h5 h6
  refine va_iald (D := E.1) X.1 X.2.1 X.2.2.2.2.2.2.2.2.2.1.1 h4.2.1 a 0 (tw_get (E := E) h4.1 hc) rfl hi hd ?_
  rw [hv2]; exact K
theorem g_laload {a : Nat} {xs : List Int64} {i : Int32} {v : Int64} {q : Nat} (hd : decode cc pc = .ok (.laload, 1)) (hq : pc + 1 = q) (hc : h[a]? = some (.inr (.inr (.inl xs)))) (hv : tld xs i = some v)
    (kk : tG l E own cc nL ret ini d Q k n q L (.long v :: st) h) : tG l E own cc nL ret ini d Q k n pc L (.int i :: .ref a :: st) h := by
  subst hq
  intro p e R s m args below meth c A ads0 X ads H locs cells slots ls h1 h2 h3 h4 h5 h6
  obtain ⟨hi, hv2⟩ := tld_some 0 hv
  have K := kk p e R s m args below meth c A ads0 X ads H locs cells slots ls h1 h2 h3 h4 h5 h6
  refine va_lald (D := E.1) X.1 X.2.1 X.2.2.2.2.2.2.2.2.2.1.1 h4.2.1 a 1 (tw_get (E := E) h4.1 hc) rfl hi hd ?_
  rw [hv2]; exact K
theorem g_baload {a : Nat} {xs : List Int32} {i v : Int32} {q : Nat} (hd : decode cc pc = .ok (.baload, 1)) (hq : pc + 1 = q) (hc : h[a]? = some (.inr (.inr (.inr xs)))) (hv : tld xs i = some v)
    (kk : tG l E own cc nL ret ini d Q k n q L (.int v :: st) h) : tG l E own cc nL ret ini d Q k n pc L (.int i :: .ref a :: st) h := by
  subst hq
  intro p e R s m args below meth c A ads0 X ads H locs cells slots ls h1 h2 h3 h4 h5 h6
  obtain ⟨hi, hv2⟩ := tld_some 0 hv
  have K := kk p e R s m args below meth c A ads0 X ads H locs cells slots ls h1 h2 h3 h4 h5 h6
  refine va_zald (D := E.1) X.1 X.2.1 X.2.2.2.2.2.2.2.2.2.1.1 h4.2.1 a 2 (tw_get (E := E) h4.1 hc) rfl hi hd ?_
  rw [hv2]; exact K
theorem g_iastore {a : Nat} {xs ys : List Int32} {i x : Int32} {q : Nat} {h' : tHp} (hd : decode cc pc = .ok (.iastore, 1)) (hq : pc + 1 = q) (hc : h[a]? = some (.inr (.inl xs))) (hv : tst xs i x = some ys) (hh : h.set a (.inr (.inl ys)) = h')
    (kk : tG l E own cc nL ret ini d Q k n q L st h') : tG l E own cc nL ret ini d Q k n pc L (.int x :: .int i :: .ref a :: st) h := by
  subst hq; subst hh
  intro p e R s m args below meth c A ads0 X ads H locs cells slots ls h1 h2 h3 h4 h5 h6
  obtain ⟨hi, rfl, hj⟩ := tst_some hv
  refine va_iast (D := E.1) X.1 X.2.1 X.2.2.2.2.2.2.2.2.2.1.1 h4.2.1 h4.2.2 h5 a 0 (tw_get (E := E) h4.1 hc) rfl hi hd (fun H1 locs1 hP hD hS => ?_)
  rw [upd_set hj, ← List.length_set (as := xs) (i := i.toNatClampNeg) (a := x)] at hP hD
  exact kk p e R s m args below meth c A ads0 X ads H1 locs1 cells slots ls h1 h2 h3 (tR_set (c := .inr (.inl (xs.set i.toNatClampNeg x))) h4.1 (List.getElem?_eq_some_iff.mp hc).1 hP hD) hS h6
theorem g_lastore {a : Nat} {xs ys : List Int64} {i : Int32} {x : Int64} {q : Nat} {h' : tHp} (hd : decode cc pc = .ok (.lastore, 1)) (hq : pc + 1 = q) (hc : h[a]? = some (.inr (.inr (.inl xs)))) (hv : tst xs i x = some ys) (hh : h.set a (.inr (.inr (.inl ys))) = h')
    (kk : tG l E own cc nL ret ini d Q k n q L st h') : tG l E own cc nL ret ini d Q k n pc L (.long x :: .int i :: .ref a :: st) h := by
  subst hq; subst hh
  intro p e R s m args below meth c A ads0 X ads H locs cells slots ls h1 h2 h3 h4 h5 h6
  obtain ⟨hi, rfl, hj⟩ := tst_some hv
  refine va_last (D := E.1) X.1 X.2.1 X.2.2.2.2.2.2.2.2.2.1.1 h4.2.1 h4.2.2 h5 a 1 (tw_get (E := E) h4.1 hc) rfl hi hd (fun H1 locs1 hP hD hS => ?_)
  rw [updL_set hj, ← List.length_set (as := xs) (i := i.toNatClampNeg) (a := x)] at hP hD
  exact kk p e R s m args below meth c A ads0 X ads H1 locs1 cells slots ls h1 h2 h3 (tR_set (c := .inr (.inr (.inl (xs.set i.toNatClampNeg x)))) h4.1 (List.getElem?_eq_some_iff.mp hc).1 hP hD) hS h6
theorem g_bastore {a : Nat} {xs ys : List Int32} {i x : Int32} {q : Nat} {h' : tHp} (hd : decode cc pc = .ok (.bastore, 1)) (hq : pc + 1 = q) (hc : h[a]? = some (.inr (.inr (.inr xs)))) (hv : tst xs i (vp_nar .boolean x) = some ys) (hh : h.set a (.inr (.inr (.inr ys))) = h')
    (kk : tG l E own cc nL ret ini d Q k n q L st h') : tG l E own cc nL ret ini d Q k n pc L (.int x :: .int i :: .ref a :: st) h := by
  subst hq; subst hh
  intro p e R s m args below meth c A ads0 X ads H locs cells slots ls h1 h2 h3 h4 h5 h6
  obtain ⟨hi, rfl, hj⟩ := tst_some hv
  refine va_zast (D := E.1) X.1 X.2.1 X.2.2.2.2.2.2.2.2.2.1.1 h4.2.1 h4.2.2 h5 a 2 (tw_get (E := E) h4.1 hc) rfl hi hd (fun H1 locs1 hP hD hS => ?_)
  rw [upd_set hj, ← List.length_set (as := xs) (i := i.toNatClampNeg) (a := vp_nar .boolean x)] at hP hD
  exact kk p e R s m args below meth c A ads0 X ads H1 locs1 cells slots ls h1 h2 h3 (tR_set (c := .inr (.inr (.inr (xs.set i.toNatClampNeg (vp_nar .boolean x))))) h4.1 (List.getElem?_eq_some_iff.mp hc).1 hP hD) hS h6
theorem g_alenI {a : Nat} {xs : List Int32} {v : Int32} {q : Nat} (hd : decode cc pc = .ok (.arraylength, 1)) (hq : pc + 1 = q) (hc : h[a]? = some (.inr (.inl xs))) (hv : Int32.ofNat xs.length = v)
    (kk : tG l E own cc nL ret ini d Q k n q L (.int v :: st) h) : tG l E own cc nL ret ini d Q k n pc L (.ref a :: st) h := by
  subst hq
  intro p e R s m args below meth c A ads0 X ads H locs cells slots ls h1 h2 h3 h4 h5 h6
  exact va_alen (D := E.1) X.1 X.2.1 X.2.2.2.2.2.2.2.2.2.1.1 h4.2.1 a 0 (tw_get (E := E) h4.1 hc) rfl hv hd (kk p e R s m args below meth c A ads0 X ads H locs cells slots ls h1 h2 h3 h4 h5 h6)
theorem g_alenJ {a : Nat} {xs : List Int64} {v : Int32} {q : Nat} (hd : decode cc pc = .ok (.arraylength, 1)) (hq : pc + 1 = q) (hc : h[a]? = some (.inr (.inr (.inl xs)))) (hv : Int32.ofNat xs.length = v)
    (kk : tG l E own cc nL ret ini d Q k n q L (.int v :: st) h) : tG l E own cc nL ret ini d Q k n pc L (.ref a :: st) h := by
  subst hq
  intro p e R s m args below meth c A ads0 X ads H locs cells slots ls h1 h2 h3 h4 h5 h6
  exact va_alen (D := E.1) X.1 X.2.1 X.2.2.2.2.2.2.2.2.2.1.1 h4.2.1 a 1 (tw_get (E := E) h4.1 hc) rfl hv hd (kk p e R s m args below meth c A ads0 X ads H locs cells slots ls h1 h2 h3 h4 h5 h6)
/-! the static arrays -/
theorem tad_far {ads : List Nat} (j : Nat) (hl : ads.length = h.length) (hs : h.length ≤ j) : tad E ads j = if j = 1000 then E.2.2.1 else E.2.2.2 := by
  unfold tad
  rw [List.getElem?_eq_none (by omega)]
def tSL (own : String) (idx : Nat) (C nm ds : String) : Prop := Cond.fieldLink own idx C nm ds ∈ lw_tbl ∨ ∃ host : String, Cond.fieldLinkNest own idx C nm ds host ∈ lw_tbl
theorem g_getsV {idx : Nat} {q : Nat} (hf : tSL own idx "ReadOnceRecognizer" "VARIABLE_TABLES" "[J") (hd : decode cc pc = .ok (.getstatic idx, 3)) (hq : pc + 3 = q) (hs : h.length ≤ 1000)
    (kk : tG l E own cc nL ret ini d Q k n q L (.ref 1000 :: st) h) : tG l E own cc nL ret ini d Q k n pc L st h := by
  subst hq
  intro p e R s m args below meth c A ads0 X ads H locs cells slots ls h1 h2 h3 h4 h5 h6
  have hts := X.2.2.2.2.2.2.2.2.2.1.hts args
  have K := kk p e R s m args below meth c A ads0 X ads H locs cells slots ls h1 h2 h3 h4 h5 h6
  have e9 : tv E ads (.ref 1000) = .ref E.2.2.1 := by show Value.ref (tad E ads 1000) = _; rw [tad_far 1000 h4.1 hs]; rfl
  rw [List.map_cons, e9] at K
  have hZ := X.2.2.2.2.2.2.2.2.2.1.2.2.1.1
  rcases hf with hf | ⟨host, hf⟩
  · exact va_gets X.1 X.2.1 hZ h5 X.2.2.2.2.2.2.1 (hts _ (tmem hf rfl)) (fun _ h9 => h9) hd K
  · exact va_getsN X.1 X.2.1 hZ h5 X.2.2.2.2.2.2.1 (hts _ (tmem hf rfl)) (fun _ h9 => h9) hd K
theorem g_getsG {idx : Nat} {q : Nat} (hf : tSL own idx "ReadOnceRecognizer$Catalog" "GAPS" "[I") (hd : decode cc pc = .ok (.getstatic idx, 3)) (hq : pc + 3 = q) (hs : h.length ≤ 1001)
    (kk : tG l E own cc nL ret ini d Q k n q L (.ref 1001 :: st) h) : tG l E own cc nL ret ini d Q k n pc L st h := by
  subst hq
  intro p e R s m args below meth c A ads0 X ads H locs cells slots ls h1 h2 h3 h4 h5 h6
  have hts := X.2.2.2.2.2.2.2.2.2.1.hts args
  have K := kk p e R s m args below meth c A ads0 X ads H locs cells slots ls h1 h2 h3 h4 h5 h6
  have e9 : tv E ads (.ref 1001) = .ref E.2.2.2 := by show Value.ref (tad E ads 1001) = _; rw [tad_far 1001 h4.1 hs]; rfl
  rw [List.map_cons, e9] at K
  have hZ := X.2.2.2.2.2.2.2.2.2.1.2.2.2.1
  rcases hf with hf | ⟨host, hf⟩
  · exact va_gets X.1 X.2.1 hZ h5 X.2.2.2.2.2.2.1 (hts _ (tmem hf rfl)) (fun _ h9 => h9) hd K
  · exact va_getsN X.1 X.2.1 hZ h5 X.2.2.2.2.2.2.1 (hts _ (tmem hf rfl)) (fun _ h9 => h9) hd K
theorem g_laloadV {i : Int32} {v : Int64} {q : Nat} (hd : decode cc pc = .ok (.laload, 1)) (hq : pc + 1 = q) (hs : h.length ≤ 1000) (hv : tld tVT i = some v)
    (kk : tG l E own cc nL ret ini d Q k n q L (.long v :: st) h) : tG l E own cc nL ret ini d Q k n pc L (.int i :: .ref 1000 :: st) h := by
  subst hq
  intro p e R s m args below meth c A ads0 X ads H locs cells slots ls h1 h2 h3 h4 h5 h6
  have K := kk p e R s m args below meth c A ads0 X ads H locs cells slots ls h1 h2 h3 h4 h5 h6
  have e9 : tv E ads (.ref 1000) = .ref E.2.2.1 := by show Value.ref (tad E ads 1000) = _; rw [tad_far 1000 h4.1 hs]; rfl
  rw [List.map_cons, List.map_cons, e9]
  obtain ⟨hi, hv2⟩ := tld_some 0 hv
  exact va_tl X.1 X.2.1 X.2.2.2.2.2.2.2.2.2.1.2.2.1.2 h5 hi (by rw [hv2]; rfl) hd K
theorem g_ialoadG {i v : Int32} {q : Nat} (hd : decode cc pc = .ok (.iaload, 1)) (hq : pc + 1 = q) (hs : h.length ≤ 1001) (hv : tld tGA i = some v)
    (kk : tG l E own cc nL ret ini d Q k n q L (.int v :: st) h) : tG l E own cc nL ret ini d Q k n pc L (.int i :: .ref 1001 :: st) h := by
  subst hq
  intro p e R s m args below meth c A ads0 X ads H locs cells slots ls h1 h2 h3 h4 h5 h6
  have K := kk p e R s m args below meth c A ads0 X ads H locs cells slots ls h1 h2 h3 h4 h5 h6
  have e9 : tv E ads (.ref 1001) = .ref E.2.2.2 := by show Value.ref (tad E ads 1001) = _; rw [tad_far 1001 h4.1 hs]; rfl
  rw [List.map_cons, List.map_cons, e9]
  obtain ⟨hi, hv2⟩ := tld_some 0 hv
  exact va_ti X.1 X.2.1 X.2.2.2.2.2.2.2.2.2.1.2.2.2.2 h5 hi (by rw [hv2]; rfl) hd K
theorem g_alenG {q : Nat} (hd : decode cc pc = .ok (.arraylength, 1)) (hq : pc + 1 = q) (hs : h.length ≤ 1001)
    (kk : tG l E own cc nL ret ini d Q k n q L (.int 7 :: st) h) : tG l E own cc nL ret ini d Q k n pc L (.ref 1001 :: st) h := by
  subst hq
  intro p e R s m args below meth c A ads0 X ads H locs cells slots ls h1 h2 h3 h4 h5 h6
  have K := kk p e R s m args below meth c A ads0 X ads H locs cells slots ls h1 h2 h3 h4 h5 h6
  have e9 : tv E ads (.ref 1001) = .ref E.2.2.2 := by show Value.ref (tad E ads 1001) = _; rw [tad_far 1001 h4.1 hs]; rfl
  rw [List.map_cons, e9]
  exact va_tlen X.1 X.2.1 X.2.2.2.2.2.2.2.2.2.1.2.2.2.2 h5 rfl hd K
end THEAP
end
section
section TCALLS
variable {l : Launch} {E : tEn} {own : String} {cc : ByteArray} {nL : Nat} {ret : Option FieldType} {ini : Bool} {d : Nat} {Q : Option Value → tHp → Prop} {k n : Nat} {pc : Nat} {L : List (Nat × Value)} {st : List Value} {h : tHp}
def tokv (n : Nat) (v : Value) : Bool := match v with
  | .ref k => Nat.blt k n
  | _ => true
def tokc (n : Nat) (c : tC) : Bool := match c with
  | .inl o => o.2.all (tokv n)
  | _ => true
def tokH (h : tHp) : Bool := h.all (tokc h.length)
def tokL (n : Nat) (L : List (Nat × Value)) : Bool := L.all (fun q => tokv n q.2)
def tokS (n : Nat) (st : List Value) : Bool := st.all (tokv n)
theorem tv_pre {ads ads' : List Nat} (hp : ads <+: ads') {v : Value} (hv : tokv ads.length v = true) : tv E ads' v = tv E ads v := by
  cases v with
  | ref k =>
    have hk : k < ads.length := Nat.le_of_ble_eq_true hv
    obtain ⟨t, rfl⟩ := hp
    show Value.ref (tad E (ads ++ t) k) = Value.ref (tad E ads k)
    unfold tad
    rw [List.getElem?_append_left hk]
  | _ => rfl
theorem tS_pre {ads ads' : List Nat} (hp : ads <+: ads') {vs : List Value} (hv : tokS ads.length vs = true) : vs.map (tv E ads') = vs.map (tv E ads) :=
  List.map_congr_left fun v h9 => tv_pre hp (List.all_eq_true.mp hv v h9)
theorem tLm_pre {ads ads' : List Nat} (hp : ads <+: ads') {L : List (Nat × Value)} (hv : tokL ads.length L = true) : tLm E ads' L = tLm E ads L :=
  List.map_congr_left fun v h9 => by rw [tv_pre hp (List.all_eq_true.mp hv v h9)]
theorem tce_pre {ads ads' : List Nat} (hp : ads <+: ads') {c : tC} (hv : tokc ads.length c = true) : tce E ads' c = tce E ads c := by
  rcases c with o | c | c | c
  · show Sum.inr (o.1, o.2.map (tv E ads')) = Sum.inr (o.1, o.2.map (tv E ads))
    rw [tS_pre hp hv]
  · rfl
  · rfl
  · rfl
theorem tw_push {ads : List Nat} {q : Nat} {c : tC} (hl : ads.length = h.length) (hok : tokH h = true) : tw E (ads ++ [q]) (h ++ [c]) = tw E ads h ++ [(q, tce E (ads ++ [q]) c)] := by
  unfold tw
  rw [List.zipWith_append hl]
  congr 1
  apply List.ext_getElem?
  intro i
  rw [List.getElem?_zipWith, List.getElem?_zipWith]
  cases ha : ads[i]? with
  | none => rfl
  | some a =>
    cases hc : h[i]? with
    | none => rfl
    | some c' =>
      have := List.all_eq_true.mp hok c' (List.mem_of_getElem? hc)
      simp only [tce_pre (E := E) (List.prefix_append ads [q]) (by rw [hl]; exact this)]
theorem tad_push {ads : List Nat} {q a : Nat} (ha : ads.length = a) : tad E (ads ++ [q]) a = q := by
  unfold tad
  rw [← ha, List.getElem?_concat_length]
/-- what the pool says of a class that is made -/
def tFN (own : String) (idx ci N : Nat) (fs : List Value) : Prop := ∃ (C : String) (T : u_T) (ty0 : Nat → FieldType), vwCl[ci]? = some (C, T, N) ∧ (∀ w ∈ u_ws C T N, w ∈ tTB) ∧ (∀ k, k < N → parseFieldDescriptor (T k).2.2.1 = some (ty0 k)) ∧
  (Cond.classLink own idx C ∈ lw_tbl ∧ Cond.instantiable C N ∈ lw_tbl ∧ Cond.initialized C ∈ lw_tbl) ∧ (∀ j, j < N → defaultValue (ty0 j) = vp_V fs j) ∧ ∀ (E : tEn) (ads : List Nat), fs.map (tv E ads) = fs
theorem g_new {idx ci N a k' n' : Nat} {fs : List Value} {q : Nat} {h' : tHp} (hf : tFN own idx ci N fs) (hd : decode cc pc = .ok (.new idx, 3)) (hq : pc + 3 = q) (hok : (tokH h && (tokL h.length L && tokS h.length st)) = true) (hh : h ++ [.inl (ci, fs)] = h') (ha : h.length = a) (hk : k' + 1 = k) (hn : n' + N = n)
    (kk : tG l E own cc nL ret ini d Q k' n' q L (.ref a :: st) h') : tG l E own cc nL ret ini d Q k n pc L st h := by
  subst hq; subst hh; subst hk; subst hn
  intro p e R s m args below meth c A ads0 X ads H locs cells slots ls h1 h2 h3 h4 h5 h6
  obtain ⟨C, T, ty0, e1, e2, e3, ⟨e4, e5, e6⟩, e7, e8⟩ := hf
  rw [Bool.and_eq_true, Bool.and_eq_true] at hok
  obtain ⟨o1, o2, o3⟩ := hok
  have hts := X.2.2.2.2.2.2.2.2.2.1.hts args
  have hK := X.2.2.2.2.2.2.2.2.2.1.1
  refine va_new (D := E.1) X.1 X.2.1 hts e2 ty0 e3 X.2.2.2.2.2.2.1 (hts _ (tmem e4 rfl)) (hts _ (tmem e5 rfl)) (hts _ (tmem e6 rfl)) hK h4.2.1 h4.2.2 h5 X.2.2.2.2.2.2.2.2.2.2 e1 e7 (by omega) (by omega) hd (fun q9 H1 hP hD hS => ?_)
  have hpre : ads <+: ads ++ [q9] := List.prefix_append ads [q9]
  have ew : tw E ads h ++ [(q9, .inr (ci, fs))] = tw E (ads ++ [q9]) (h ++ [.inl (ci, fs)]) := by
    rw [tw_push h4.1 o1]
    show _ = _ ++ ([(q9, .inr (ci, fs.map (tv E (ads ++ [q9]))))] : va_W)
    rw [e8]
  rw [ew] at hP hD
  have K := kk p e R s m args below meth c A ads0 X (ads ++ [q9]) H1 locs (cells + 1) (slots + N) ls (by omega) (by omega) (h3.trans hpre) ⟨by rw [List.length_append, List.length_append, h4.1]; rfl, hP, hD⟩ hS (by rw [tLm_pre hpre (by rw [h4.1]; exact o2)]; exact h6)
  have e9 : (Value.ref a :: st).map (tv E (ads ++ [q9])) = .ref q9 :: st.map (tv E ads) := by
    rw [List.map_cons, tS_pre hpre (by rw [h4.1]; exact o3)]
    show Value.ref (tad E (ads ++ [q9]) a) :: _ = _
    rw [tad_push (h4.1.trans ha)]
  rw [e9] at K
  exact K
theorem t_arrEq {E : tEn} {s : State} {cA : ClassId} {t0 : Nat} {cB : ClassId} {ty : FieldType} {tys : List (ClassId × FieldType)} (hK : va_K E.1 vwCl (tys ++ [(cA, ty)]) s) (h0 : tys[t0]? = some (cB, ty)) (hty : ty = .int ∨ ty = .long ∨ ty = .boolean) : cA = cB := by
  have a1 := (hK.2 tys.length (cA, ty) (by rw [List.getElem?_concat_length])).2
  have a2 := (hK.2 t0 (cB, ty) (by rw [List.getElem?_append_left (List.getElem?_eq_some_iff.mp h0).1]; exact h0)).2
  rcases hty with rfl | rfl | rfl <;> exact Option.some.inj (Eq.trans (Eq.symm a1) a2)
theorem rep_getD {α : Type} (N j : Nat) (z : α) : (List.replicate N z).getD j z = z := by
  rw [List.getD_eq_getElem?_getD, List.getElem?_replicate]
  split <;> rfl
theorem g_newarrI {z : Int32} {N a k' n' : Nat} {q : Nat} {h' : tHp} (hd : decode cc pc = .ok (.newarray .int, 2)) (hq : pc + 2 = q) (hz : ¬ z < 0) (hN : z.toNatClampNeg = N) (hB : N * componentBytes .int ≤ 536870912) (hok : (tokH h && (tokL h.length L && tokS h.length st)) = true) (hh : h ++ [.inr (.inl (List.replicate N 0))] = h') (ha : h.length = a) (hk : k' + 1 = k) (hn : n' + N = n) (hw : Cond.arrayClass .int ∈ lw_tbl)
    (kk : tG l E own cc nL ret ini d Q k' n' q L (.ref a :: st) h') : tG l E own cc nL ret ini d Q k n pc L (.int z :: st) h := by
  subst hq; subst hh; subst hk; subst hn
  intro p e R s m args below meth c A ads0 X ads H locs cells slots ls h1 h2 h3 h4 h5 h6
  rw [Bool.and_eq_true, Bool.and_eq_true] at hok
  obtain ⟨o1, o2, o3⟩ := hok
  have hts := X.2.2.2.2.2.2.2.2.2.1.hts args
  have hK := X.2.2.2.2.2.2.2.2.2.1.1
  refine va_newa (D := E.1) (a0 := (N, .inl (fun j => (List.replicate N 0).getD j 0))) X.1 X.2.1 (atype := .int) (hts _ (tmem hw rfl)) (ty := .int) rfl hK h4.2.1 h4.2.2 h5 X.2.2.2.2.2.2.2.2.2.2 (fun cA => by rw [vp_cell_i]; congr 1; funext j; rw [rep_getD]; rfl) hz hN hB (by omega) (by omega) hd (fun q9 cA H1 hK1 hP hD hS => ?_)
  have ecA := t_arrEq (t0 := 0) hK1 rfl (Or.inl rfl)
  subst ecA
  have hpre : ads <+: ads ++ [q9] := List.prefix_append ads [q9]
  have ew : tw E ads h ++ [(q9, .inl (E.2.1.1, N, .inl (fun j => (List.replicate N 0).getD j 0)))] = tw E (ads ++ [q9]) (h ++ [.inr (.inl (List.replicate N 0))]) := by
    rw [tw_push h4.1 o1]
    show _ = _ ++ ([(q9, .inl (E.2.1.1, (List.replicate N (0 : Int32)).length, .inl (fun j => (List.replicate N 0).getD j 0)))] : va_W)
    rw [List.length_replicate]
  rw [ew] at hP hD
  have K := kk p e R s m args below meth c A ads0 X (ads ++ [q9]) H1 locs (cells + 1) (slots + N) ls (by omega) (by omega) (h3.trans hpre) ⟨by rw [List.length_append, List.length_append, h4.1]; rfl, hP, hD⟩ hS (by rw [tLm_pre hpre (by rw [h4.1]; exact o2)]; exact h6)
  have e9 : (Value.ref a :: st).map (tv E (ads ++ [q9])) = .ref q9 :: st.map (tv E ads) := by
    rw [List.map_cons, tS_pre hpre (by rw [h4.1]; exact o3)]
    show Value.ref (tad E (ads ++ [q9]) a) :: _ = _
    rw [tad_push (h4.1.trans ha)]
  rw [e9] at K
  exact K
theorem g_newarrJ {z : Int32} {N a k' n' : Nat} {q : Nat} {h' : tHp} (hd : decode cc pc = .ok (.newarray .long, 2)) (hq : pc + 2 = q) (hz : ¬ z < 0) (hN : z.toNatClampNeg = N) (hB : N * componentBytes .long ≤ 536870912) (hok : (tokH h && (tokL h.length L && tokS h.length st)) = true) (hh : h ++ [.inr (.inr (.inl (List.replicate N 0)))] = h') (ha : h.length = a) (hk : k' + 1 = k) (hn : n' + N = n) (hw : Cond.arrayClass .long ∈ lw_tbl)
    (kk : tG l E own cc nL ret ini d Q k' n' q L (.ref a :: st) h') : tG l E own cc nL ret ini d Q k n pc L (.int z :: st) h := by
  subst hq; subst hh; subst hk; subst hn
  intro p e R s m args below meth c A ads0 X ads H locs cells slots ls h1 h2 h3 h4 h5 h6
  rw [Bool.and_eq_true, Bool.and_eq_true] at hok
  obtain ⟨o1, o2, o3⟩ := hok
  have hts := X.2.2.2.2.2.2.2.2.2.1.hts args
  have hK := X.2.2.2.2.2.2.2.2.2.1.1
  refine va_newa (D := E.1) (a0 := (N, .inr (.inl (fun j => (List.replicate N 0).getD j 0)))) X.1 X.2.1 (atype := .long) (hts _ (tmem hw rfl)) (ty := .long) rfl hK h4.2.1 h4.2.2 h5 X.2.2.2.2.2.2.2.2.2.2 (fun cA => by rw [vp_cell_l]; congr 1; funext j; rw [rep_getD]; rfl) hz hN hB (by omega) (by omega) hd (fun q9 cA H1 hK1 hP hD hS => ?_)
  have ecA := t_arrEq (t0 := 1) hK1 rfl (Or.inr (Or.inl rfl))
  subst ecA
  have hpre : ads <+: ads ++ [q9] := List.prefix_append ads [q9]
  have ew : tw E ads h ++ [(q9, .inl (E.2.1.2.1, N, .inr (.inl (fun j => (List.replicate N 0).getD j 0))))] = tw E (ads ++ [q9]) (h ++ [.inr (.inr (.inl (List.replicate N 0)))]) := by
    rw [tw_push h4.1 o1]
    show _ = _ ++ ([(q9, .inl (E.2.1.2.1, (List.replicate N (0 : Int64)).length, .inr (.inl (fun j => (List.replicate N 0).getD j 0))))] : va_W)
    rw [List.length_replicate]
  rw [ew] at hP hD
  have K := kk p e R s m args below meth c A ads0 X (ads ++ [q9]) H1 locs (cells + 1) (slots + N) ls (by omega) (by omega) (h3.trans hpre) ⟨by rw [List.length_append, List.length_append, h4.1]; rfl, hP, hD⟩ hS (by rw [tLm_pre hpre (by rw [h4.1]; exact o2)]; exact h6)
  have e9 : (Value.ref a :: st).map (tv E (ads ++ [q9])) = .ref q9 :: st.map (tv E ads) := by
    rw [List.map_cons, tS_pre hpre (by rw [h4.1]; exact o3)]
    show Value.ref (tad E (ads ++ [q9]) a) :: _ = _
    rw [tad_push (h4.1.trans ha)]
  rw [e9] at K
  exact K
theorem g_newarrZ {z : Int32} {N a k' n' : Nat} {q : Nat} {h' : tHp} (hd : decode cc pc = .ok (.newarray .boolean, 2)) (hq : pc + 2 = q) (hz : ¬ z < 0) (hN : z.toNatClampNeg = N) (hB : N * componentBytes .boolean ≤ 536870912) (hok : (tokH h && (tokL h.length L && tokS h.length st)) = true) (hh : h ++ [.inr (.inr (.inr (List.replicate N 0)))] = h') (ha : h.length = a) (hk : k' + 1 = k) (hn : n' + N = n) (hw : Cond.arrayClass .boolean ∈ lw_tbl)
    (kk : tG l E own cc nL ret ini d Q k' n' q L (.ref a :: st) h') : tG l E own cc nL ret ini d Q k n pc L (.int z :: st) h := by
  subst hq; subst hh; subst hk; subst hn
  intro p e R s m args below meth c A ads0 X ads H locs cells slots ls h1 h2 h3 h4 h5 h6
  rw [Bool.and_eq_true, Bool.and_eq_true] at hok
  obtain ⟨o1, o2, o3⟩ := hok
  have hts := X.2.2.2.2.2.2.2.2.2.1.hts args
  have hK := X.2.2.2.2.2.2.2.2.2.1.1
  refine va_newa (D := E.1) (a0 := (N, .inl (fun j => (List.replicate N 0).getD j 0))) X.1 X.2.1 (atype := .boolean) (hts _ (tmem hw rfl)) (ty := .boolean) rfl hK h4.2.1 h4.2.2 h5 X.2.2.2.2.2.2.2.2.2.2 (fun cA => by rw [vp_cell_i]; congr 1; funext j; rw [rep_getD]; rfl) hz hN hB (by omega) (by omega) hd (fun q9 cA H1 hK1 hP hD hS => ?_)
  have ecA := t_arrEq (t0 := 2) hK1 rfl (Or.inr (Or.inr rfl))
  subst ecA
  have hpre : ads <+: ads ++ [q9] := List.prefix_append ads [q9]
  have ew : tw E ads h ++ [(q9, .inl (E.2.1.2.2, N, .inl (fun j => (List.replicate N 0).getD j 0)))] = tw E (ads ++ [q9]) (h ++ [.inr (.inr (.inr (List.replicate N 0)))]) := by
    rw [tw_push h4.1 o1]
    show _ = _ ++ ([(q9, .inl (E.2.1.2.2, (List.replicate N (0 : Int32)).length, .inl (fun j => (List.replicate N 0).getD j 0)))] : va_W)
    rw [List.length_replicate]
  rw [ew] at hP hD
  have K := kk p e R s m args below meth c A ads0 X (ads ++ [q9]) H1 locs (cells + 1) (slots + N) ls (by omega) (by omega) (h3.trans hpre) ⟨by rw [List.length_append, List.length_append, h4.1]; rfl, hP, hD⟩ hS (by rw [tLm_pre hpre (by rw [h4.1]; exact o2)]; exact h6)
  have e9 : (Value.ref a :: st).map (tv E (ads ++ [q9])) = .ref q9 :: st.map (tv E ads) := by
    rw [List.map_cons, tS_pre hpre (by rw [h4.1]; exact o3)]
    show Value.ref (tad E (ads ++ [q9]) a) :: _ = _
    rw [tad_push (h4.1.trans ha)]
  rw [e9] at K
  exact K
theorem g_objInit {idx a : Nat} {q : Nat} (hl : Cond.methodLink own idx objectInit ∈ lw_tbl) (hi : Cond.instanceMethod objectInit ∈ lw_tbl) (hcd : Cond.code objectInit ⟨#[0xb1]⟩ 1 none ∈ lw_tbl) (hd : decode cc pc = .ok (.invokespecial idx, 3)) (hq : pc + 3 = q) (hdd : 1 ≤ d) (hst : (st.map fun v => v.category).sum ≤ 8)
    (kk : tG l E own cc nL ret ini d Q k n q L st h) : tG l E own cc nL ret ini d Q k n pc L (.ref a :: st) h := by
  subst hq
  intro p e R s m args below meth c A ads0 X ads H locs cells slots ls h1 h2 h3 h4 h5 h6
  have hts := X.2.2.2.2.2.2.2.2.2.1.hts args
  have K := kk p e R s m args below meth c A ads0 X ads H locs cells slots ls h1 h2 h3 h4 h5 h6
  have ec : ((st.map (tv E ads)).map fun v => v.category).sum ≤ 8 := by
    rw [List.map_map]
    have : (fun v => v.category) ∘ (tv E ads) = fun v : Value => v.category := funext fun v => tv_cat E ads v
    rw [this]; exact hst
  refine W.objInit X.1 X.2.1 X.2.2.2.2.2.2.1 (hts _ (tmem hl rfl)) (hts _ (tmem hi rfl)) (hts _ (tmem hcd rfl)) rfl (by rw [X.2.2.1]; exact h6.1) rfl hd (by rw [X.2.2.2.2.2.2.2.1]; exact hdd) ?_ K
  have e1 := X.2.2.2.2.2.2.2.2.1
  show 2 * 0 + _ + 12 ≤ _
  rw [e1]; omega
end TCALLS
end
section
section TCALL2
variable {l : Launch} {E : tEn} {own : String} {cc : ByteArray} {nL : Nat} {ret : Option FieldType} {ini : Bool} {d : Nat} {Q : Option Value → tHp → Prop} {k n : Nat} {pc : Nat} {L : List (Nat × Value)} {st : List Value} {h : tHp}
/-- what the tables say of a method that is called -/
def tM (y : MethodName) (cy : ByteArray) (maxL : Nat) (ry : Option FieldType) (na : Nat) : Prop := Cond.code y cy maxL ry ∈ lw_tbl ∧ (y.cls ≠ "java/lang/invoke/MethodHandle" ∧ y.cls ≠ "java/lang/invoke/VarHandle" ∧ (parseMethodDescriptor y.desc).map (fun d => d.parameters.length) = some na) ∧ Cond.initialized y.cls ∈ lw_tbl ∧ maxL ≤ 40
def tML (own : String) (idx : Nat) (y : MethodName) : Prop := Cond.methodLink own idx y ∈ lw_tbl ∨ ∃ host : String, Cond.methodLinkNest own idx y host ∈ lw_tbl
theorem tM_good {y : MethodName} {cy : ByteArray} {maxL : Nat} {ry : Option FieldType} {na : Nat} (h : tM y cy maxL ry na) : GoodIn tTB [Cond.code y cy maxL ry] := by
  intro w hw
  rcases List.mem_singleton.mp hw with rfl
  exact ⟨tmem h.1 rfl, Or.inl rfl⟩
theorem t_sumcat {ads : List Nat} {vs : List Value} (hst : (vs.map fun v => v.category).sum ≤ 8) : ((vs.map (tv E ads)).map fun v => v.category).sum ≤ 8 := by
  rw [List.map_map]
  have : (fun v => v.category) ∘ (tv E ads) = fun v : Value => v.category := funext fun v => tv_cat E ads v
  rw [this]; exact hst
theorem t_goon {p : Program} {e : Env} {R : Room} {s : State} {m : MethodId} {args a9 : Array Value} {below : List Frame} {meth : Method} {c : Code} {A : Nat → Prop} {ads0 ads : List Nat} {H : Heap} {locs : List Loc} {cells slots k' n' k2 n2 q : Nat} {ls : Array Slot} {g : JFrame} {r0 : Option Value} {h1 : tHp} {st1 : List Value}
    (X : tCx E own cc nL ret ini d p R s m meth c A) (b1 : cells + k ≤ R.cells) (b2 : slots + n ≤ R.slots) (b3 : ads0 <+: ads) (b4 : tR E ads h A H) (b5 : va_S A s.heap H locs) (b6 : lv_has ls nL (tLm E ads L))
    (hk : k2 + k' = k) (hn : n2 + n' = n) (hlen : h1.length = h.length ∨ (tokL h.length L && tokS h.length st) = true) (hst1 : r0.toList ++ st = st1) (hg : { g with pc := g.pc + 3, stack := [] } = F0 m q ls [])
    (hr : va_Run p l e R s m args below meth c H locs cells slots k' n' g (st.map (tv E ads)) (tQ E (va_A (tw E ads h) H.size) ads (fun r h' => r = r0 ∧ h' = h1) a9) (va_A (tw E ads h) H.size))
    (kk : tG l E own cc nL ret ini d Q k2 n2 q L st1 h1) : W p l e R s m args below meth c H locs cells slots (MQ below (tQ E A ads0 Q) args s R.cells R.slots A) g := by
  subst hst1; subst hk; subst hn
  have hF : ∀ q, va_A (tw E ads h) H.size q → A q := by
    intro q hq
    rcases hq with ⟨i, e9, h9⟩ | h9
    · exact b4.2.2.2 i (q, e9) h9
    · exact X.2.2.2.2.2.2.2.2.2.2 q (Nat.le_trans b5.1 h9)
  intro T hT XS
  obtain ⟨v, st₀, t, T', LL, h0, X', hL, e1, e2, ⟨⟨r, h', ads', hv, ⟨rfl, rfl⟩, hpre, hR1⟩, hz, hkp⟩, stp⟩ := hr T hT XS
  have hv : v = r.map (tv E ads') := by injection hv
  subst hv
  rw [h0] at hz hkp
  have eA : tLm E ads' L = tLm E ads L ∧ st.map (tv E ads') = st.map (tv E ads) := by
    rcases hlen with hlen | hlen
    · have : ads = ads' := hpre.eq_of_length (by rw [b4.1, hR1.1, hlen])
      subst this; exact ⟨rfl, rfl⟩
    · rw [Bool.and_eq_true] at hlen
      exact ⟨tLm_pre hpre (by rw [b4.1]; exact hlen.1), tS_pre hpre (by rw [b4.1]; exact hlen.2)⟩
  have hS1 : va_S A s.heap T'.heap (locs ++ LL) := ⟨Nat.le_trans b5.1 (by rw [e1]; exact hz), fun q h1 h2 => by rw [e1, hkp q (Nat.lt_of_lt_of_le h1 b5.1) (fun z => h2 (hF q z))]; exact b5.2.1 q h1 h2, fun q hq => by
      rcases List.mem_append.mp hq with h9 | h9
      · exact b5.2.2 q h9
      · exact hF _ (hL q h9)⟩
  have hR2 : tR E ads' h' A T'.heap := ⟨hR1.1, by rw [e1]; exact hR1.2.1, hR1.2.2.weaken (fun i x _ h9 => hF x.1 h9)⟩
  have K := kk p e R s m args below meth c A ads0 X ads' T'.heap (locs ++ LL) (cells + k') (slots + n') ls (by omega) (by omega) (b3.trans hpre) hR2 hS1 (by rw [eA.1]; exact b6)
  have e3 : { g with pc := g.pc + 3, stack := (r.map (tv E ads')).toList ++ st.map (tv E ads) } = F0 m q ls ((r.toList ++ st).map (tv E ads')) := by
    have e4 : (r.toList ++ st).map (tv E ads') = (r.map (tv E ads')).toList ++ st.map (tv E ads) := by
      rw [List.map_append, eA.2]; cases r <;> rfl
    rw [e4]
    obtain ⟨g1, g2, g3, g4, g5⟩ := g
    simp only [F0, JFrame.mk.injEq] at hg ⊢
    exact ⟨hg.1, hg.2.1, hg.2.2.1, trivial, hg.2.2.2.2⟩
  rw [← e3] at K
  obtain ⟨t2, a1, b1'⟩ := K T' rfl X'
  exact ⟨t2, stp t2 a1, b1'⟩
theorem t_pre {s : State} {A : Nat → Prop} {H : Heap} {locs : List Loc} {ads : List Nat} {as : List Value} (hU : tU E A s) (hA : ∀ q, s.heap.size ≤ q → A q) (b4 : tR E ads h A H) (b5 : va_S A s.heap H locs) :
    PreS s H (va_Pc (as.map (tv E ads)) (fun U => U.heap.size = H.size ∧ tU E (va_A (tw E ads h) H.size) U ∧ tR E ads h (fun _ => True) U.heap)) (as.map (tv E ads)) := by
  have hF : ∀ q, va_A (tw E ads h) H.size q → A q := by
    intro q hq
    rcases hq with ⟨i, e9, h9⟩ | h9
    · exact b4.2.2.2 i (q, e9) h9
    · exact hA q (Nat.le_trans b5.1 h9)
  refine ⟨fun a U g mk q => ?_, fun U hUh hW => ⟨rfl, by rw [hUh], hU.call b5 hF hUh hW, b4.1, by rw [hUh]; exact b4.2.1, b4.2.2.weaken (fun _ _ _ _ => trivial)⟩⟩
  obtain ⟨q0, q1, q2, q3⟩ := q
  refine ⟨q0, q1, ?_, q3⟩
  obtain ⟨c1, c2, ⟨c3, c4⟩, c5, c6⟩ := q2
  exact ⟨va_K.moved (u := U) (U := U.calling g mk a) (Vm.Alike.refl U.vm) c1, fun w hw => tWm (U := U.calling g mk a) (State.WarmedH.refl U) hw (c2 w hw) #[], ⟨c3.moved (U := U.calling g mk a) (Vm.Alike.refl U.vm), c4.moved (U := U.calling g mk a) (Vm.Alike.refl U.vm)⟩, c5.moved (U := U.calling g mk a) (Vm.Alike.refl U.vm), c6.moved (U := U.calling g mk a) (Vm.Alike.refl U.vm)⟩
theorem g_callS {idx : Nat} {y : MethodName} {cy : ByteArray} {maxL na d' k' n' k2 n2 q : Nat} {ry : Option FieldType} {as st0 st1 : List Value} {r0 : Option Value} {h1 : tHp} (hM : tM y cy maxL ry na) (hml : tML own idx y) (hs : Cond.static y ∈ lw_tbl) (hd : decode cc pc = .ok (.invokestatic idx, 3)) (hq : pc + 3 = q)
    (hev : tEv l E y cy maxL ry d' k' n' as h (fun r h' => r = r0 ∧ h' = h1)) (hst : as.reverse ++ st = st0) (hna : as.length = na) (hcat : (st.map fun v => v.category).sum ≤ 8) (hdd : d' + 1 ≤ d) (hk : k2 + k' = k) (hn : n2 + n' = n) (hlen : h1.length = h.length ∨ (tokL h.length L && tokS h.length st) = true) (hst1 : r0.toList ++ st = st1)
    (kk : tG l E own cc nL ret ini d Q k2 n2 q L st1 h1) : tG l E own cc nL ret ini d Q k n pc L st0 h := by
  subst hq; subst hst
  intro p e R s m args below meth c A ads0 X ads H locs cells slots ls b1 b2 b3 b4 b5 b6
  have hts := X.2.2.2.2.2.2.2.2.2.1.hts args
  have hRm : d' + 1 ≤ R.frames ∧ 8 + (maxL + 11) + 64 * d' ≤ R.locals := by
    have e1 := X.2.2.2.2.2.2.2.1
    have e2 := X.2.2.2.2.2.2.2.2.1
    have e3 := hM.2.2.2
    rw [e1, e2]; omega
  have hpre := t_pre (E := E) (as := as) X.2.2.2.2.2.2.2.2.2.1 X.2.2.2.2.2.2.2.2.2.2 b4 b5
  have hst9 : ((as.reverse ++ st).map (tv E ads)) = (as.map (tv E ads)).reverse ++ st.map (tv E ads) := by rw [List.map_append, List.map_reverse]
  refine t_goon (a9 := (as.map (tv E ads)).toArray) (k' := k') (n' := n') (st := st) X b1 b2 b3 b4 b5 b6 hk hn hlen hst1 rfl ?_ kk
  rcases hml with hml | ⟨host, hml⟩
  · exact va_runS (rest := st.map (tv E ads)) (As := as.map (tv E ads)) ⟨X.1, X.2.1, X.2.2.1, X.2.2.2.2.2.2.1, hts⟩ (hev ads H.size) ⟨callB_of na hts (tM_good hM) rfl rfl rfl (hts _ (tmem hM.2.2.1 rfl)) (hts _ (tmem hml rfl)) hM.2.1 hRm, hts _ (tmem hs rfl)⟩ hpre rfl (by rw [List.length_map]; exact hna) b6.1 hst9 (lv_room (t_sumcat hcat)) hd ⟨by omega, by omega⟩
  · exact va_runSN (rest := st.map (tv E ads)) (As := as.map (tv E ads)) (host := host) ⟨X.1, X.2.1, X.2.2.1, X.2.2.2.2.2.2.1, hts⟩ (hev ads H.size) ⟨va_cnB na hts (tM_good hM) rfl rfl rfl (X.2.2.2.2.2.2.2.2.2.1.2.1 _ (tmem hml rfl)) (hts _ (tmem hM.2.2.1 rfl)) hM.2.1 hRm, hts _ (tmem hs rfl), trivial⟩ hpre rfl (by rw [List.length_map]; exact hna) b6.1 hst9 (lv_room (t_sumcat hcat)) hd ⟨by omega, by omega⟩
theorem g_callV {idx ci a : Nat} {fs : List Value} {y : MethodName} {cy : ByteArray} {maxL na d' k' n' k2 n2 q : Nat} {ry : Option FieldType} {as st0 st1 : List Value} {r0 : Option Value} {h1 : tHp} {T : u_T} {N : Nat} (hM : tM y cy maxL ry na) (hml : tML own idx y) (hs : Cond.instanceMethod y ∈ lw_tbl ∧ Cond.selects y.cls y y ∈ lw_tbl) (hc : h[a]? = some (.inl (ci, fs))) (hci : vwCl[ci]? = some (y.cls, T, N)) (hd : decode cc pc = .ok (.invokevirtual idx, 3)) (hq : pc + 3 = q)
    (hev : tEv l E y cy maxL ry d' k' n' (.ref a :: as) h (fun r h' => r = r0 ∧ h' = h1)) (hst : as.reverse ++ .ref a :: st = st0) (hna : as.length = na) (hcat : (st.map fun v => v.category).sum ≤ 8) (hdd : d' + 1 ≤ d) (hk : k2 + k' = k) (hn : n2 + n' = n) (hlen : h1.length = h.length ∨ (tokL h.length L && tokS h.length st) = true) (hst1 : r0.toList ++ st = st1)
    (kk : tG l E own cc nL ret ini d Q k2 n2 q L st1 h1) : tG l E own cc nL ret ini d Q k n pc L st0 h := by
  subst hq; subst hst
  intro p e R s m args below meth c A ads0 X ads H locs cells slots ls b1 b2 b3 b4 b5 b6
  have hts := X.2.2.2.2.2.2.2.2.2.1.hts args
  have hRm : d' + 1 ≤ R.frames ∧ 8 + (maxL + 11) + 64 * d' ≤ R.locals := by
    have e1 := X.2.2.2.2.2.2.2.1
    have e2 := X.2.2.2.2.2.2.2.2.1
    have e3 := hM.2.2.2
    rw [e1, e2]; omega
  have hpre := t_pre (E := E) (as := .ref a :: as) X.2.2.2.2.2.2.2.2.2.1 X.2.2.2.2.2.2.2.2.2.2 b4 b5
  have hst9 : ((as.reverse ++ .ref a :: st).map (tv E ads)) = (as.map (tv E ads)).reverse ++ .ref (tad E ads a) :: st.map (tv E ads) := by rw [List.map_append, List.map_reverse]; rfl
  have hrecv := va_recv X.2.2.2.2.2.2.2.2.2.1.1 b4.2.1 hci (tw_get (E := E) b4.1 hc)
  refine t_goon (a9 := ((Value.ref a :: as).map (tv E ads)).toArray) (k' := k') (n' := n') (st := st) X b1 b2 b3 b4 b5 b6 hk hn hlen hst1 rfl ?_ kk
  rcases hml with hml | ⟨host, hml⟩
  · exact va_runV (C := y.cls) (b := tad E ads a) (rest := st.map (tv E ads)) (As := as.map (tv E ads)) ⟨X.1, X.2.1, X.2.2.1, X.2.2.2.2.2.2.1, hts⟩ (hev ads H.size) ⟨callB_of na hts (tM_good hM) rfl rfl rfl (hts _ (tmem hM.2.2.1 rfl)) (hts _ (tmem hml rfl)) hM.2.1 hRm, hts _ (tmem hs.1 rfl), hts _ (tmem hs.2 rfl)⟩ ⟨hpre.1, hrecv, hpre.2⟩ rfl (by rw [List.length_map]; exact hna) b6.1 hst9 (lv_room (t_sumcat hcat)) hd ⟨by omega, by omega⟩
  · exact va_runVN (C := y.cls) (b := tad E ads a) (rest := st.map (tv E ads)) (As := as.map (tv E ads)) (host := host) ⟨X.1, X.2.1, X.2.2.1, X.2.2.2.2.2.2.1, hts⟩ (hev ads H.size) ⟨va_cnB na hts (tM_good hM) rfl rfl rfl (X.2.2.2.2.2.2.2.2.2.1.2.1 _ (tmem hml rfl)) (hts _ (tmem hM.2.2.1 rfl)) hM.2.1 hRm, hts _ (tmem hs.1 rfl), hts _ (tmem hs.2 rfl)⟩ ⟨hpre.1, hrecv, hpre.2⟩ rfl (by rw [List.length_map]; exact hna) b6.1 hst9 (lv_room (t_sumcat hcat)) hd ⟨by omega, by omega⟩
theorem g_callI {idx a : Nat} {y : MethodName} {cy : ByteArray} {maxL na d' k' n' k2 n2 q : Nat} {as st0 st1 : List Value} {r0 : Option Value} {h1 : tHp} (hM : tM y cy maxL none na) (hml : tML own idx y) (hs : Cond.instanceMethod y ∈ lw_tbl) (hy : y.name = "<init>") (hd : decode cc pc = .ok (.invokespecial idx, 3)) (hq : pc + 3 = q)
    (hev : tEv l E y cy maxL none d' k' n' (.ref a :: as) h (fun r h' => r = r0 ∧ h' = h1)) (hst : as.reverse ++ .ref a :: st = st0) (hna : as.length = na) (hcat : (st.map fun v => v.category).sum ≤ 8) (hdd : d' + 1 ≤ d) (hk : k2 + k' = k) (hn : n2 + n' = n) (hlen : h1.length = h.length ∨ (tokL h.length L && tokS h.length st) = true) (hst1 : r0.toList ++ st = st1)
    (kk : tG l E own cc nL ret ini d Q k2 n2 q L st1 h1) : tG l E own cc nL ret ini d Q k n pc L st0 h := by
  subst hq; subst hst
  intro p e R s m args below meth c A ads0 X ads H locs cells slots ls b1 b2 b3 b4 b5 b6
  have hts := X.2.2.2.2.2.2.2.2.2.1.hts args
  have hRm : d' + 1 ≤ R.frames ∧ 8 + (maxL + 11) + 64 * d' ≤ R.locals := by
    have e1 := X.2.2.2.2.2.2.2.1
    have e2 := X.2.2.2.2.2.2.2.2.1
    have e3 := hM.2.2.2
    rw [e1, e2]; omega
  have hpre := t_pre (E := E) (as := .ref a :: as) X.2.2.2.2.2.2.2.2.2.1 X.2.2.2.2.2.2.2.2.2.2 b4 b5
  have hst9 : ((as.reverse ++ .ref a :: st).map (tv E ads)) = (as.map (tv E ads)).reverse ++ .ref (tad E ads a) :: st.map (tv E ads) := by rw [List.map_append, List.map_reverse]; rfl
  refine t_goon (a9 := ((Value.ref a :: as).map (tv E ads)).toArray) (k' := k') (n' := n') (st := st) X b1 b2 b3 b4 b5 b6 hk hn hlen hst1 rfl ?_ kk
  rcases hml with hml | ⟨host, hml⟩
  · exact va_runI (b := tad E ads a) (rest := st.map (tv E ads)) (As := as.map (tv E ads)) ⟨X.1, X.2.1, X.2.2.1, X.2.2.2.2.2.2.1, hts⟩ (hev ads H.size) ⟨callB_of na hts (tM_good hM) rfl rfl rfl (hts _ (tmem hM.2.2.1 rfl)) (hts _ (tmem hml rfl)) hM.2.1 hRm, hy, hts _ (tmem hs rfl)⟩ hpre rfl (by rw [List.length_map]; exact hna) b6.1 hst9 (lv_room (t_sumcat hcat)) hd ⟨by omega, by omega⟩
  · exact va_runIN (b := tad E ads a) (rest := st.map (tv E ads)) (As := as.map (tv E ads)) (host := host) ⟨X.1, X.2.1, X.2.2.1, X.2.2.2.2.2.2.1, hts⟩ (hev ads H.size) ⟨va_cnB na hts (tM_good hM) rfl rfl rfl (X.2.2.2.2.2.2.2.2.2.1.2.1 _ (tmem hml rfl)) (hts _ (tmem hM.2.2.1 rfl)) hM.2.1 hRm, hy, hts _ (tmem hs rfl)⟩ hpre rfl (by rw [List.length_map]; exact hna) b6.1 hst9 (lv_room (t_sumcat hcat)) hd ⟨by omega, by omega⟩
end TCALL2
end
section
theorem t_in (i : Nat) {w : Cond} (h : tables_1[i]? = some w) : w ∈ lw_tbl := List.mem_append_right _ (List.mem_of_getElem? h)
theorem t_inS (i : Nat) {w : Cond} (h : (k2_sels lw_privs)[i]? = some w) : w ∈ lw_tbl := List.mem_append_left _ (List.mem_of_getElem? h)
set_option maxRecDepth 100000 in
theorem in0_X0 : ∀ w ∈ wsX00, w ∈ lw_tbl := by decide +kernel
set_option maxRecDepth 100000 in
theorem in1_X0 : wsX00.all tSt = true := by decide +kernel
theorem in_X0 : ∀ w ∈ u_ws RX0 TX0 2, w ∈ tTB := fun w hw => tmem (in0_X0 w hw) (List.all_eq_true.mp in1_X0 w hw)
set_option maxRecDepth 100000 in
theorem in0_X1 : ∀ w ∈ wsX10, w ∈ lw_tbl := by decide +kernel
set_option maxRecDepth 100000 in
theorem in1_X1 : wsX10.all tSt = true := by decide +kernel
theorem in_X1 : ∀ w ∈ u_ws RX1 TX1 3, w ∈ tTB := fun w hw => tmem (in0_X1 w hw) (List.all_eq_true.mp in1_X1 w hw)
set_option maxRecDepth 100000 in
theorem in0_X2 : ∀ w ∈ wsX20, w ∈ lw_tbl := by decide +kernel
set_option maxRecDepth 100000 in
theorem in1_X2 : wsX20.all tSt = true := by decide +kernel
theorem in_X2 : ∀ w ∈ u_ws RX2 TX2 2, w ∈ tTB := fun w hw => tmem (in0_X2 w hw) (List.all_eq_true.mp in1_X2 w hw)
set_option maxRecDepth 100000 in
theorem in0_X3 : ∀ w ∈ wsX30, w ∈ lw_tbl := by decide +kernel
set_option maxRecDepth 100000 in
theorem in1_X3 : wsX30.all tSt = true := by decide +kernel
theorem in_X3 : ∀ w ∈ u_ws RX3 TX3 5, w ∈ tTB := fun w hw => tmem (in0_X3 w hw) (List.all_eq_true.mp in1_X3 w hw)
set_option maxRecDepth 100000 in
theorem in0_X4 : ∀ w ∈ wsX40, w ∈ lw_tbl := by decide +kernel
set_option maxRecDepth 100000 in
theorem in1_X4 : wsX40.all tSt = true := by decide +kernel
theorem in_X4 : ∀ w ∈ u_ws RX4 TX4 3, w ∈ tTB := fun w hw => tmem (in0_X4 w hw) (List.all_eq_true.mp in1_X4 w hw)
set_option maxRecDepth 100000 in
theorem in0_X5 : ∀ w ∈ wsX50, w ∈ lw_tbl := by decide +kernel
set_option maxRecDepth 100000 in
theorem in1_X5 : wsX50.all tSt = true := by decide +kernel
theorem in_X5 : ∀ w ∈ u_ws RX5 TX5 6, w ∈ tTB := fun w hw => tmem (in0_X5 w hw) (List.all_eq_true.mp in1_X5 w hw)
set_option maxRecDepth 100000 in
theorem in0_X6 : ∀ w ∈ wsX60, w ∈ lw_tbl := by decide +kernel
set_option maxRecDepth 100000 in
theorem in1_X6 : wsX60.all tSt = true := by decide +kernel
theorem in_X6 : ∀ w ∈ u_ws RX6 TX6 6, w ∈ tTB := fun w hw => tmem (in0_X6 w hw) (List.all_eq_true.mp in1_X6 w hw)
set_option maxRecDepth 100000 in
theorem in0_X7 : ∀ w ∈ wsX70, w ∈ lw_tbl := by decide +kernel
set_option maxRecDepth 100000 in
theorem in1_X7 : wsX70.all tSt = true := by decide +kernel
theorem in_X7 : ∀ w ∈ u_ws RX7 TX7 11, w ∈ tTB := fun w hw => tmem (in0_X7 w hw) (List.all_eq_true.mp in1_X7 w hw)
set_option maxRecDepth 100000 in
theorem in0_X8 : ∀ w ∈ wsX80, w ∈ lw_tbl := by decide +kernel
set_option maxRecDepth 100000 in
theorem in1_X8 : wsX80.all tSt = true := by decide +kernel
theorem in_X8 : ∀ w ∈ u_ws RX8 TX8 39, w ∈ tTB := fun w hw => tmem (in0_X8 w hw) (List.all_eq_true.mp in1_X8 w hw)
theorem ol_X7_1 : Cond.methodLink RX7 1 objectInit ∈ lw_tbl := t_in 19 (by decide +kernel)
theorem fn_X7_7 : tFN RX7 7 6 6 [.int 0, .null, .long 0, .long 0, .null, .int 0] := ⟨RX6, TX6, tyX6, rfl, in_X6, tyX6_ok, ⟨t_in 22 (by decide +kernel), t_in 23 (by decide +kernel), t_in 2 (by decide +kernel)⟩, fun j hj => by rcases (show j = 0 ∨ j = 1 ∨ j = 2 ∨ j = 3 ∨ j = 4 ∨ j = 5 by omega) with rfl | rfl | rfl | rfl | rfl | rfl <;> rfl, fun _ _ => rfl⟩
theorem ml_X7_9 : tML RX7 9 yX6_init := Or.inl (t_in 24 (by decide +kernel))
theorem fl_X7_10 : tFL RX7 10 7 0 := ⟨RX7, TX7, 11, rfl, by decide, in_X7, Or.inl (t_in 179 (by decide +kernel))⟩
theorem fp_X7_10 : tFP RX7 10 7 0 (.object "ReadOnceRecognizer$State") true := ⟨RX7, TX7, 11, tyX7, rfl, by decide, in_X7, tyX7_ok, nmX7, rfl, (by decide +kernel), Or.inl ⟨t_in 179 (by decide +kernel), fun _ => rfl⟩⟩
theorem fl_X7_16 : tFL RX7 16 7 1 := ⟨RX7, TX7, 11, rfl, by decide, in_X7, Or.inl (t_in 180 (by decide +kernel))⟩
theorem fp_X7_16 : tFP RX7 16 7 1 (.object "ReadOnceRecognizer$State") true := ⟨RX7, TX7, 11, tyX7, rfl, by decide, in_X7, tyX7_ok, nmX7, rfl, (by decide +kernel), Or.inl ⟨t_in 180 (by decide +kernel), fun _ => rfl⟩⟩
theorem fl_X7_19 : tFL RX7 19 7 2 := ⟨RX7, TX7, 11, rfl, by decide, in_X7, Or.inl (t_in 181 (by decide +kernel))⟩
theorem fp_X7_19 : tFP RX7 19 7 2 (.boolean) false := ⟨RX7, TX7, 11, tyX7, rfl, by decide, in_X7, tyX7_ok, nmX7, rfl, (by decide +kernel), Or.inl ⟨t_in 181 (by decide +kernel), fun h => nomatch h⟩⟩
theorem fn_X7_23 : tFN RX7 23 4 3 [.null, .null, .int 0] := ⟨RX4, TX4, tyX4, rfl, in_X4, tyX4_ok, ⟨t_in 59 (by decide +kernel), t_in 60 (by decide +kernel), t_in 4 (by decide +kernel)⟩, fun j hj => by rcases (show j = 0 ∨ j = 1 ∨ j = 2 by omega) with rfl | rfl | rfl <;> rfl, fun _ _ => rfl⟩
theorem ml_X7_25 : tML RX7 25 yX4_init := Or.inr ⟨"ReadOnceRecognizer", t_in 61 (by decide +kernel)⟩
theorem fl_X7_26 : tFL RX7 26 7 3 := ⟨RX7, TX7, 11, rfl, by decide, in_X7, Or.inl (t_in 182 (by decide +kernel))⟩
theorem fp_X7_26 : tFP RX7 26 7 3 (.object "ReadOnceRecognizer$History") true := ⟨RX7, TX7, 11, tyX7, rfl, by decide, in_X7, tyX7_ok, nmX7, rfl, (by decide +kernel), Or.inl ⟨t_in 182 (by decide +kernel), fun _ => rfl⟩⟩
theorem fn_X7_30 : tFN RX7 30 3 5 [.null, .int 0, .int 0, .null, .null] := ⟨RX3, TX3, tyX3, rfl, in_X3, tyX3_ok, ⟨t_in 78 (by decide +kernel), t_in 79 (by decide +kernel), t_in 5 (by decide +kernel)⟩, fun j hj => by rcases (show j = 0 ∨ j = 1 ∨ j = 2 ∨ j = 3 ∨ j = 4 by omega) with rfl | rfl | rfl | rfl | rfl <;> rfl, fun _ _ => rfl⟩
theorem ml_X7_32 : tML RX7 32 yX3_init := Or.inr ⟨"ReadOnceRecognizer", t_in 80 (by decide +kernel)⟩
theorem fl_X7_33 : tFL RX7 33 7 4 := ⟨RX7, TX7, 11, rfl, by decide, in_X7, Or.inl (t_in 183 (by decide +kernel))⟩
theorem fp_X7_33 : tFP RX7 33 7 4 (.object "ReadOnceRecognizer$Graph") true := ⟨RX7, TX7, 11, tyX7, rfl, by decide, in_X7, tyX7_ok, nmX7, rfl, (by decide +kernel), Or.inl ⟨t_in 183 (by decide +kernel), fun _ => rfl⟩⟩
theorem fn_X7_37 : tFN RX7 37 1 3 [.null, .null, .int 0] := ⟨RX1, TX1, tyX1, rfl, in_X1, tyX1_ok, ⟨t_in 105 (by decide +kernel), t_in 106 (by decide +kernel), t_in 6 (by decide +kernel)⟩, fun j hj => by rcases (show j = 0 ∨ j = 1 ∨ j = 2 by omega) with rfl | rfl | rfl <;> rfl, fun _ _ => rfl⟩
theorem ml_X7_39 : tML RX7 39 yX1_init := Or.inr ⟨"ReadOnceRecognizer", t_in 107 (by decide +kernel)⟩
theorem fl_X7_40 : tFL RX7 40 7 5 := ⟨RX7, TX7, 11, rfl, by decide, in_X7, Or.inl (t_in 184 (by decide +kernel))⟩
theorem fp_X7_40 : tFP RX7 40 7 5 (.object "ReadOnceRecognizer$Cotree") true := ⟨RX7, TX7, 11, tyX7, rfl, by decide, in_X7, tyX7_ok, nmX7, rfl, (by decide +kernel), Or.inl ⟨t_in 184 (by decide +kernel), fun _ => rfl⟩⟩
theorem fn_X7_44 : tFN RX7 44 5 6 [.null, .int 0, .int 0, .long 0, .int 0, .int 0] := ⟨RX5, TX5, tyX5, rfl, in_X5, tyX5_ok, ⟨t_in 127 (by decide +kernel), t_in 128 (by decide +kernel), t_in 7 (by decide +kernel)⟩, fun j hj => by rcases (show j = 0 ∨ j = 1 ∨ j = 2 ∨ j = 3 ∨ j = 4 ∨ j = 5 by omega) with rfl | rfl | rfl | rfl | rfl | rfl <;> rfl, fun _ _ => rfl⟩
theorem ml_X7_46 : tML RX7 46 yX5_init := Or.inr ⟨"ReadOnceRecognizer", t_in 129 (by decide +kernel)⟩
theorem fl_X7_47 : tFL RX7 47 7 6 := ⟨RX7, TX7, 11, rfl, by decide, in_X7, Or.inl (t_in 185 (by decide +kernel))⟩
theorem fp_X7_47 : tFP RX7 47 7 6 (.object "ReadOnceRecognizer$Input") true := ⟨RX7, TX7, 11, tyX7, rfl, by decide, in_X7, tyX7_ok, nmX7, rfl, (by decide +kernel), Or.inl ⟨t_in 185 (by decide +kernel), fun _ => rfl⟩⟩
theorem fn_X7_51 : tFN RX7 51 2 2 [.null, .int 0] := ⟨RX2, TX2, tyX2, rfl, in_X2, tyX2_ok, ⟨t_in 161 (by decide +kernel), t_in 162 (by decide +kernel), t_in 8 (by decide +kernel)⟩, fun j hj => by rcases (show j = 0 ∨ j = 1 by omega) with rfl | rfl <;> rfl, fun _ _ => rfl⟩
theorem ml_X7_53 : tML RX7 53 yX2_init := Or.inr ⟨"ReadOnceRecognizer", t_in 163 (by decide +kernel)⟩
theorem fl_X7_54 : tFL RX7 54 7 7 := ⟨RX7, TX7, 11, rfl, by decide, in_X7, Or.inl (t_in 186 (by decide +kernel))⟩
theorem fp_X7_54 : tFP RX7 54 7 7 (.object "ReadOnceRecognizer$FormulaText") true := ⟨RX7, TX7, 11, tyX7, rfl, by decide, in_X7, tyX7_ok, nmX7, rfl, (by decide +kernel), Or.inl ⟨t_in 186 (by decide +kernel), fun _ => rfl⟩⟩
theorem fl_X7_58 : tFL RX7 58 7 8 := ⟨RX7, TX7, 11, rfl, by decide, in_X7, Or.inl (t_in 187 (by decide +kernel))⟩
theorem fp_X7_58 : tFP RX7 58 7 8 (.array .int) true := ⟨RX7, TX7, 11, tyX7, rfl, by decide, in_X7, tyX7_ok, nmX7, rfl, (by decide +kernel), Or.inl ⟨t_in 187 (by decide +kernel), fun _ => rfl⟩⟩
theorem fl_X7_62 : tFL RX7 62 7 9 := ⟨RX7, TX7, 11, rfl, by decide, in_X7, Or.inl (t_in 188 (by decide +kernel))⟩
theorem fp_X7_62 : tFP RX7 62 7 9 (.array .int) true := ⟨RX7, TX7, 11, tyX7, rfl, by decide, in_X7, tyX7_ok, nmX7, rfl, (by decide +kernel), Or.inl ⟨t_in 188 (by decide +kernel), fun _ => rfl⟩⟩
theorem fl_X7_65 : tFL RX7 65 7 10 := ⟨RX7, TX7, 11, rfl, by decide, in_X7, Or.inl (t_in 189 (by decide +kernel))⟩
theorem fp_X7_65 : tFP RX7 65 7 10 (.object "ReadOnceRecognizer$Catalog") false := ⟨RX7, TX7, 11, tyX7, rfl, by decide, in_X7, tyX7_ok, nmX7, rfl, (by decide +kernel), Or.inl ⟨t_in 189 (by decide +kernel), fun h => nomatch h⟩⟩
theorem ml_X7_69 : tML RX7 69 yJ7_fill_53178 := Or.inl (t_in 176 (by decide +kernel))
theorem fl_X7_75 : tFL RX7 75 6 0 := ⟨RX6, TX6, 6, rfl, by decide, in_X6, Or.inr ⟨"ReadOnceRecognizer", t_in 33 (by decide +kernel)⟩⟩
theorem ml_X7_79 : tML RX7 79 yX6_startAnew := Or.inl (t_in 217 (by decide +kernel))
theorem ml_X7_83 : tML RX7 83 yX4_forget := Or.inl (t_in 221 (by decide +kernel))
theorem ml_X7_86 : tML RX7 86 yX7_isSlot := Or.inl (t_in 233 (by decide +kernel))
theorem ml_X7_90 : tML RX7 90 yX7_fullTable := Or.inl (t_in 239 (by decide +kernel))
theorem ml_X7_94 : tML RX7 94 yX7_store := Or.inl (t_in 240 (by decide +kernel))
theorem ml_X7_98 : tML RX7 98 yX7_slotError := Or.inl (t_in 261 (by decide +kernel))
theorem fl_X7_102 : tFL RX7 102 6 1 := ⟨RX6, TX6, 6, rfl, by decide, in_X6, Or.inr ⟨"ReadOnceRecognizer", t_in 35 (by decide +kernel)⟩⟩
theorem kc_X7_106 : Cond.constantLong RX7 106 (-1) ∈ lw_tbl := t_in 274 (by decide +kernel)
theorem ml_X7_108 : tML RX7 108 yX6_usedCount := Or.inl (t_in 275 (by decide +kernel))
theorem ml_X7_112 : tML RX7 112 yX7_isPoint := Or.inl (t_in 284 (by decide +kernel))
theorem ml_X7_115 : tML RX7 115 yX7_bitAt := Or.inl (t_in 288 (by decide +kernel))
theorem ml_X7_119 : tML RX7 119 yX7_essentialSet := Or.inl (t_in 299 (by decide +kernel))
theorem ml_X7_122 : tML RX7 122 yX7_lowestViolation := Or.inl (t_in 306 (by decide +kernel))
theorem ml_X7_125 : tML RX7 125 yX7_drawGraph := Or.inl (t_in 320 (by decide +kernel))
theorem fl_X7_128 : tFL RX7 128 3 1 := ⟨RX3, TX3, 5, rfl, by decide, in_X3, Or.inr ⟨"ReadOnceRecognizer", t_in 86 (by decide +kernel)⟩⟩
theorem ml_X7_131 : tML RX7 131 yX3_primeAt := Or.inl (t_in 345 (by decide +kernel))
theorem ml_X7_134 : tML RX7 134 yX7_isVariable := Or.inl (t_in 354 (by decide +kernel))
theorem fl_X7_137 : tFL RX7 137 3 3 := ⟨RX3, TX3, 5, rfl, by decide, in_X3, Or.inr ⟨"ReadOnceRecognizer", t_in 91 (by decide +kernel)⟩⟩
theorem ml_X7_140 : tML RX7 140 yX7_isIndex := Or.inl (t_in 236 (by decide +kernel))
theorem ml_X7_144 : tML RX7 144 yX3_findPath := Or.inl (t_in 362 (by decide +kernel))
theorem fl_X7_148 : tFL RX7 148 3 4 := ⟨RX3, TX3, 5, rfl, by decide, in_X3, Or.inr ⟨"ReadOnceRecognizer", t_in 93 (by decide +kernel)⟩⟩
theorem ml_X7_151 : tML RX7 151 yX3_lowestBadClique := Or.inl (t_in 382 (by decide +kernel))
theorem ml_X7_154 : tML RX7 154 yX7_whyNotReadOnce := Or.inl (t_in 398 (by decide +kernel))
theorem ml_X7_158 : tML RX7 158 yX7_growCotree := Or.inl (t_in 406 (by decide +kernel))
theorem fl_X7_161 : tFL RX7 161 1 2 := ⟨RX1, TX1, 3, rfl, by decide, in_X1, Or.inr ⟨"ReadOnceRecognizer", t_in 119 (by decide +kernel)⟩⟩
theorem ml_X7_164 : tML RX7 164 yX1_has := Or.inl (t_in 437 (by decide +kernel))
theorem fl_X7_167 : tFL RX7 167 1 0 := ⟨RX1, TX1, 3, rfl, by decide, in_X1, Or.inr ⟨"ReadOnceRecognizer", t_in 113 (by decide +kernel)⟩⟩
theorem fl_X7_170 : tFL RX7 170 1 1 := ⟨RX1, TX1, 3, rfl, by decide, in_X1, Or.inr ⟨"ReadOnceRecognizer", t_in 116 (by decide +kernel)⟩⟩
theorem ml_X7_173 : tML RX7 173 yX1_depthOfLeaf := Or.inl (t_in 450 (by decide +kernel))
theorem fl_X7_176 : tFL RX7 176 2 1 := ⟨RX2, TX2, 2, rfl, by decide, in_X2, Or.inr ⟨"ReadOnceRecognizer", t_in 170 (by decide +kernel)⟩⟩
theorem fp_X7_176 : tFP RX7 176 2 1 (.int) false := ⟨RX2, TX2, 2, tyX2, rfl, by decide, in_X2, tyX2_ok, nmX2, rfl, (by decide +kernel), Or.inr ⟨rfl, "ReadOnceRecognizer", t_in 170 (by decide +kernel)⟩⟩
theorem ml_X7_179 : tML RX7 179 yX2_put := Or.inl (t_in 463 (by decide +kernel))
theorem ml_X7_182 : tML RX7 182 yX2_putTree := Or.inl (t_in 467 (by decide +kernel))
theorem fl_X7_186 : tFL RX7 186 2 0 := ⟨RX2, TX2, 2, rfl, by decide, in_X2, Or.inr ⟨"ReadOnceRecognizer", t_in 168 (by decide +kernel)⟩⟩
theorem ml_X7_189 : tML RX7 189 yX5_append := Or.inl (t_in 489 (by decide +kernel))
theorem fl_X7_192 : tFL RX7 192 5 1 := ⟨RX5, TX5, 6, rfl, by decide, in_X5, Or.inr ⟨"ReadOnceRecognizer", t_in 141 (by decide +kernel)⟩⟩
theorem fp_X7_192 : tFP RX7 192 5 1 (.int) false := ⟨RX5, TX5, 6, tyX5, rfl, by decide, in_X5, tyX5_ok, nmX5, rfl, (by decide +kernel), Or.inr ⟨rfl, "ReadOnceRecognizer", t_in 141 (by decide +kernel)⟩⟩
theorem ml_X7_193 : tML RX7 193 yX5_readFormula := Or.inl (t_in 497 (by decide +kernel))
theorem fl_X7_196 : tFL RX7 196 5 4 := ⟨RX5, TX5, 6, rfl, by decide, in_X5, Or.inr ⟨"ReadOnceRecognizer", t_in 145 (by decide +kernel)⟩⟩
theorem fl_X7_199 : tFL RX7 199 5 5 := ⟨RX5, TX5, 6, rfl, by decide, in_X5, Or.inr ⟨"ReadOnceRecognizer", t_in 147 (by decide +kernel)⟩⟩
theorem ml_X7_202 : tML RX7 202 yX6_holds := Or.inl (t_in 265 (by decide +kernel))
theorem ml_X7_205 : tML RX7 205 yX7_applied := Or.inl (t_in 533 (by decide +kernel))
theorem ml_X7_209 : tML RX7 209 yX7_pointCount := Or.inl (t_in 136 (by decide +kernel))
theorem ml_X7_212 : tML RX7 212 yX7_isBit := Or.inl (t_in 544 (by decide +kernel))
theorem ml_X7_215 : tML RX7 215 yX7_substituted := Or.inl (t_in 547 (by decide +kernel))
theorem ml_X7_219 : tML RX7 219 yX7_withBit := Or.inl (t_in 551 (by decide +kernel))
theorem ml_X7_223 : tML RX7 223 yX7_drawnTable := Or.inl (t_in 566 (by decide +kernel))
theorem fl_X7_227 : tFL RX7 227 6 2 := ⟨RX6, TX6, 6, rfl, by decide, in_X6, Or.inr ⟨"ReadOnceRecognizer", t_in 37 (by decide +kernel)⟩⟩
theorem fp_X7_227 : tFP RX7 227 6 2 (.long) false := ⟨RX6, TX6, 6, tyX6, rfl, by decide, in_X6, tyX6_ok, nmX6, rfl, (by decide +kernel), Or.inr ⟨rfl, "ReadOnceRecognizer", t_in 37 (by decide +kernel)⟩⟩
theorem fl_X7_231 : tFL RX7 231 6 3 := ⟨RX6, TX6, 6, rfl, by decide, in_X6, Or.inr ⟨"ReadOnceRecognizer", t_in 39 (by decide +kernel)⟩⟩
theorem fp_X7_231 : tFP RX7 231 6 3 (.long) false := ⟨RX6, TX6, 6, tyX6, rfl, by decide, in_X6, tyX6_ok, nmX6, rfl, (by decide +kernel), Or.inr ⟨rfl, "ReadOnceRecognizer", t_in 39 (by decide +kernel)⟩⟩
theorem ml_X7_234 : tML RX7 234 yJ13_bitCount_95d88 := Or.inl (t_in 251 (by decide +kernel))
theorem ml_X7_239 : tML RX7 239 yX7_openCatalog := Or.inl (t_in 590 (by decide +kernel))
theorem fl_X7_243 : tFL RX7 243 0 1 := ⟨RX0, TX0, 2, rfl, by decide, in_X0, Or.inr ⟨"ReadOnceRecognizer", t_in 642 (by decide +kernel)⟩⟩
theorem fn_X7_244 : tFN RX7 244 0 2 [.null, .int 0] := ⟨RX0, TX0, tyX0, rfl, in_X0, tyX0_ok, ⟨t_in 594 (by decide +kernel), t_in 595 (by decide +kernel), t_in 13 (by decide +kernel)⟩, fun j hj => by rcases (show j = 0 ∨ j = 1 by omega) with rfl | rfl <;> rfl, fun _ _ => rfl⟩
theorem ml_X7_246 : tML RX7 246 yX7_isExtension := Or.inl (t_in 648 (by decide +kernel))
theorem ml_X7_250 : tML RX7 250 yX0_tableAt := Or.inl (t_in 652 (by decide +kernel))
theorem ml_X7_253 : tML RX7 253 yX0_supportAt := Or.inl (t_in 653 (by decide +kernel))
theorem ml_X7_256 : tML RX7 256 yJ6_bitCount_0f7a4 := Or.inl (t_in 665 (by decide +kernel))
theorem fl_X7_260 : tFL RX7 260 6 5 := ⟨RX6, TX6, 6, rfl, by decide, in_X6, Or.inr ⟨"ReadOnceRecognizer", t_in 43 (by decide +kernel)⟩⟩
theorem fp_X7_260 : tFP RX7 260 6 5 (.int) false := ⟨RX6, TX6, 6, tyX6, rfl, by decide, in_X6, tyX6_ok, nmX6, rfl, (by decide +kernel), Or.inr ⟨rfl, "ReadOnceRecognizer", t_in 43 (by decide +kernel)⟩⟩
theorem ml_X7_263 : tML RX7 263 yX6_appendStep := Or.inl (t_in 674 (by decide +kernel))
theorem ml_X7_267 : tML RX7 267 yX7_runStep := Or.inl (t_in 686 (by decide +kernel))
theorem fl_X7_270 : tFL RX7 270 4 2 := ⟨RX4, TX4, 3, rfl, by decide, in_X4, Or.inr ⟨"ReadOnceRecognizer", t_in 70 (by decide +kernel)⟩⟩
theorem fp_X7_270 : tFP RX7 270 4 2 (.int) false := ⟨RX4, TX4, 3, tyX4, rfl, by decide, in_X4, tyX4_ok, nmX4, rfl, (by decide +kernel), Or.inr ⟨rfl, "ReadOnceRecognizer", t_in 70 (by decide +kernel)⟩⟩
theorem fl_X7_271 : tFL RX7 271 4 0 := ⟨RX4, TX4, 3, rfl, by decide, in_X4, Or.inr ⟨"ReadOnceRecognizer", t_in 66 (by decide +kernel)⟩⟩
theorem fl_X7_274 : tFL RX7 274 4 1 := ⟨RX4, TX4, 3, rfl, by decide, in_X4, Or.inr ⟨"ReadOnceRecognizer", t_in 68 (by decide +kernel)⟩⟩
theorem ml_X7_277 : tML RX7 277 yX6_copyFrom := Or.inl (t_in 705 (by decide +kernel))
theorem kc_X7_281 : Cond.constantLong RX7 281 (-9223372036854775808) ∈ lw_tbl := t_in 726 (by decide +kernel)
theorem ml_X7_283 : tML RX7 283 yX4_remember := Or.inl (t_in 244 (by decide +kernel))
theorem ml_X7_287 : tML RX7 287 yX3_fill := Or.inl (t_in 324 (by decide +kernel))
theorem ml_X7_289 : tML RX7 289 yX1_fill := Or.inl (t_in 410 (by decide +kernel))
theorem fl_X7_292 : tFL RX7 292 6 4 := ⟨RX6, TX6, 6, rfl, by decide, in_X6, Or.inr ⟨"ReadOnceRecognizer", t_in 41 (by decide +kernel)⟩⟩
theorem ml_X7_295 : tML RX7 295 yX7_combine := Or.inl (t_in 690 (by decide +kernel))
theorem ml_X7_299 : tML RX7 299 yX7_dual := Or.inl (t_in 691 (by decide +kernel))
theorem ml_X7_303 : tML RX7 303 yX7_cofactor := Or.inl (t_in 692 (by decide +kernel))
theorem ml_X7_306 : tML RX7 306 yX0_init := Or.inl (t_in 596 (by decide +kernel))
theorem ml_X7_307 : tML RX7 307 yX7_fallsAbove := Or.inl (t_in 309 (by decide +kernel))
theorem kc_X7_311 : Cond.constant RX7 311 (1103515245) ∈ lw_tbl := t_in 570 (by decide +kernel)
theorem ml_X7_312 : tML RX7 312 yX7_supersets := Or.inl (t_in 571 (by decide +kernel))
theorem ml_X7_315 : tML RX7 315 yX7_hasVariable := Or.inl (t_in 377 (by decide +kernel))
theorem ol_X0_3 : Cond.methodLink RX0 3 objectInit ∈ lw_tbl := t_in 599 (by decide +kernel)
theorem fl_X0_11 : tFL RX0 11 0 0 := ⟨RX0, TX0, 2, rfl, by decide, in_X0, Or.inl (t_in 640 (by decide +kernel))⟩
theorem fp_X0_11 : tFP RX0 11 0 0 (.array .long) true := ⟨RX0, TX0, 2, tyX0, rfl, by decide, in_X0, tyX0_ok, nmX0, rfl, (by decide +kernel), Or.inl ⟨t_in 640 (by decide +kernel), fun _ => rfl⟩⟩
theorem fl_X0_15 : tFL RX0 15 0 1 := ⟨RX0, TX0, 2, rfl, by decide, in_X0, Or.inl (t_in 641 (by decide +kernel))⟩
theorem fp_X0_15 : tFP RX0 15 0 1 (.int) false := ⟨RX0, TX0, 2, tyX0, rfl, by decide, in_X0, tyX0_ok, nmX0, rfl, (by decide +kernel), Or.inl ⟨t_in 641 (by decide +kernel), fun h => nomatch h⟩⟩
theorem ml_X0_19 : tML RX0 19 yX0_enter := Or.inl (t_in 600 (by decide +kernel))
theorem kc_X0_23 : Cond.constantLong RX0 23 (4294967295) ∈ lw_tbl := t_in 604 (by decide +kernel)
theorem ml_X0_25 : tML RX0 25 yX0_enterAll := Or.inl (t_in 605 (by decide +kernel))
theorem ml_X0_29 : tML RX0 29 yX0_sort := Or.inl (t_in 630 (by decide +kernel))
theorem ml_X0_32 : tML RX0 32 yX7_isIndex := Or.inr ⟨"ReadOnceRecognizer", t_in 620 (by decide +kernel)⟩
theorem kc_X0_36 : Cond.constantLong RX0 36 (-1) ∈ lw_tbl := t_in 621 (by decide +kernel)
theorem ml_X0_38 : tML RX0 38 yJ6_bitCount_0f7a4 := Or.inl (t_in 609 (by decide +kernel))
theorem sl_X0_44 : tSL RX0 44 "ReadOnceRecognizer" "VARIABLE_TABLES" "[J" := Or.inr ⟨"ReadOnceRecognizer", t_in 610 (by decide +kernel)⟩
theorem ml_X0_47 : tML RX0 47 yX7_lowestVariable := Or.inr ⟨"ReadOnceRecognizer", t_in 611 (by decide +kernel)⟩
theorem ml_X0_50 : tML RX0 50 yX0_enterSplit := Or.inl (t_in 612 (by decide +kernel))
theorem ml_X0_54 : tML RX0 54 yX0_tableAt := Or.inl (t_in 616 (by decide +kernel))
theorem ml_X0_58 : tML RX0 58 yX0_rootAt := Or.inl (t_in 622 (by decide +kernel))
theorem ml_X0_61 : tML RX0 61 yX0_enterJoined := Or.inl (t_in 626 (by decide +kernel))
theorem sl_X0_65 : tSL RX0 65 "ReadOnceRecognizer$Catalog" "GAPS" "[I" := Or.inl (t_in 634 (by decide +kernel))
theorem ml_X0_69 : tML RX0 69 yX0_sink := Or.inl (t_in 636 (by decide +kernel))
theorem ol_X1_3 : Cond.methodLink RX1 3 objectInit ∈ lw_tbl := t_in 110 (by decide +kernel)
theorem fl_X1_11 : tFL RX1 11 1 0 := ⟨RX1, TX1, 3, rfl, by decide, in_X1, Or.inl (t_in 111 (by decide +kernel))⟩
theorem fp_X1_11 : tFP RX1 11 1 0 (.array .int) true := ⟨RX1, TX1, 3, tyX1, rfl, by decide, in_X1, tyX1_ok, nmX1, rfl, (by decide +kernel), Or.inl ⟨t_in 111 (by decide +kernel), fun _ => rfl⟩⟩
theorem fl_X1_15 : tFL RX1 15 1 1 := ⟨RX1, TX1, 3, rfl, by decide, in_X1, Or.inl (t_in 114 (by decide +kernel))⟩
theorem fp_X1_15 : tFP RX1 15 1 1 (.array .int) true := ⟨RX1, TX1, 3, tyX1, rfl, by decide, in_X1, tyX1_ok, nmX1, rfl, (by decide +kernel), Or.inl ⟨t_in 114 (by decide +kernel), fun _ => rfl⟩⟩
theorem fl_X1_18 : tFL RX1 18 1 2 := ⟨RX1, TX1, 3, rfl, by decide, in_X1, Or.inl (t_in 117 (by decide +kernel))⟩
theorem fp_X1_18 : tFP RX1 18 1 2 (.int) false := ⟨RX1, TX1, 3, tyX1, rfl, by decide, in_X1, tyX1_ok, nmX1, rfl, (by decide +kernel), Or.inl ⟨t_in 117 (by decide +kernel), fun h => nomatch h⟩⟩
theorem fl_X1_22 : tFL RX1 22 3 2 := ⟨RX3, TX3, 5, rfl, by decide, in_X3, Or.inr ⟨"ReadOnceRecognizer", t_in 88 (by decide +kernel)⟩⟩
theorem ml_X1_27 : tML RX1 27 yX1_grow := Or.inl (t_in 414 (by decide +kernel))
theorem ml_X1_31 : tML RX1 31 yJ6_bitCount_0f7a4 := Or.inl (t_in 418 (by decide +kernel))
theorem ml_X1_37 : tML RX1 37 yX7_lowestVariable := Or.inr ⟨"ReadOnceRecognizer", t_in 424 (by decide +kernel)⟩
theorem ml_X1_40 : tML RX1 40 yX1_component := Or.inl (t_in 425 (by decide +kernel))
theorem ml_X1_44 : tML RX1 44 yX1_growChildren := Or.inl (t_in 429 (by decide +kernel))
theorem ml_X1_47 : tML RX1 47 yX7_hasVariable := Or.inr ⟨"ReadOnceRecognizer", t_in 428 (by decide +kernel)⟩
theorem fl_X1_51 : tFL RX1 51 3 3 := ⟨RX3, TX3, 5, rfl, by decide, in_X3, Or.inr ⟨"ReadOnceRecognizer", t_in 90 (by decide +kernel)⟩⟩
theorem ml_X1_54 : tML RX1 54 yX7_isIndex := Or.inr ⟨"ReadOnceRecognizer", t_in 441 (by decide +kernel)⟩
theorem ml_X1_57 : tML RX1 57 yX1_depthOfNode := Or.inl (t_in 454 (by decide +kernel))
theorem ml_X1_60 : tML RX1 60 yX1_has := Or.inl (t_in 458 (by decide +kernel))
theorem ol_X2_3 : Cond.methodLink RX2 3 objectInit ∈ lw_tbl := t_in 166 (by decide +kernel)
theorem fl_X2_11 : tFL RX2 11 2 0 := ⟨RX2, TX2, 2, rfl, by decide, in_X2, Or.inl (t_in 167 (by decide +kernel))⟩
theorem fp_X2_11 : tFP RX2 11 2 0 (.array .int) true := ⟨RX2, TX2, 2, tyX2, rfl, by decide, in_X2, tyX2_ok, nmX2, rfl, (by decide +kernel), Or.inl ⟨t_in 167 (by decide +kernel), fun _ => rfl⟩⟩
theorem fl_X2_15 : tFL RX2 15 2 1 := ⟨RX2, TX2, 2, rfl, by decide, in_X2, Or.inl (t_in 169 (by decide +kernel))⟩
theorem fp_X2_15 : tFP RX2 15 2 1 (.int) false := ⟨RX2, TX2, 2, tyX2, rfl, by decide, in_X2, tyX2_ok, nmX2, rfl, (by decide +kernel), Or.inl ⟨t_in 169 (by decide +kernel), fun h => nomatch h⟩⟩
theorem ml_X2_19 : tML RX2 19 yX2_putNode := Or.inl (t_in 471 (by decide +kernel))
theorem ml_X2_23 : tML RX2 23 yX1_has := Or.inl (t_in 475 (by decide +kernel))
theorem fl_X2_29 : tFL RX2 29 1 0 := ⟨RX1, TX1, 3, rfl, by decide, in_X1, Or.inr ⟨"ReadOnceRecognizer", t_in 112 (by decide +kernel)⟩⟩
theorem ml_X2_32 : tML RX2 32 yX2_put := Or.inl (t_in 476 (by decide +kernel))
theorem fl_X2_36 : tFL RX2 36 1 2 := ⟨RX1, TX1, 3, rfl, by decide, in_X1, Or.inr ⟨"ReadOnceRecognizer", t_in 118 (by decide +kernel)⟩⟩
theorem fl_X2_39 : tFL RX2 39 1 1 := ⟨RX1, TX1, 3, rfl, by decide, in_X1, Or.inr ⟨"ReadOnceRecognizer", t_in 115 (by decide +kernel)⟩⟩
theorem ml_X2_42 : tML RX2 42 yX2_putChild := Or.inl (t_in 477 (by decide +kernel))
theorem ol_X3_3 : Cond.methodLink RX3 3 objectInit ∈ lw_tbl := t_in 83 (by decide +kernel)
theorem fl_X3_9 : tFL RX3 9 3 0 := ⟨RX3, TX3, 5, rfl, by decide, in_X3, Or.inl (t_in 84 (by decide +kernel))⟩
theorem fp_X3_9 : tFP RX3 9 3 0 (.array .int) true := ⟨RX3, TX3, 5, tyX3, rfl, by decide, in_X3, tyX3_ok, nmX3, rfl, (by decide +kernel), Or.inl ⟨t_in 84 (by decide +kernel), fun _ => rfl⟩⟩
theorem fl_X3_15 : tFL RX3 15 3 1 := ⟨RX3, TX3, 5, rfl, by decide, in_X3, Or.inl (t_in 85 (by decide +kernel))⟩
theorem fp_X3_15 : tFP RX3 15 3 1 (.int) false := ⟨RX3, TX3, 5, tyX3, rfl, by decide, in_X3, tyX3_ok, nmX3, rfl, (by decide +kernel), Or.inl ⟨t_in 85 (by decide +kernel), fun h => nomatch h⟩⟩
theorem fl_X3_19 : tFL RX3 19 3 2 := ⟨RX3, TX3, 5, rfl, by decide, in_X3, Or.inl (t_in 87 (by decide +kernel))⟩
theorem fp_X3_19 : tFP RX3 19 3 2 (.int) false := ⟨RX3, TX3, 5, tyX3, rfl, by decide, in_X3, tyX3_ok, nmX3, rfl, (by decide +kernel), Or.inl ⟨t_in 87 (by decide +kernel), fun h => nomatch h⟩⟩
theorem fl_X3_22 : tFL RX3 22 3 3 := ⟨RX3, TX3, 5, rfl, by decide, in_X3, Or.inl (t_in 89 (by decide +kernel))⟩
theorem fp_X3_22 : tFP RX3 22 3 3 (.array .int) true := ⟨RX3, TX3, 5, tyX3, rfl, by decide, in_X3, tyX3_ok, nmX3, rfl, (by decide +kernel), Or.inl ⟨t_in 89 (by decide +kernel), fun _ => rfl⟩⟩
theorem fl_X3_25 : tFL RX3 25 3 4 := ⟨RX3, TX3, 5, rfl, by decide, in_X3, Or.inl (t_in 92 (by decide +kernel))⟩
theorem fp_X3_25 : tFP RX3 25 3 4 (.array .int) true := ⟨RX3, TX3, 5, tyX3, rfl, by decide, in_X3, tyX3_ok, nmX3, rfl, (by decide +kernel), Or.inl ⟨t_in 92 (by decide +kernel), fun _ => rfl⟩⟩
theorem ml_X3_28 : tML RX3 28 yJ7_fill_53178 := Or.inl (t_in 328 (by decide +kernel))
theorem ml_X3_34 : tML RX3 34 yX7_pointCount := Or.inr ⟨"ReadOnceRecognizer", t_in 329 (by decide +kernel)⟩
theorem ml_X3_38 : tML RX3 38 yX7_bitAt := Or.inr ⟨"ReadOnceRecognizer", t_in 330 (by decide +kernel)⟩
theorem ml_X3_42 : tML RX3 42 yX3_isMinimal := Or.inl (t_in 331 (by decide +kernel))
theorem ml_X3_46 : tML RX3 46 yX3_addPrime := Or.inl (t_in 334 (by decide +kernel))
theorem ml_X3_50 : tML RX3 50 yX7_hasVariable := Or.inr ⟨"ReadOnceRecognizer", t_in 338 (by decide +kernel)⟩
theorem ml_X3_54 : tML RX3 54 yX7_isIndex := Or.inr ⟨"ReadOnceRecognizer", t_in 349 (by decide +kernel)⟩
theorem ml_X3_57 : tML RX3 57 yX3_areAdjacent := Or.inl (t_in 366 (by decide +kernel))
theorem ml_X3_60 : tML RX3 60 yX3_findPathFrom := Or.inl (t_in 370 (by decide +kernel))
theorem ml_X3_63 : tML RX3 63 yX7_lowestVariable := Or.inr ⟨"ReadOnceRecognizer", t_in 374 (by decide +kernel)⟩
theorem ml_X3_66 : tML RX3 66 yX3_isMaximalClique := Or.inl (t_in 386 (by decide +kernel))
theorem ml_X3_70 : tML RX3 70 yX3_isPrime := Or.inl (t_in 390 (by decide +kernel))
theorem ol_X4_3 : Cond.methodLink RX4 3 objectInit ∈ lw_tbl := t_in 64 (by decide +kernel)
theorem fl_X4_9 : tFL RX4 9 4 0 := ⟨RX4, TX4, 3, rfl, by decide, in_X4, Or.inl (t_in 65 (by decide +kernel))⟩
theorem fp_X4_9 : tFP RX4 9 4 0 (.array .int) true := ⟨RX4, TX4, 3, tyX4, rfl, by decide, in_X4, tyX4_ok, nmX4, rfl, (by decide +kernel), Or.inl ⟨t_in 65 (by decide +kernel), fun _ => rfl⟩⟩
theorem fl_X4_15 : tFL RX4 15 4 1 := ⟨RX4, TX4, 3, rfl, by decide, in_X4, Or.inl (t_in 67 (by decide +kernel))⟩
theorem fp_X4_15 : tFP RX4 15 4 1 (.array .long) true := ⟨RX4, TX4, 3, tyX4, rfl, by decide, in_X4, tyX4_ok, nmX4, rfl, (by decide +kernel), Or.inl ⟨t_in 67 (by decide +kernel), fun _ => rfl⟩⟩
theorem fl_X4_19 : tFL RX4 19 4 2 := ⟨RX4, TX4, 3, rfl, by decide, in_X4, Or.inl (t_in 69 (by decide +kernel))⟩
theorem fp_X4_19 : tFP RX4 19 4 2 (.int) false := ⟨RX4, TX4, 3, tyX4, rfl, by decide, in_X4, tyX4_ok, nmX4, rfl, (by decide +kernel), Or.inl ⟨t_in 69 (by decide +kernel), fun h => nomatch h⟩⟩
theorem al_X4_23 : Cond.methodLink RX4 23 arraycopyName ∈ lw_tbl := t_in 248 (by decide +kernel)
theorem ol_X5_3 : Cond.methodLink RX5 3 objectInit ∈ lw_tbl := t_in 132 (by decide +kernel)
theorem fl_X5_11 : tFL RX5 11 5 0 := ⟨RX5, TX5, 6, rfl, by decide, in_X5, Or.inl (t_in 139 (by decide +kernel))⟩
theorem fp_X5_11 : tFP RX5 11 5 0 (.array .int) true := ⟨RX5, TX5, 6, tyX5, rfl, by decide, in_X5, tyX5_ok, nmX5, rfl, (by decide +kernel), Or.inl ⟨t_in 139 (by decide +kernel), fun _ => rfl⟩⟩
theorem fl_X5_15 : tFL RX5 15 5 1 := ⟨RX5, TX5, 6, rfl, by decide, in_X5, Or.inl (t_in 140 (by decide +kernel))⟩
theorem fp_X5_15 : tFP RX5 15 5 1 (.int) false := ⟨RX5, TX5, 6, tyX5, rfl, by decide, in_X5, tyX5_ok, nmX5, rfl, (by decide +kernel), Or.inl ⟨t_in 140 (by decide +kernel), fun h => nomatch h⟩⟩
theorem fl_X5_19 : tFL RX5 19 5 2 := ⟨RX5, TX5, 6, rfl, by decide, in_X5, Or.inl (t_in 142 (by decide +kernel))⟩
theorem fp_X5_19 : tFP RX5 19 5 2 (.int) false := ⟨RX5, TX5, 6, tyX5, rfl, by decide, in_X5, tyX5_ok, nmX5, rfl, (by decide +kernel), Or.inl ⟨t_in 142 (by decide +kernel), fun h => nomatch h⟩⟩
theorem ml_X5_22 : tML RX5 22 yX7_fullTable := Or.inr ⟨"ReadOnceRecognizer", t_in 133 (by decide +kernel)⟩
theorem fl_X5_26 : tFL RX5 26 5 3 := ⟨RX5, TX5, 6, rfl, by decide, in_X5, Or.inl (t_in 143 (by decide +kernel))⟩
theorem fp_X5_26 : tFP RX5 26 5 3 (.long) false := ⟨RX5, TX5, 6, tyX5, rfl, by decide, in_X5, tyX5_ok, nmX5, rfl, (by decide +kernel), Or.inl ⟨t_in 143 (by decide +kernel), fun h => nomatch h⟩⟩
theorem fl_X5_30 : tFL RX5 30 5 4 := ⟨RX5, TX5, 6, rfl, by decide, in_X5, Or.inl (t_in 144 (by decide +kernel))⟩
theorem fp_X5_30 : tFP RX5 30 5 4 (.int) false := ⟨RX5, TX5, 6, tyX5, rfl, by decide, in_X5, tyX5_ok, nmX5, rfl, (by decide +kernel), Or.inl ⟨t_in 144 (by decide +kernel), fun h => nomatch h⟩⟩
theorem fl_X5_33 : tFL RX5 33 5 5 := ⟨RX5, TX5, 6, rfl, by decide, in_X5, Or.inl (t_in 146 (by decide +kernel))⟩
theorem fp_X5_33 : tFP RX5 33 5 5 (.int) false := ⟨RX5, TX5, 6, tyX5, rfl, by decide, in_X5, tyX5_ok, nmX5, rfl, (by decide +kernel), Or.inl ⟨t_in 146 (by decide +kernel), fun h => nomatch h⟩⟩
theorem ml_X5_36 : tML RX5 36 yX5_readSum := Or.inl (t_in 501 (by decide +kernel))
theorem kc_X5_39 : Cond.constantLong RX5 39 (-1) ∈ lw_tbl := t_in 521 (by decide +kernel)
theorem ml_X5_41 : tML RX5 41 yX5_readProduct := Or.inl (t_in 505 (by decide +kernel))
theorem ml_X5_44 : tML RX5 44 yX5_nextIs := Or.inl (t_in 513 (by decide +kernel))
theorem ml_X5_48 : tML RX5 48 yX5_readFactor := Or.inl (t_in 509 (by decide +kernel))
theorem ml_X5_51 : tML RX5 51 yX5_readOpened := Or.inl (t_in 517 (by decide +kernel))
theorem ml_X5_54 : tML RX5 54 yX5_readAtom := Or.inl (t_in 522 (by decide +kernel))
theorem ml_X5_58 : tML RX5 58 yX7_isIndex := Or.inr ⟨"ReadOnceRecognizer", t_in 526 (by decide +kernel)⟩
theorem sl_X5_62 : tSL RX5 62 "ReadOnceRecognizer" "VARIABLE_TABLES" "[J" := Or.inr ⟨"ReadOnceRecognizer", t_in 527 (by decide +kernel)⟩
theorem ol_X6_3 : Cond.methodLink RX6 3 objectInit ∈ lw_tbl := t_in 27 (by decide +kernel)
theorem fl_X6_9 : tFL RX6 9 6 0 := ⟨RX6, TX6, 6, rfl, by decide, in_X6, Or.inl (t_in 32 (by decide +kernel))⟩
theorem fp_X6_9 : tFP RX6 9 6 0 (.int) false := ⟨RX6, TX6, 6, tyX6, rfl, by decide, in_X6, tyX6_ok, nmX6, rfl, (by decide +kernel), Or.inl ⟨t_in 32 (by decide +kernel), fun h => nomatch h⟩⟩
theorem fl_X6_15 : tFL RX6 15 6 1 := ⟨RX6, TX6, 6, rfl, by decide, in_X6, Or.inl (t_in 34 (by decide +kernel))⟩
theorem fp_X6_15 : tFP RX6 15 6 1 (.array .long) true := ⟨RX6, TX6, 6, tyX6, rfl, by decide, in_X6, tyX6_ok, nmX6, rfl, (by decide +kernel), Or.inl ⟨t_in 34 (by decide +kernel), fun _ => rfl⟩⟩
theorem fl_X6_19 : tFL RX6 19 6 2 := ⟨RX6, TX6, 6, rfl, by decide, in_X6, Or.inl (t_in 36 (by decide +kernel))⟩
theorem fp_X6_19 : tFP RX6 19 6 2 (.long) false := ⟨RX6, TX6, 6, tyX6, rfl, by decide, in_X6, tyX6_ok, nmX6, rfl, (by decide +kernel), Or.inl ⟨t_in 36 (by decide +kernel), fun h => nomatch h⟩⟩
theorem fl_X6_23 : tFL RX6 23 6 3 := ⟨RX6, TX6, 6, rfl, by decide, in_X6, Or.inl (t_in 38 (by decide +kernel))⟩
theorem fp_X6_23 : tFP RX6 23 6 3 (.long) false := ⟨RX6, TX6, 6, tyX6, rfl, by decide, in_X6, tyX6_ok, nmX6, rfl, (by decide +kernel), Or.inl ⟨t_in 38 (by decide +kernel), fun h => nomatch h⟩⟩
theorem fl_X6_26 : tFL RX6 26 6 4 := ⟨RX6, TX6, 6, rfl, by decide, in_X6, Or.inl (t_in 40 (by decide +kernel))⟩
theorem fp_X6_26 : tFP RX6 26 6 4 (.array .int) true := ⟨RX6, TX6, 6, tyX6, rfl, by decide, in_X6, tyX6_ok, nmX6, rfl, (by decide +kernel), Or.inl ⟨t_in 40 (by decide +kernel), fun _ => rfl⟩⟩
theorem fl_X6_30 : tFL RX6 30 6 5 := ⟨RX6, TX6, 6, rfl, by decide, in_X6, Or.inl (t_in 42 (by decide +kernel))⟩
theorem fp_X6_30 : tFP RX6 30 6 5 (.int) false := ⟨RX6, TX6, 6, tyX6, rfl, by decide, in_X6, tyX6_ok, nmX6, rfl, (by decide +kernel), Or.inl ⟨t_in 42 (by decide +kernel), fun h => nomatch h⟩⟩
theorem kc_X6_33 : Cond.constantLong RX6 33 (-1) ∈ lw_tbl := t_in 28 (by decide +kernel)
theorem ml_X6_35 : tML RX6 35 yJ7_fill_d0a16 := Or.inl (t_in 29 (by decide +kernel))
theorem al_X6_41 : Cond.methodLink RX6 41 arraycopyName ∈ lw_tbl := t_in 709 (by decide +kernel)
theorem ml_X6_47 : tML RX6 47 yX7_isSlot := Or.inr ⟨"ReadOnceRecognizer", t_in 269 (by decide +kernel)⟩
theorem ml_X6_51 : tML RX6 51 yX6_holds := Or.inl (t_in 279 (by decide +kernel))
theorem fn_L_7 : tFN RL 7 7 11 [.null, .null, .int 0, .null, .null, .null, .null, .null, .null, .null, .null] := ⟨RX7, TX7, tyX7, rfl, in_X7, tyX7_ok, ⟨t_in 14 (by decide +kernel), t_in 15 (by decide +kernel), t_in 1 (by decide +kernel)⟩, fun j hj => by rcases (show j = 0 ∨ j = 1 ∨ j = 2 ∨ j = 3 ∨ j = 4 ∨ j = 5 ∨ j = 6 ∨ j = 7 ∨ j = 8 ∨ j = 9 ∨ j = 10 by omega) with rfl | rfl | rfl | rfl | rfl | rfl | rfl | rfl | rfl | rfl | rfl <;> rfl, fun _ _ => rfl⟩
theorem ml_L_9 : tML RL 9 yX7_init := Or.inl (t_in 16 (by decide +kernel))
theorem fn_L_10 : tFN RL 10 8 39 [.int 0, .int 0, .null, .null, .int 0, .null, .null, .null, .long 0, .long 0, .int 0, .null, .null, .int 0, .null, .int 0, .null, .null, .int 0, .int 0, .long 0, .long 0, .null, .null, .null, .null, .int 0, .int 0, .null, .null, .int 0, .int 0, .int 0, .int 0, .int 0, .null, .null, .null, .null] := ⟨RX8, TX8, tyX8, rfl, in_X8, tyX8_ok, ⟨t_in 731 (by decide +kernel), t_in 732 (by decide +kernel), t_in 9 (by decide +kernel)⟩, fun j hj => by rcases (show j = 0 ∨ j = 1 ∨ j = 2 ∨ j = 3 ∨ j = 4 ∨ j = 5 ∨ j = 6 ∨ j = 7 ∨ j = 8 ∨ j = 9 ∨ j = 10 ∨ j = 11 ∨ j = 12 ∨ j = 13 ∨ j = 14 ∨ j = 15 ∨ j = 16 ∨ j = 17 ∨ j = 18 ∨ j = 19 ∨ j = 20 ∨ j = 21 ∨ j = 22 ∨ j = 23 ∨ j = 24 ∨ j = 25 ∨ j = 26 ∨ j = 27 ∨ j = 28 ∨ j = 29 ∨ j = 30 ∨ j = 31 ∨ j = 32 ∨ j = 33 ∨ j = 34 ∨ j = 35 ∨ j = 36 ∨ j = 37 ∨ j = 38 by omega) with rfl | rfl | rfl | rfl | rfl | rfl | rfl | rfl | rfl | rfl | rfl | rfl | rfl | rfl | rfl | rfl | rfl | rfl | rfl | rfl | rfl | rfl | rfl | rfl | rfl | rfl | rfl | rfl | rfl | rfl | rfl | rfl | rfl | rfl | rfl | rfl | rfl | rfl | rfl <;> rfl, fun _ _ => rfl⟩
theorem ml_L_12 : tML RL 12 yX8_init := Or.inl (t_in 733 (by decide +kernel))
theorem ml_L_13 : tML RL 13 yX7_setVariables := Or.inl (t_in 213 (by decide +kernel))
theorem ml_L_17 : tML RL 17 yX8_setVariables := Or.inl (t_in 886 (by decide +kernel))
theorem ml_L_18 : tML RL 18 yX7_variables := Or.inl (t_in 225 (by decide +kernel))
theorem ml_L_22 : tML RL 22 yX8_variables := Or.inl (t_in 894 (by decide +kernel))
theorem kc_L_23 : Cond.constantLong RL 23 (4294967295) ∈ lw_tbl := t_in 1240 (by decide +kernel)
theorem ml_L_25 : tML RL 25 yX7_setTable := Or.inl (t_in 229 (by decide +kernel))
theorem ml_L_29 : tML RL 29 yX8_setTable := Or.inl (t_in 898 (by decide +kernel))
theorem ml_L_30 : tML RL 30 yX7_table := Or.inl (t_in 257 (by decide +kernel))
theorem ml_L_34 : tML RL 34 yX8_table := Or.inl (t_in 921 (by decide +kernel))
theorem ml_L_35 : tML RL 35 yX7_clear := Or.inl (t_in 270 (by decide +kernel))
theorem ml_L_38 : tML RL 38 yX8_clear := Or.inl (t_in 927 (by decide +kernel))
theorem ml_L_39 : tML RL 39 yX7_value := Or.inl (t_in 280 (by decide +kernel))
theorem ml_L_43 : tML RL 43 yX8_value := Or.inl (t_in 935 (by decide +kernel))
theorem ml_L_44 : tML RL 44 yX7_essential := Or.inl (t_in 295 (by decide +kernel))
theorem ml_L_47 : tML RL 47 yX8_essential := Or.inl (t_in 943 (by decide +kernel))
theorem ml_L_48 : tML RL 48 yX7_isMonotone := Or.inl (t_in 302 (by decide +kernel))
theorem ml_L_51 : tML RL 51 yX8_isMonotone := Or.inl (t_in 955 (by decide +kernel))
theorem ml_L_52 : tML RL 52 yX7_violatingPoint := Or.inl (t_in 312 (by decide +kernel))
theorem ml_L_55 : tML RL 55 yX8_violatingPoint := Or.inl (t_in 963 (by decide +kernel))
theorem ml_L_56 : tML RL 56 yX7_primeImplicants := Or.inl (t_in 316 (by decide +kernel))
theorem ml_L_59 : tML RL 59 yX8_primeImplicants := Or.inl (t_in 967 (by decide +kernel))
theorem ml_L_60 : tML RL 60 yX7_primeImplicant := Or.inl (t_in 341 (by decide +kernel))
theorem ml_L_63 : tML RL 63 yX8_primeImplicant := Or.inl (t_in 983 (by decide +kernel))
theorem ml_L_64 : tML RL 64 yX7_neighbors := Or.inl (t_in 350 (by decide +kernel))
theorem ml_L_67 : tML RL 67 yX8_neighbors := Or.inl (t_in 991 (by decide +kernel))
theorem ml_L_68 : tML RL 68 yX7_inducedPath := Or.inl (t_in 358 (by decide +kernel))
theorem ml_L_71 : tML RL 71 yX8_inducedPath := Or.inl (t_in 1003 (by decide +kernel))
theorem ml_L_72 : tML RL 72 yX7_badClique := Or.inl (t_in 378 (by decide +kernel))
theorem ml_L_75 : tML RL 75 yX8_badClique := Or.inl (t_in 1016 (by decide +kernel))
theorem ml_L_76 : tML RL 76 yX7_reason := Or.inl (t_in 394 (by decide +kernel))
theorem ml_L_79 : tML RL 79 yX8_reason := Or.inl (t_in 1032 (by decide +kernel))
theorem ml_L_80 : tML RL 80 yX7_nodes := Or.inl (t_in 402 (by decide +kernel))
theorem ml_L_83 : tML RL 83 yX8_nodes := Or.inl (t_in 1040 (by decide +kernel))
theorem ml_L_84 : tML RL 84 yX7_nodeType := Or.inl (t_in 433 (by decide +kernel))
theorem ml_L_87 : tML RL 87 yX8_nodeType := Or.inl (t_in 1056 (by decide +kernel))
theorem ml_L_88 : tML RL 88 yX7_parent := Or.inl (t_in 442 (by decide +kernel))
theorem ml_L_91 : tML RL 91 yX8_parent := Or.inl (t_in 1064 (by decide +kernel))
theorem ml_L_92 : tML RL 92 yX7_depth := Or.inl (t_in 446 (by decide +kernel))
theorem ml_L_95 : tML RL 95 yX8_depth := Or.inl (t_in 1068 (by decide +kernel))
theorem ml_L_96 : tML RL 96 yX7_writeFormula := Or.inl (t_in 459 (by decide +kernel))
theorem ml_L_99 : tML RL 99 yX8_writeFormula := Or.inl (t_in 1072 (by decide +kernel))
theorem ml_L_100 : tML RL 100 yX7_output := Or.inl (t_in 481 (by decide +kernel))
theorem ml_L_103 : tML RL 103 yX8_output := Or.inl (t_in 1084 (by decide +kernel))
theorem ml_L_104 : tML RL 104 yX7_feed := Or.inl (t_in 485 (by decide +kernel))
theorem ml_L_107 : tML RL 107 yX8_feed := Or.inl (t_in 1088 (by decide +kernel))
theorem ml_L_108 : tML RL 108 yX7_parse := Or.inl (t_in 493 (by decide +kernel))
theorem ml_L_111 : tML RL 111 yX8_parse := Or.inl (t_in 1093 (by decide +kernel))
theorem ml_L_112 : tML RL 112 yX7_combine := Or.inl (t_in 529 (by decide +kernel))
theorem ml_L_116 : tML RL 116 yX8_combine := Or.inl (t_in 1119 (by decide +kernel))
theorem ml_L_117 : tML RL 117 yX7_dual := Or.inl (t_in 536 (by decide +kernel))
theorem ml_L_120 : tML RL 120 yX8_dual := Or.inl (t_in 1124 (by decide +kernel))
theorem ml_L_121 : tML RL 121 yX7_cofactor := Or.inl (t_in 540 (by decide +kernel))
theorem ml_L_124 : tML RL 124 yX8_cofactor := Or.inl (t_in 1128 (by decide +kernel))
theorem ml_L_125 : tML RL 125 yX7_substitute := Or.inl (t_in 554 (by decide +kernel))
theorem ml_L_128 : tML RL 128 yX8_substitute := Or.inl (t_in 1132 (by decide +kernel))
theorem ml_L_129 : tML RL 129 yX7_exchange := Or.inl (t_in 558 (by decide +kernel))
theorem ml_L_132 : tML RL 132 yX8_exchange := Or.inl (t_in 1136 (by decide +kernel))
theorem ml_L_133 : tML RL 133 yX7_random := Or.inl (t_in 562 (by decide +kernel))
theorem ml_L_137 : tML RL 137 yX8_random := Or.inl (t_in 1140 (by decide +kernel))
theorem ml_L_138 : tML RL 138 yX7_readOnceTrials := Or.inl (t_in 574 (by decide +kernel))
theorem ml_L_141 : tML RL 141 yX8_readOnceTrials := Or.inl (t_in 1150 (by decide +kernel))
theorem ml_L_142 : tML RL 142 yX7_addSample := Or.inl (t_in 578 (by decide +kernel))
theorem ml_L_145 : tML RL 145 yX8_addSample := Or.inl (t_in 1155 (by decide +kernel))
theorem ml_L_146 : tML RL 146 yX7_removeSample := Or.inl (t_in 582 (by decide +kernel))
theorem ml_L_149 : tML RL 149 yX8_removeSample := Or.inl (t_in 1159 (by decide +kernel))
theorem ml_L_150 : tML RL 150 yX7_extensions := Or.inl (t_in 586 (by decide +kernel))
theorem ml_L_153 : tML RL 153 yX8_extensions := Or.inl (t_in 1163 (by decide +kernel))
theorem ml_L_154 : tML RL 154 yX7_extension := Or.inl (t_in 657 (by decide +kernel))
theorem ml_L_157 : tML RL 157 yX8_extension := Or.inl (t_in 1171 (by decide +kernel))
theorem ml_L_158 : tML RL 158 yX7_simplestExtension := Or.inl (t_in 661 (by decide +kernel))
theorem ml_L_162 : tML RL 162 yX8_simplestExtension := Or.inl (t_in 1175 (by decide +kernel))
theorem ml_L_163 : tML RL 163 yX7_readOnceCount := Or.inl (t_in 666 (by decide +kernel))
theorem ml_L_166 : tML RL 166 yX8_readOnceCount := Or.inl (t_in 1179 (by decide +kernel))
theorem ml_L_167 : tML RL 167 yX7_addStep := Or.inl (t_in 670 (by decide +kernel))
theorem ml_L_170 : tML RL 170 yX8_addStep := Or.inl (t_in 1183 (by decide +kernel))
theorem ml_L_171 : tML RL 171 yX7_clearSteps := Or.inl (t_in 678 (by decide +kernel))
theorem ml_L_174 : tML RL 174 yX8_clearSteps := Or.inl (t_in 1187 (by decide +kernel))
theorem ml_L_175 : tML RL 175 yX7_runSteps := Or.inl (t_in 682 (by decide +kernel))
theorem ml_L_178 : tML RL 178 yX8_runSteps := Or.inl (t_in 1191 (by decide +kernel))
theorem ml_L_179 : tML RL 179 yX7_undo := Or.inl (t_in 693 (by decide +kernel))
theorem ml_L_182 : tML RL 182 yX8_undo := Or.inl (t_in 1202 (by decide +kernel))
theorem ml_L_183 : tML RL 183 yX7_save := Or.inl (t_in 701 (by decide +kernel))
theorem ml_L_186 : tML RL 186 yX8_save := Or.inl (t_in 1206 (by decide +kernel))
theorem ml_L_187 : tML RL 187 yX7_restore := Or.inl (t_in 710 (by decide +kernel))
theorem ml_L_190 : tML RL 190 yX8_restore := Or.inl (t_in 1210 (by decide +kernel))
theorem ml_L_191 : tML RL 191 yX7_createArray := Or.inl (t_in 714 (by decide +kernel))
theorem ml_L_194 : tML RL 194 yX8_createArray := Or.inl (t_in 1215 (by decide +kernel))
theorem ml_L_195 : tML RL 195 yX7_setElement := Or.inl (t_in 718 (by decide +kernel))
theorem ml_L_198 : tML RL 198 yX8_setElement := Or.inl (t_in 1222 (by decide +kernel))
theorem ml_L_199 : tML RL 199 yX7_element := Or.inl (t_in 722 (by decide +kernel))
theorem ml_L_203 : tML RL 203 yX8_element := Or.inl (t_in 1226 (by decide +kernel))
theorem ml_L_204 : tML RL 204 yX7_compare := Or.inl (t_in 727 (by decide +kernel))
theorem ml_L_207 : tML RL 207 yX8_compare := Or.inl (t_in 1231 (by decide +kernel))
theorem ml_L_208 : tML RL 208 yX7_usedSlots := Or.inl (t_in 291 (by decide +kernel))
theorem ml_L_211 : tML RL 211 yX8_usedSlots := Or.inl (t_in 1235 (by decide +kernel))
theorem ml_L_212 : tML RL 212 yX7_undoable := Or.inl (t_in 697 (by decide +kernel))
theorem ml_L_215 : tML RL 215 yX8_undoable := Or.inl (t_in 1236 (by decide +kernel))
theorem ol_X8_1 : Cond.methodLink RX8 1 objectInit ∈ lw_tbl := t_in 736 (by decide +kernel)
theorem fl_X8_7 : tFL RX8 7 8 0 := ⟨RX8, TX8, 39, rfl, by decide, in_X8, Or.inl (t_in 767 (by decide +kernel))⟩
theorem fp_X8_7 : tFP RX8 7 8 0 (.int) false := ⟨RX8, TX8, 39, tyX8, rfl, by decide, in_X8, tyX8_ok, nmX8, rfl, (by decide +kernel), Or.inl ⟨t_in 767 (by decide +kernel), fun h => nomatch h⟩⟩
theorem fl_X8_13 : tFL RX8 13 8 1 := ⟨RX8, TX8, 39, rfl, by decide, in_X8, Or.inl (t_in 768 (by decide +kernel))⟩
theorem fp_X8_13 : tFP RX8 13 8 1 (.int) false := ⟨RX8, TX8, 39, tyX8, rfl, by decide, in_X8, tyX8_ok, nmX8, rfl, (by decide +kernel), Or.inl ⟨t_in 768 (by decide +kernel), fun h => nomatch h⟩⟩
theorem fl_X8_16 : tFL RX8 16 8 2 := ⟨RX8, TX8, 39, rfl, by decide, in_X8, Or.inl (t_in 769 (by decide +kernel))⟩
theorem fp_X8_16 : tFP RX8 16 8 2 (.array .long) true := ⟨RX8, TX8, 39, tyX8, rfl, by decide, in_X8, tyX8_ok, nmX8, rfl, (by decide +kernel), Or.inl ⟨t_in 769 (by decide +kernel), fun _ => rfl⟩⟩
theorem fl_X8_20 : tFL RX8 20 8 3 := ⟨RX8, TX8, 39, rfl, by decide, in_X8, Or.inl (t_in 770 (by decide +kernel))⟩
theorem fp_X8_20 : tFP RX8 20 8 3 (.array .boolean) true := ⟨RX8, TX8, 39, tyX8, rfl, by decide, in_X8, tyX8_ok, nmX8, rfl, (by decide +kernel), Or.inl ⟨t_in 770 (by decide +kernel), fun _ => rfl⟩⟩
theorem fl_X8_24 : tFL RX8 24 8 5 := ⟨RX8, TX8, 39, rfl, by decide, in_X8, Or.inl (t_in 772 (by decide +kernel))⟩
theorem fp_X8_24 : tFP RX8 24 8 5 (.array .int) true := ⟨RX8, TX8, 39, tyX8, rfl, by decide, in_X8, tyX8_ok, nmX8, rfl, (by decide +kernel), Or.inl ⟨t_in 772 (by decide +kernel), fun _ => rfl⟩⟩
theorem fl_X8_28 : tFL RX8 28 8 6 := ⟨RX8, TX8, 39, rfl, by decide, in_X8, Or.inl (t_in 773 (by decide +kernel))⟩
theorem fp_X8_28 : tFP RX8 28 8 6 (.array .long) true := ⟨RX8, TX8, 39, tyX8, rfl, by decide, in_X8, tyX8_ok, nmX8, rfl, (by decide +kernel), Or.inl ⟨t_in 773 (by decide +kernel), fun _ => rfl⟩⟩
theorem fl_X8_31 : tFL RX8 31 8 7 := ⟨RX8, TX8, 39, rfl, by decide, in_X8, Or.inl (t_in 774 (by decide +kernel))⟩
theorem fp_X8_31 : tFP RX8 31 8 7 (.array .boolean) true := ⟨RX8, TX8, 39, tyX8, rfl, by decide, in_X8, tyX8_ok, nmX8, rfl, (by decide +kernel), Or.inl ⟨t_in 774 (by decide +kernel), fun _ => rfl⟩⟩
theorem fl_X8_34 : tFL RX8 34 8 11 := ⟨RX8, TX8, 39, rfl, by decide, in_X8, Or.inl (t_in 778 (by decide +kernel))⟩
theorem fp_X8_34 : tFP RX8 34 8 11 (.array .int) true := ⟨RX8, TX8, 39, tyX8, rfl, by decide, in_X8, tyX8_ok, nmX8, rfl, (by decide +kernel), Or.inl ⟨t_in 778 (by decide +kernel), fun _ => rfl⟩⟩
theorem fl_X8_37 : tFL RX8 37 8 12 := ⟨RX8, TX8, 39, rfl, by decide, in_X8, Or.inl (t_in 779 (by decide +kernel))⟩
theorem fp_X8_37 : tFP RX8 37 8 12 (.array .int) true := ⟨RX8, TX8, 39, tyX8, rfl, by decide, in_X8, tyX8_ok, nmX8, rfl, (by decide +kernel), Or.inl ⟨t_in 779 (by decide +kernel), fun _ => rfl⟩⟩
theorem fl_X8_40 : tFL RX8 40 8 14 := ⟨RX8, TX8, 39, rfl, by decide, in_X8, Or.inl (t_in 781 (by decide +kernel))⟩
theorem fp_X8_40 : tFP RX8 40 8 14 (.array .int) true := ⟨RX8, TX8, 39, tyX8, rfl, by decide, in_X8, tyX8_ok, nmX8, rfl, (by decide +kernel), Or.inl ⟨t_in 781 (by decide +kernel), fun _ => rfl⟩⟩
theorem fl_X8_43 : tFL RX8 43 8 16 := ⟨RX8, TX8, 39, rfl, by decide, in_X8, Or.inl (t_in 783 (by decide +kernel))⟩
theorem fp_X8_43 : tFP RX8 43 8 16 (.array .int) true := ⟨RX8, TX8, 39, tyX8, rfl, by decide, in_X8, tyX8_ok, nmX8, rfl, (by decide +kernel), Or.inl ⟨t_in 783 (by decide +kernel), fun _ => rfl⟩⟩
theorem fl_X8_46 : tFL RX8 46 8 17 := ⟨RX8, TX8, 39, rfl, by decide, in_X8, Or.inl (t_in 784 (by decide +kernel))⟩
theorem fp_X8_46 : tFP RX8 46 8 17 (.array .int) true := ⟨RX8, TX8, 39, tyX8, rfl, by decide, in_X8, tyX8_ok, nmX8, rfl, (by decide +kernel), Or.inl ⟨t_in 784 (by decide +kernel), fun _ => rfl⟩⟩
theorem fl_X8_49 : tFL RX8 49 8 18 := ⟨RX8, TX8, 39, rfl, by decide, in_X8, Or.inl (t_in 785 (by decide +kernel))⟩
theorem fp_X8_49 : tFP RX8 49 8 18 (.int) false := ⟨RX8, TX8, 39, tyX8, rfl, by decide, in_X8, tyX8_ok, nmX8, rfl, (by decide +kernel), Or.inl ⟨t_in 785 (by decide +kernel), fun h => nomatch h⟩⟩
theorem fl_X8_52 : tFL RX8 52 8 22 := ⟨RX8, TX8, 39, rfl, by decide, in_X8, Or.inl (t_in 789 (by decide +kernel))⟩
theorem fp_X8_52 : tFP RX8 52 8 22 (.array .long) true := ⟨RX8, TX8, 39, tyX8, rfl, by decide, in_X8, tyX8_ok, nmX8, rfl, (by decide +kernel), Or.inl ⟨t_in 789 (by decide +kernel), fun _ => rfl⟩⟩
theorem fl_X8_55 : tFL RX8 55 8 23 := ⟨RX8, TX8, 39, rfl, by decide, in_X8, Or.inl (t_in 790 (by decide +kernel))⟩
theorem fp_X8_55 : tFP RX8 55 8 23 (.array .boolean) true := ⟨RX8, TX8, 39, tyX8, rfl, by decide, in_X8, tyX8_ok, nmX8, rfl, (by decide +kernel), Or.inl ⟨t_in 790 (by decide +kernel), fun _ => rfl⟩⟩
theorem fl_X8_58 : tFL RX8 58 8 24 := ⟨RX8, TX8, 39, rfl, by decide, in_X8, Or.inl (t_in 791 (by decide +kernel))⟩
theorem fp_X8_58 : tFP RX8 58 8 24 (.array .int) true := ⟨RX8, TX8, 39, tyX8, rfl, by decide, in_X8, tyX8_ok, nmX8, rfl, (by decide +kernel), Or.inl ⟨t_in 791 (by decide +kernel), fun _ => rfl⟩⟩
theorem fl_X8_61 : tFL RX8 61 8 25 := ⟨RX8, TX8, 39, rfl, by decide, in_X8, Or.inl (t_in 792 (by decide +kernel))⟩
theorem fp_X8_61 : tFP RX8 61 8 25 (.array .int) true := ⟨RX8, TX8, 39, tyX8, rfl, by decide, in_X8, tyX8_ok, nmX8, rfl, (by decide +kernel), Or.inl ⟨t_in 792 (by decide +kernel), fun _ => rfl⟩⟩
theorem fl_X8_64 : tFL RX8 64 8 28 := ⟨RX8, TX8, 39, rfl, by decide, in_X8, Or.inl (t_in 795 (by decide +kernel))⟩
theorem fp_X8_64 : tFP RX8 64 8 28 (.array .int) true := ⟨RX8, TX8, 39, tyX8, rfl, by decide, in_X8, tyX8_ok, nmX8, rfl, (by decide +kernel), Or.inl ⟨t_in 795 (by decide +kernel), fun _ => rfl⟩⟩
theorem fl_X8_67 : tFL RX8 67 8 29 := ⟨RX8, TX8, 39, rfl, by decide, in_X8, Or.inl (t_in 796 (by decide +kernel))⟩
theorem fp_X8_67 : tFP RX8 67 8 29 (.array .int) true := ⟨RX8, TX8, 39, tyX8, rfl, by decide, in_X8, tyX8_ok, nmX8, rfl, (by decide +kernel), Or.inl ⟨t_in 796 (by decide +kernel), fun _ => rfl⟩⟩
theorem fl_X8_70 : tFL RX8 70 8 35 := ⟨RX8, TX8, 39, rfl, by decide, in_X8, Or.inl (t_in 802 (by decide +kernel))⟩
theorem fp_X8_70 : tFP RX8 70 8 35 (.array .long) true := ⟨RX8, TX8, 39, tyX8, rfl, by decide, in_X8, tyX8_ok, nmX8, rfl, (by decide +kernel), Or.inl ⟨t_in 802 (by decide +kernel), fun _ => rfl⟩⟩
theorem fl_X8_73 : tFL RX8 73 8 36 := ⟨RX8, TX8, 39, rfl, by decide, in_X8, Or.inl (t_in 803 (by decide +kernel))⟩
theorem fp_X8_73 : tFP RX8 73 8 36 (.array .long) true := ⟨RX8, TX8, 39, tyX8, rfl, by decide, in_X8, tyX8_ok, nmX8, rfl, (by decide +kernel), Or.inl ⟨t_in 803 (by decide +kernel), fun _ => rfl⟩⟩
theorem fl_X8_76 : tFL RX8 76 8 37 := ⟨RX8, TX8, 39, rfl, by decide, in_X8, Or.inl (t_in 804 (by decide +kernel))⟩
theorem fp_X8_76 : tFP RX8 76 8 37 (.array .int) true := ⟨RX8, TX8, 39, tyX8, rfl, by decide, in_X8, tyX8_ok, nmX8, rfl, (by decide +kernel), Or.inl ⟨t_in 804 (by decide +kernel), fun _ => rfl⟩⟩
theorem fl_X8_79 : tFL RX8 79 8 38 := ⟨RX8, TX8, 39, rfl, by decide, in_X8, Or.inl (t_in 805 (by decide +kernel))⟩
theorem fp_X8_79 : tFP RX8 79 8 38 (.array .int) true := ⟨RX8, TX8, 39, tyX8, rfl, by decide, in_X8, tyX8_ok, nmX8, rfl, (by decide +kernel), Or.inl ⟨t_in 805 (by decide +kernel), fun _ => rfl⟩⟩
theorem ml_X8_82 : tML RX8 82 yX8_listFunctions := Or.inl (t_in 737 (by decide +kernel))
theorem kc_X8_85 : Cond.constantLong RX8 85 (7) ∈ lw_tbl := t_in 905 (by decide +kernel)
theorem ml_X8_87 : tML RX8 87 yX8_isIn := Or.inl (t_in 891 (by decide +kernel))
theorem ml_X8_91 : tML RX8 91 yX8_at := Or.inl (t_in 918 (by decide +kernel))
theorem fl_X8_95 : tFL RX8 95 8 4 := ⟨RX8, TX8, 39, rfl, by decide, in_X8, Or.inl (t_in 771 (by decide +kernel))⟩
theorem fp_X8_95 : tFP RX8 95 8 4 (.int) false := ⟨RX8, TX8, 39, tyX8, rfl, by decide, in_X8, tyX8_ok, nmX8, rfl, (by decide +kernel), Or.inl ⟨t_in 771 (by decide +kernel), fun h => nomatch h⟩⟩
theorem ml_X8_98 : tML RX8 98 yX8_record := Or.inl (t_in 910 (by decide +kernel))
theorem ml_X8_102 : tML RX8 102 yX8_ones := Or.inl (t_in 914 (by decide +kernel))
theorem kc_X8_106 : Cond.constantLong RX8 106 (5) ∈ lw_tbl := t_in 890 (by decide +kernel)
theorem fl_X8_108 : tFL RX8 108 8 8 := ⟨RX8, TX8, 39, rfl, by decide, in_X8, Or.inl (t_in 775 (by decide +kernel))⟩
theorem fp_X8_108 : tFP RX8 108 8 8 (.long) false := ⟨RX8, TX8, 39, tyX8, rfl, by decide, in_X8, tyX8_ok, nmX8, rfl, (by decide +kernel), Or.inl ⟨t_in 775 (by decide +kernel), fun h => nomatch h⟩⟩
theorem fl_X8_112 : tFL RX8 112 8 9 := ⟨RX8, TX8, 39, rfl, by decide, in_X8, Or.inl (t_in 776 (by decide +kernel))⟩
theorem fp_X8_112 : tFP RX8 112 8 9 (.long) false := ⟨RX8, TX8, 39, tyX8, rfl, by decide, in_X8, tyX8_ok, nmX8, rfl, (by decide +kernel), Or.inl ⟨t_in 776 (by decide +kernel), fun h => nomatch h⟩⟩
theorem fl_X8_115 : tFL RX8 115 8 10 := ⟨RX8, TX8, 39, rfl, by decide, in_X8, Or.inl (t_in 777 (by decide +kernel))⟩
theorem fp_X8_115 : tFP RX8 115 8 10 (.int) false := ⟨RX8, TX8, 39, tyX8, rfl, by decide, in_X8, tyX8_ok, nmX8, rfl, (by decide +kernel), Or.inl ⟨t_in 777 (by decide +kernel), fun h => nomatch h⟩⟩
theorem ml_X8_118 : tML RX8 118 yX8_isSlot := Or.inl (t_in 902 (by decide +kernel))
theorem ml_X8_122 : tML RX8 122 yX8_store := Or.inl (t_in 906 (by decide +kernel))
theorem kc_X8_126 : Cond.constantLong RX8 126 (-2) ∈ lw_tbl := t_in 925 (by decide +kernel)
theorem kc_X8_128 : Cond.constantLong RX8 128 (-3) ∈ lw_tbl := t_in 926 (by decide +kernel)
theorem ml_X8_130 : tML RX8 130 yX8_usedSlots := Or.inl (t_in 931 (by decide +kernel))
theorem ml_X8_134 : tML RX8 134 yX8_isPoint := Or.inl (t_in 939 (by decide +kernel))
theorem ml_X8_137 : tML RX8 137 yX8_wrong := Or.inl (t_in 947 (by decide +kernel))
theorem ml_X8_141 : tML RX8 141 yX8_essentialOf := Or.inl (t_in 951 (by decide +kernel))
theorem ml_X8_144 : tML RX8 144 yX8_violation := Or.inl (t_in 959 (by decide +kernel))
theorem ml_X8_147 : tML RX8 147 yX8_isPrime := Or.inl (t_in 979 (by decide +kernel))
theorem ml_X8_150 : tML RX8 150 yX8_wrongOrNot := Or.inl (t_in 971 (by decide +kernel))
theorem ml_X8_153 : tML RX8 153 yX8_primesOf := Or.inl (t_in 975 (by decide +kernel))
theorem ml_X8_156 : tML RX8 156 yX8_primeOf := Or.inl (t_in 987 (by decide +kernel))
theorem fl_X8_160 : tFL RX8 160 8 26 := ⟨RX8, TX8, 39, rfl, by decide, in_X8, Or.inl (t_in 793 (by decide +kernel))⟩
theorem fp_X8_160 : tFP RX8 160 8 26 (.int) false := ⟨RX8, TX8, 39, tyX8, rfl, by decide, in_X8, tyX8_ok, nmX8, rfl, (by decide +kernel), Or.inl ⟨t_in 793 (by decide +kernel), fun h => nomatch h⟩⟩
theorem ml_X8_163 : tML RX8 163 yX8_isVariable := Or.inl (t_in 995 (by decide +kernel))
theorem ml_X8_166 : tML RX8 166 yX8_graph := Or.inl (t_in 999 (by decide +kernel))
theorem ml_X8_170 : tML RX8 170 yX8_areNear := Or.inl (t_in 1012 (by decide +kernel))
theorem kc_X8_174 : Cond.constantLong RX8 174 (3) ∈ lw_tbl := t_in 1007 (by decide +kernel)
theorem ml_X8_176 : tML RX8 176 yX8_path := Or.inl (t_in 1008 (by decide +kernel))
theorem ml_X8_179 : tML RX8 179 yX8_isClique := Or.inl (t_in 1024 (by decide +kernel))
theorem ml_X8_182 : tML RX8 182 yX8_isMaximal := Or.inl (t_in 1028 (by decide +kernel))
theorem ml_X8_185 : tML RX8 185 yX8_badCliqueOf := Or.inl (t_in 1020 (by decide +kernel))
theorem ml_X8_188 : tML RX8 188 yX8_reasonOf := Or.inl (t_in 1036 (by decide +kernel))
theorem fl_X8_191 : tFL RX8 191 8 27 := ⟨RX8, TX8, 39, rfl, by decide, in_X8, Or.inl (t_in 794 (by decide +kernel))⟩
theorem fp_X8_191 : tFP RX8 191 8 27 (.int) false := ⟨RX8, TX8, 39, tyX8, rfl, by decide, in_X8, tyX8_ok, nmX8, rfl, (by decide +kernel), Or.inl ⟨t_in 794 (by decide +kernel), fun h => nomatch h⟩⟩
theorem ml_X8_194 : tML RX8 194 yX8_bits := Or.inl (t_in 749 (by decide +kernel))
theorem ml_X8_197 : tML RX8 197 yX8_lowest := Or.inl (t_in 756 (by decide +kernel))
theorem ml_X8_200 : tML RX8 200 yX8_component := Or.inl (t_in 1052 (by decide +kernel))
theorem ml_X8_204 : tML RX8 204 yX8_grow := Or.inl (t_in 1048 (by decide +kernel))
theorem ml_X8_208 : tML RX8 208 yX8_tree := Or.inl (t_in 1044 (by decide +kernel))
theorem ml_X8_211 : tML RX8 211 yX8_isNode := Or.inl (t_in 1060 (by decide +kernel))
theorem fl_X8_214 : tFL RX8 214 8 15 := ⟨RX8, TX8, 39, rfl, by decide, in_X8, Or.inl (t_in 782 (by decide +kernel))⟩
theorem fp_X8_214 : tFP RX8 214 8 15 (.int) false := ⟨RX8, TX8, 39, tyX8, rfl, by decide, in_X8, tyX8_ok, nmX8, rfl, (by decide +kernel), Or.inl ⟨t_in 782 (by decide +kernel), fun h => nomatch h⟩⟩
theorem ml_X8_217 : tML RX8 217 yX8_put := Or.inl (t_in 1076 (by decide +kernel))
theorem ml_X8_220 : tML RX8 220 yX8_write := Or.inl (t_in 1080 (by decide +kernel))
theorem kc_X8_223 : Cond.constantLong RX8 223 (127) ∈ lw_tbl := t_in 1092 (by decide +kernel)
theorem fl_X8_225 : tFL RX8 225 8 13 := ⟨RX8, TX8, 39, rfl, by decide, in_X8, Or.inl (t_in 780 (by decide +kernel))⟩
theorem fp_X8_225 : tFP RX8 225 8 13 (.int) false := ⟨RX8, TX8, 39, tyX8, rfl, by decide, in_X8, tyX8_ok, nmX8, rfl, (by decide +kernel), Or.inl ⟨t_in 780 (by decide +kernel), fun h => nomatch h⟩⟩
theorem fl_X8_228 : tFL RX8 228 8 30 := ⟨RX8, TX8, 39, rfl, by decide, in_X8, Or.inl (t_in 797 (by decide +kernel))⟩
theorem fp_X8_228 : tFP RX8 228 8 30 (.int) false := ⟨RX8, TX8, 39, tyX8, rfl, by decide, in_X8, tyX8_ok, nmX8, rfl, (by decide +kernel), Or.inl ⟨t_in 797 (by decide +kernel), fun h => nomatch h⟩⟩
theorem fl_X8_231 : tFL RX8 231 8 31 := ⟨RX8, TX8, 39, rfl, by decide, in_X8, Or.inl (t_in 798 (by decide +kernel))⟩
theorem fp_X8_231 : tFP RX8 231 8 31 (.int) false := ⟨RX8, TX8, 39, tyX8, rfl, by decide, in_X8, tyX8_ok, nmX8, rfl, (by decide +kernel), Or.inl ⟨t_in 798 (by decide +kernel), fun h => nomatch h⟩⟩
theorem ml_X8_234 : tML RX8 234 yX8_here := Or.inl (t_in 1109 (by decide +kernel))
theorem kc_X8_237 : Cond.constantLong RX8 237 (97) ∈ lw_tbl := t_in 1113 (by decide +kernel)
theorem fl_X8_239 : tFL RX8 239 8 32 := ⟨RX8, TX8, 39, rfl, by decide, in_X8, Or.inl (t_in 799 (by decide +kernel))⟩
theorem fp_X8_239 : tFP RX8 239 8 32 (.int) false := ⟨RX8, TX8, 39, tyX8, rfl, by decide, in_X8, tyX8_ok, nmX8, rfl, (by decide +kernel), Or.inl ⟨t_in 799 (by decide +kernel), fun h => nomatch h⟩⟩
theorem ml_X8_242 : tML RX8 242 yX8_variable := Or.inl (t_in 741 (by decide +kernel))
theorem ml_X8_246 : tML RX8 246 yX8_all := Or.inl (t_in 763 (by decide +kernel))
theorem ml_X8_250 : tML RX8 250 yX8_fail := Or.inl (t_in 1114 (by decide +kernel))
theorem ml_X8_253 : tML RX8 253 yX8_factor := Or.inl (t_in 1105 (by decide +kernel))
theorem kc_X8_256 : Cond.constantLong RX8 256 (-1) ∈ lw_tbl := t_in 1118 (by decide +kernel)
theorem ml_X8_258 : tML RX8 258 yX8_formula := Or.inl (t_in 1097 (by decide +kernel))
theorem ml_X8_261 : tML RX8 261 yX8_term := Or.inl (t_in 1101 (by decide +kernel))
theorem kc_X8_264 : Cond.constantLong RX8 264 (2) ∈ lw_tbl := t_in 1123 (by decide +kernel)
theorem kc_X8_266 : Cond.constant RX8 266 (1103515245) ∈ lw_tbl := t_in 1149 (by decide +kernel)
theorem kc_X8_267 : Cond.constantLong RX8 267 (12) ∈ lw_tbl := t_in 1144 (by decide +kernel)
theorem ml_X8_269 : tML RX8 269 yX8_randomOf := Or.inl (t_in 1145 (by decide +kernel))
theorem kc_X8_273 : Cond.constantLong RX8 273 (30) ∈ lw_tbl := t_in 1154 (by decide +kernel)
theorem fl_X8_275 : tFL RX8 275 8 34 := ⟨RX8, TX8, 39, rfl, by decide, in_X8, Or.inl (t_in 801 (by decide +kernel))⟩
theorem fp_X8_275 : tFP RX8 275 8 34 (.int) false := ⟨RX8, TX8, 39, tyX8, rfl, by decide, in_X8, tyX8_ok, nmX8, rfl, (by decide +kernel), Or.inl ⟨t_in 801 (by decide +kernel), fun h => nomatch h⟩⟩
theorem ml_X8_278 : tML RX8 278 yX8_make := Or.inl (t_in 745 (by decide +kernel))
theorem ml_X8_282 : tML RX8 282 yX8_join := Or.inl (t_in 752 (by decide +kernel))
theorem fl_X8_286 : tFL RX8 286 8 33 := ⟨RX8, TX8, 39, rfl, by decide, in_X8, Or.inl (t_in 800 (by decide +kernel))⟩
theorem fp_X8_286 : tFP RX8 286 8 33 (.int) false := ⟨RX8, TX8, 39, tyX8, rfl, by decide, in_X8, tyX8_ok, nmX8, rfl, (by decide +kernel), Or.inl ⟨t_in 800 (by decide +kernel), fun h => nomatch h⟩⟩
theorem ml_X8_289 : tML RX8 289 yX8_insert := Or.inl (t_in 759 (by decide +kernel))
theorem ml_X8_292 : tML RX8 292 yX8_agrees := Or.inl (t_in 1167 (by decide +kernel))
theorem ml_X8_296 : tML RX8 296 yX8_combine := Or.inl (t_in 1199 (by decide +kernel))
theorem ml_X8_300 : tML RX8 300 yX8_dual := Or.inl (t_in 1200 (by decide +kernel))
theorem ml_X8_304 : tML RX8 304 yX8_cofactor := Or.inl (t_in 1201 (by decide +kernel))
theorem ml_X8_307 : tML RX8 307 yX8_execute := Or.inl (t_in 1195 (by decide +kernel))
theorem fl_X8_310 : tFL RX8 310 8 19 := ⟨RX8, TX8, 39, rfl, by decide, in_X8, Or.inl (t_in 786 (by decide +kernel))⟩
theorem fp_X8_310 : tFP RX8 310 8 19 (.int) false := ⟨RX8, TX8, 39, tyX8, rfl, by decide, in_X8, tyX8_ok, nmX8, rfl, (by decide +kernel), Or.inl ⟨t_in 786 (by decide +kernel), fun h => nomatch h⟩⟩
theorem fl_X8_313 : tFL RX8 313 8 20 := ⟨RX8, TX8, 39, rfl, by decide, in_X8, Or.inl (t_in 787 (by decide +kernel))⟩
theorem fp_X8_313 : tFP RX8 313 8 20 (.long) false := ⟨RX8, TX8, 39, tyX8, rfl, by decide, in_X8, tyX8_ok, nmX8, rfl, (by decide +kernel), Or.inl ⟨t_in 787 (by decide +kernel), fun h => nomatch h⟩⟩
theorem fl_X8_316 : tFL RX8 316 8 21 := ⟨RX8, TX8, 39, rfl, by decide, in_X8, Or.inl (t_in 788 (by decide +kernel))⟩
theorem fp_X8_316 : tFP RX8 316 8 21 (.long) false := ⟨RX8, TX8, 39, tyX8, rfl, by decide, in_X8, tyX8_ok, nmX8, rfl, (by decide +kernel), Or.inl ⟨t_in 788 (by decide +kernel), fun h => nomatch h⟩⟩
theorem ml_X8_319 : tML RX8 319 yX8_setVariables := Or.inl (t_in 1214 (by decide +kernel))
theorem ml_X8_322 : tML RX8 322 yX8_isArray := Or.inl (t_in 1219 (by decide +kernel))
theorem kc_X8_327 : Cond.constantLong RX8 327 (-9223372036854775808) ∈ lw_tbl := t_in 1230 (by decide +kernel)
theorem kc_J6_265 : Cond.constant RJ6 265 (1431655765) ∈ lw_tbl := t_in 421 (by decide +kernel)
theorem kc_J6_266 : Cond.constant RJ6 266 (858993459) ∈ lw_tbl := t_in 422 (by decide +kernel)
theorem kc_J6_267 : Cond.constant RJ6 267 (252645135) ∈ lw_tbl := t_in 423 (by decide +kernel)
theorem kc_J13_314 : Cond.constantLong RJ13 314 (6148914691236517205) ∈ lw_tbl := t_in 254 (by decide +kernel)
theorem kc_J13_316 : Cond.constantLong RJ13 316 (3689348814741910323) ∈ lw_tbl := t_in 255 (by decide +kernel)
theorem kc_J13_318 : Cond.constantLong RJ13 318 (1085102592571150095) ∈ lw_tbl := t_in 256 (by decide +kernel)
theorem tm_X0_init : tM yX0_init cX0_init 3 none 0 := ⟨t_in 598 (by decide +kernel), ⟨by decide +kernel, by decide +kernel, by decide +kernel⟩, t_in 13 (by decide +kernel), by decide⟩
theorem ti_X0_init : Cond.instanceMethod yX0_init ∈ lw_tbl := t_in 597 (by decide +kernel)
theorem tm_X0_tableAt : tM yX0_tableAt cX0_tableAt 2 (some .long) 1 := ⟨t_in 619 (by decide +kernel), ⟨by decide +kernel, by decide +kernel, by decide +kernel⟩, t_in 13 (by decide +kernel), by decide⟩
theorem ti_X0_tableAt : Cond.instanceMethod yX0_tableAt ∈ lw_tbl ∧ Cond.selects (yX0_tableAt).cls yX0_tableAt yX0_tableAt ∈ lw_tbl := ⟨t_in 617 (by decide +kernel), t_in 618 (by decide +kernel)⟩
theorem tm_X0_supportAt : tM yX0_supportAt cX0_supportAt 2 (some .int) 1 := ⟨t_in 656 (by decide +kernel), ⟨by decide +kernel, by decide +kernel, by decide +kernel⟩, t_in 13 (by decide +kernel), by decide⟩
theorem ti_X0_supportAt : Cond.instanceMethod yX0_supportAt ∈ lw_tbl ∧ Cond.selects (yX0_supportAt).cls yX0_supportAt yX0_supportAt ∈ lw_tbl := ⟨t_in 654 (by decide +kernel), t_in 655 (by decide +kernel)⟩
theorem tm_X0_rootAt : tM yX0_rootAt cX0_rootAt 2 (some .int) 1 := ⟨t_in 625 (by decide +kernel), ⟨by decide +kernel, by decide +kernel, by decide +kernel⟩, t_in 13 (by decide +kernel), by decide⟩
theorem ti_X0_rootAt : Cond.instanceMethod yX0_rootAt ∈ lw_tbl ∧ Cond.selects (yX0_rootAt).cls yX0_rootAt yX0_rootAt ∈ lw_tbl := ⟨t_in 624 (by decide +kernel), t_inS 29 (by decide +kernel)⟩
theorem tm_X0_enter : tM yX0_enter cX0_enter 5 none 3 := ⟨t_in 603 (by decide +kernel), ⟨by decide +kernel, by decide +kernel, by decide +kernel⟩, t_in 13 (by decide +kernel), by decide⟩
theorem ti_X0_enter : Cond.instanceMethod yX0_enter ∈ lw_tbl ∧ Cond.selects (yX0_enter).cls yX0_enter yX0_enter ∈ lw_tbl := ⟨t_in 602 (by decide +kernel), t_inS 26 (by decide +kernel)⟩
theorem tm_X0_enterAll : tM yX0_enterAll cX0_enterAll 5 none 2 := ⟨t_in 608 (by decide +kernel), ⟨by decide +kernel, by decide +kernel, by decide +kernel⟩, t_in 13 (by decide +kernel), by decide⟩
theorem ti_X0_enterAll : Cond.instanceMethod yX0_enterAll ∈ lw_tbl ∧ Cond.selects (yX0_enterAll).cls yX0_enterAll yX0_enterAll ∈ lw_tbl := ⟨t_in 607 (by decide +kernel), t_inS 27 (by decide +kernel)⟩
theorem tm_X0_enterSplit : tM yX0_enterSplit cX0_enterSplit 6 none 3 := ⟨t_in 615 (by decide +kernel), ⟨by decide +kernel, by decide +kernel, by decide +kernel⟩, t_in 13 (by decide +kernel), by decide⟩
theorem ti_X0_enterSplit : Cond.instanceMethod yX0_enterSplit ∈ lw_tbl ∧ Cond.selects (yX0_enterSplit).cls yX0_enterSplit yX0_enterSplit ∈ lw_tbl := ⟨t_in 614 (by decide +kernel), t_inS 28 (by decide +kernel)⟩
theorem tm_X0_enterJoined : tM yX0_enterJoined cX0_enterJoined 7 none 4 := ⟨t_in 629 (by decide +kernel), ⟨by decide +kernel, by decide +kernel, by decide +kernel⟩, t_in 13 (by decide +kernel), by decide⟩
theorem ti_X0_enterJoined : Cond.instanceMethod yX0_enterJoined ∈ lw_tbl ∧ Cond.selects (yX0_enterJoined).cls yX0_enterJoined yX0_enterJoined ∈ lw_tbl := ⟨t_in 628 (by decide +kernel), t_inS 30 (by decide +kernel)⟩
theorem tm_X0_sort : tM yX0_sort cX0_sort 6 none 0 := ⟨t_in 633 (by decide +kernel), ⟨by decide +kernel, by decide +kernel, by decide +kernel⟩, t_in 13 (by decide +kernel), by decide⟩
theorem ti_X0_sort : Cond.instanceMethod yX0_sort ∈ lw_tbl ∧ Cond.selects (yX0_sort).cls yX0_sort yX0_sort ∈ lw_tbl := ⟨t_in 632 (by decide +kernel), t_inS 31 (by decide +kernel)⟩
theorem tm_X0_sink : tM yX0_sink cX0_sink 6 none 2 := ⟨t_in 639 (by decide +kernel), ⟨by decide +kernel, by decide +kernel, by decide +kernel⟩, t_in 13 (by decide +kernel), by decide⟩
theorem ti_X0_sink : Cond.instanceMethod yX0_sink ∈ lw_tbl ∧ Cond.selects (yX0_sink).cls yX0_sink yX0_sink ∈ lw_tbl := ⟨t_in 638 (by decide +kernel), t_inS 32 (by decide +kernel)⟩
theorem tm_X1_init : tM yX1_init cX1_init 1 none 0 := ⟨t_in 109 (by decide +kernel), ⟨by decide +kernel, by decide +kernel, by decide +kernel⟩, t_in 6 (by decide +kernel), by decide⟩
theorem ti_X1_init : Cond.instanceMethod yX1_init ∈ lw_tbl := t_in 108 (by decide +kernel)
theorem tm_X1_fill : tM yX1_fill cX1_fill 2 none 1 := ⟨t_in 413 (by decide +kernel), ⟨by decide +kernel, by decide +kernel, by decide +kernel⟩, t_in 6 (by decide +kernel), by decide⟩
theorem ti_X1_fill : Cond.instanceMethod yX1_fill ∈ lw_tbl ∧ Cond.selects (yX1_fill).cls yX1_fill yX1_fill ∈ lw_tbl := ⟨t_in 411 (by decide +kernel), t_in 412 (by decide +kernel)⟩
theorem tm_X1_grow : tM yX1_grow cX1_grow 7 none 4 := ⟨t_in 417 (by decide +kernel), ⟨by decide +kernel, by decide +kernel, by decide +kernel⟩, t_in 6 (by decide +kernel), by decide⟩
theorem ti_X1_grow : Cond.instanceMethod yX1_grow ∈ lw_tbl ∧ Cond.selects (yX1_grow).cls yX1_grow yX1_grow ∈ lw_tbl := ⟨t_in 416 (by decide +kernel), t_inS 12 (by decide +kernel)⟩
theorem tm_X1_growChildren : tM yX1_growChildren cX1_growChildren 8 none 4 := ⟨t_in 432 (by decide +kernel), ⟨by decide +kernel, by decide +kernel, by decide +kernel⟩, t_in 6 (by decide +kernel), by decide⟩
theorem ti_X1_growChildren : Cond.instanceMethod yX1_growChildren ∈ lw_tbl ∧ Cond.selects (yX1_growChildren).cls yX1_growChildren yX1_growChildren ∈ lw_tbl := ⟨t_in 431 (by decide +kernel), t_inS 13 (by decide +kernel)⟩
theorem tm_X1_component : tM yX1_component cX1_component 8 (some .int) 4 := ⟨t_in 427 (by decide +kernel), ⟨by decide +kernel, by decide +kernel, by decide +kernel⟩, t_in 6 (by decide +kernel), by decide⟩
theorem ts_X1_component : Cond.static yX1_component ∈ lw_tbl := t_in 426 (by decide +kernel)
theorem tm_X1_has : tM yX1_has cX1_has 2 (some .boolean) 1 := ⟨t_in 440 (by decide +kernel), ⟨by decide +kernel, by decide +kernel, by decide +kernel⟩, t_in 6 (by decide +kernel), by decide⟩
theorem ti_X1_has : Cond.instanceMethod yX1_has ∈ lw_tbl ∧ Cond.selects (yX1_has).cls yX1_has yX1_has ∈ lw_tbl := ⟨t_in 438 (by decide +kernel), t_in 439 (by decide +kernel)⟩
theorem tm_X1_depthOfLeaf : tM yX1_depthOfLeaf cX1_depthOfLeaf 3 (some .int) 1 := ⟨t_in 453 (by decide +kernel), ⟨by decide +kernel, by decide +kernel, by decide +kernel⟩, t_in 6 (by decide +kernel), by decide⟩
theorem ti_X1_depthOfLeaf : Cond.instanceMethod yX1_depthOfLeaf ∈ lw_tbl ∧ Cond.selects (yX1_depthOfLeaf).cls yX1_depthOfLeaf yX1_depthOfLeaf ∈ lw_tbl := ⟨t_in 451 (by decide +kernel), t_in 452 (by decide +kernel)⟩
theorem tm_X1_depthOfNode : tM yX1_depthOfNode cX1_depthOfNode 4 (some .int) 1 := ⟨t_in 457 (by decide +kernel), ⟨by decide +kernel, by decide +kernel, by decide +kernel⟩, t_in 6 (by decide +kernel), by decide⟩
theorem ti_X1_depthOfNode : Cond.instanceMethod yX1_depthOfNode ∈ lw_tbl ∧ Cond.selects (yX1_depthOfNode).cls yX1_depthOfNode yX1_depthOfNode ∈ lw_tbl := ⟨t_in 456 (by decide +kernel), t_inS 14 (by decide +kernel)⟩
theorem tm_X2_init : tM yX2_init cX2_init 1 none 0 := ⟨t_in 165 (by decide +kernel), ⟨by decide +kernel, by decide +kernel, by decide +kernel⟩, t_in 8 (by decide +kernel), by decide⟩
theorem ti_X2_init : Cond.instanceMethod yX2_init ∈ lw_tbl := t_in 164 (by decide +kernel)
theorem tm_X2_put : tM yX2_put cX2_put 2 none 1 := ⟨t_in 466 (by decide +kernel), ⟨by decide +kernel, by decide +kernel, by decide +kernel⟩, t_in 8 (by decide +kernel), by decide⟩
theorem ti_X2_put : Cond.instanceMethod yX2_put ∈ lw_tbl ∧ Cond.selects (yX2_put).cls yX2_put yX2_put ∈ lw_tbl := ⟨t_in 464 (by decide +kernel), t_in 465 (by decide +kernel)⟩
theorem tm_X2_putTree : tM yX2_putTree cX2_putTree 2 none 1 := ⟨t_in 470 (by decide +kernel), ⟨by decide +kernel, by decide +kernel, by decide +kernel⟩, t_in 8 (by decide +kernel), by decide⟩
theorem ti_X2_putTree : Cond.instanceMethod yX2_putTree ∈ lw_tbl ∧ Cond.selects (yX2_putTree).cls yX2_putTree yX2_putTree ∈ lw_tbl := ⟨t_in 468 (by decide +kernel), t_in 469 (by decide +kernel)⟩
theorem tm_X2_putNode : tM yX2_putNode cX2_putNode 7 none 3 := ⟨t_in 474 (by decide +kernel), ⟨by decide +kernel, by decide +kernel, by decide +kernel⟩, t_in 8 (by decide +kernel), by decide⟩
theorem ti_X2_putNode : Cond.instanceMethod yX2_putNode ∈ lw_tbl ∧ Cond.selects (yX2_putNode).cls yX2_putNode yX2_putNode ∈ lw_tbl := ⟨t_in 473 (by decide +kernel), t_inS 15 (by decide +kernel)⟩
theorem tm_X2_putChild : tM yX2_putChild cX2_putChild 5 none 3 := ⟨t_in 480 (by decide +kernel), ⟨by decide +kernel, by decide +kernel, by decide +kernel⟩, t_in 8 (by decide +kernel), by decide⟩
theorem ti_X2_putChild : Cond.instanceMethod yX2_putChild ∈ lw_tbl ∧ Cond.selects (yX2_putChild).cls yX2_putChild yX2_putChild ∈ lw_tbl := ⟨t_in 479 (by decide +kernel), t_inS 16 (by decide +kernel)⟩
theorem tm_X3_init : tM yX3_init cX3_init 1 none 0 := ⟨t_in 82 (by decide +kernel), ⟨by decide +kernel, by decide +kernel, by decide +kernel⟩, t_in 5 (by decide +kernel), by decide⟩
theorem ti_X3_init : Cond.instanceMethod yX3_init ∈ lw_tbl := t_in 81 (by decide +kernel)
theorem tm_X3_fill : tM yX3_fill cX3_fill 5 none 2 := ⟨t_in 327 (by decide +kernel), ⟨by decide +kernel, by decide +kernel, by decide +kernel⟩, t_in 5 (by decide +kernel), by decide⟩
theorem ti_X3_fill : Cond.instanceMethod yX3_fill ∈ lw_tbl ∧ Cond.selects (yX3_fill).cls yX3_fill yX3_fill ∈ lw_tbl := ⟨t_in 325 (by decide +kernel), t_in 326 (by decide +kernel)⟩
theorem tm_X3_isMinimal : tM yX3_isMinimal cX3_isMinimal 6 (some .boolean) 3 := ⟨t_in 333 (by decide +kernel), ⟨by decide +kernel, by decide +kernel, by decide +kernel⟩, t_in 5 (by decide +kernel), by decide⟩
theorem ts_X3_isMinimal : Cond.static yX3_isMinimal ∈ lw_tbl := t_in 332 (by decide +kernel)
theorem tm_X3_addPrime : tM yX3_addPrime cX3_addPrime 3 none 1 := ⟨t_in 337 (by decide +kernel), ⟨by decide +kernel, by decide +kernel, by decide +kernel⟩, t_in 5 (by decide +kernel), by decide⟩
theorem ti_X3_addPrime : Cond.instanceMethod yX3_addPrime ∈ lw_tbl ∧ Cond.selects (yX3_addPrime).cls yX3_addPrime yX3_addPrime ∈ lw_tbl := ⟨t_in 336 (by decide +kernel), t_inS 4 (by decide +kernel)⟩
theorem tm_X3_primeAt : tM yX3_primeAt cX3_primeAt 2 (some .int) 1 := ⟨t_in 348 (by decide +kernel), ⟨by decide +kernel, by decide +kernel, by decide +kernel⟩, t_in 5 (by decide +kernel), by decide⟩
theorem ti_X3_primeAt : Cond.instanceMethod yX3_primeAt ∈ lw_tbl ∧ Cond.selects (yX3_primeAt).cls yX3_primeAt yX3_primeAt ∈ lw_tbl := ⟨t_in 346 (by decide +kernel), t_in 347 (by decide +kernel)⟩
theorem tm_X3_areAdjacent : tM yX3_areAdjacent cX3_areAdjacent 3 (some .boolean) 2 := ⟨t_in 369 (by decide +kernel), ⟨by decide +kernel, by decide +kernel, by decide +kernel⟩, t_in 5 (by decide +kernel), by decide⟩
theorem ti_X3_areAdjacent : Cond.instanceMethod yX3_areAdjacent ∈ lw_tbl ∧ Cond.selects (yX3_areAdjacent).cls yX3_areAdjacent yX3_areAdjacent ∈ lw_tbl := ⟨t_in 368 (by decide +kernel), t_inS 6 (by decide +kernel)⟩
theorem tm_X3_findPath : tM yX3_findPath cX3_findPath 3 (some .boolean) 0 := ⟨t_in 365 (by decide +kernel), ⟨by decide +kernel, by decide +kernel, by decide +kernel⟩, t_in 5 (by decide +kernel), by decide⟩
theorem ti_X3_findPath : Cond.instanceMethod yX3_findPath ∈ lw_tbl ∧ Cond.selects (yX3_findPath).cls yX3_findPath yX3_findPath ∈ lw_tbl := ⟨t_in 363 (by decide +kernel), t_in 364 (by decide +kernel)⟩
theorem tm_X3_findPathFrom : tM yX3_findPathFrom cX3_findPathFrom 5 (some .boolean) 2 := ⟨t_in 373 (by decide +kernel), ⟨by decide +kernel, by decide +kernel, by decide +kernel⟩, t_in 5 (by decide +kernel), by decide⟩
theorem ti_X3_findPathFrom : Cond.instanceMethod yX3_findPathFrom ∈ lw_tbl ∧ Cond.selects (yX3_findPathFrom).cls yX3_findPathFrom yX3_findPathFrom ∈ lw_tbl := ⟨t_in 372 (by decide +kernel), t_inS 7 (by decide +kernel)⟩
theorem tm_X3_lowestBadClique : tM yX3_lowestBadClique cX3_lowestBadClique 2 (some .int) 0 := ⟨t_in 385 (by decide +kernel), ⟨by decide +kernel, by decide +kernel, by decide +kernel⟩, t_in 5 (by decide +kernel), by decide⟩
theorem ti_X3_lowestBadClique : Cond.instanceMethod yX3_lowestBadClique ∈ lw_tbl ∧ Cond.selects (yX3_lowestBadClique).cls yX3_lowestBadClique yX3_lowestBadClique ∈ lw_tbl := ⟨t_in 383 (by decide +kernel), t_in 384 (by decide +kernel)⟩
theorem tm_X3_isMaximalClique : tM yX3_isMaximalClique cX3_isMaximalClique 5 (some .boolean) 1 := ⟨t_in 389 (by decide +kernel), ⟨by decide +kernel, by decide +kernel, by decide +kernel⟩, t_in 5 (by decide +kernel), by decide⟩
theorem ti_X3_isMaximalClique : Cond.instanceMethod yX3_isMaximalClique ∈ lw_tbl ∧ Cond.selects (yX3_isMaximalClique).cls yX3_isMaximalClique yX3_isMaximalClique ∈ lw_tbl := ⟨t_in 388 (by decide +kernel), t_inS 8 (by decide +kernel)⟩
theorem tm_X3_isPrime : tM yX3_isPrime cX3_isPrime 3 (some .boolean) 1 := ⟨t_in 393 (by decide +kernel), ⟨by decide +kernel, by decide +kernel, by decide +kernel⟩, t_in 5 (by decide +kernel), by decide⟩
theorem ti_X3_isPrime : Cond.instanceMethod yX3_isPrime ∈ lw_tbl ∧ Cond.selects (yX3_isPrime).cls yX3_isPrime yX3_isPrime ∈ lw_tbl := ⟨t_in 392 (by decide +kernel), t_inS 9 (by decide +kernel)⟩
theorem tm_X4_init : tM yX4_init cX4_init 1 none 0 := ⟨t_in 63 (by decide +kernel), ⟨by decide +kernel, by decide +kernel, by decide +kernel⟩, t_in 4 (by decide +kernel), by decide⟩
theorem ti_X4_init : Cond.instanceMethod yX4_init ∈ lw_tbl := t_in 62 (by decide +kernel)
theorem tm_X4_remember : tM yX4_remember cX4_remember 4 none 2 := ⟨t_in 247 (by decide +kernel), ⟨by decide +kernel, by decide +kernel, by decide +kernel⟩, t_in 4 (by decide +kernel), by decide⟩
theorem ti_X4_remember : Cond.instanceMethod yX4_remember ∈ lw_tbl ∧ Cond.selects (yX4_remember).cls yX4_remember yX4_remember ∈ lw_tbl := ⟨t_in 245 (by decide +kernel), t_in 246 (by decide +kernel)⟩
theorem tm_X4_forget : tM yX4_forget cX4_forget 1 none 0 := ⟨t_in 224 (by decide +kernel), ⟨by decide +kernel, by decide +kernel, by decide +kernel⟩, t_in 4 (by decide +kernel), by decide⟩
theorem ti_X4_forget : Cond.instanceMethod yX4_forget ∈ lw_tbl ∧ Cond.selects (yX4_forget).cls yX4_forget yX4_forget ∈ lw_tbl := ⟨t_in 222 (by decide +kernel), t_in 223 (by decide +kernel)⟩
theorem tm_X5_init : tM yX5_init cX5_init 1 none 0 := ⟨t_in 131 (by decide +kernel), ⟨by decide +kernel, by decide +kernel, by decide +kernel⟩, t_in 7 (by decide +kernel), by decide⟩
theorem ti_X5_init : Cond.instanceMethod yX5_init ∈ lw_tbl := t_in 130 (by decide +kernel)
theorem tm_X5_append : tM yX5_append cX5_append 2 (some .boolean) 1 := ⟨t_in 492 (by decide +kernel), ⟨by decide +kernel, by decide +kernel, by decide +kernel⟩, t_in 7 (by decide +kernel), by decide⟩
theorem ti_X5_append : Cond.instanceMethod yX5_append ∈ lw_tbl ∧ Cond.selects (yX5_append).cls yX5_append yX5_append ∈ lw_tbl := ⟨t_in 490 (by decide +kernel), t_in 491 (by decide +kernel)⟩
theorem tm_X5_readFormula : tM yX5_readFormula cX5_readFormula 4 (some .long) 1 := ⟨t_in 500 (by decide +kernel), ⟨by decide +kernel, by decide +kernel, by decide +kernel⟩, t_in 7 (by decide +kernel), by decide⟩
theorem ti_X5_readFormula : Cond.instanceMethod yX5_readFormula ∈ lw_tbl ∧ Cond.selects (yX5_readFormula).cls yX5_readFormula yX5_readFormula ∈ lw_tbl := ⟨t_in 498 (by decide +kernel), t_in 499 (by decide +kernel)⟩
theorem tm_X5_nextIs : tM yX5_nextIs cX5_nextIs 2 (some .boolean) 1 := ⟨t_in 516 (by decide +kernel), ⟨by decide +kernel, by decide +kernel, by decide +kernel⟩, t_in 7 (by decide +kernel), by decide⟩
theorem ti_X5_nextIs : Cond.instanceMethod yX5_nextIs ∈ lw_tbl ∧ Cond.selects (yX5_nextIs).cls yX5_nextIs yX5_nextIs ∈ lw_tbl := ⟨t_in 515 (by decide +kernel), t_inS 20 (by decide +kernel)⟩
theorem tm_X5_readSum : tM yX5_readSum cX5_readSum 7 (some .long) 1 := ⟨t_in 504 (by decide +kernel), ⟨by decide +kernel, by decide +kernel, by decide +kernel⟩, t_in 7 (by decide +kernel), by decide⟩
theorem ti_X5_readSum : Cond.instanceMethod yX5_readSum ∈ lw_tbl ∧ Cond.selects (yX5_readSum).cls yX5_readSum yX5_readSum ∈ lw_tbl := ⟨t_in 503 (by decide +kernel), t_inS 17 (by decide +kernel)⟩
theorem tm_X5_readProduct : tM yX5_readProduct cX5_readProduct 7 (some .long) 1 := ⟨t_in 508 (by decide +kernel), ⟨by decide +kernel, by decide +kernel, by decide +kernel⟩, t_in 7 (by decide +kernel), by decide⟩
theorem ti_X5_readProduct : Cond.instanceMethod yX5_readProduct ∈ lw_tbl ∧ Cond.selects (yX5_readProduct).cls yX5_readProduct yX5_readProduct ∈ lw_tbl := ⟨t_in 507 (by decide +kernel), t_inS 18 (by decide +kernel)⟩
theorem tm_X5_readFactor : tM yX5_readFactor cX5_readFactor 2 (some .long) 1 := ⟨t_in 512 (by decide +kernel), ⟨by decide +kernel, by decide +kernel, by decide +kernel⟩, t_in 7 (by decide +kernel), by decide⟩
theorem ti_X5_readFactor : Cond.instanceMethod yX5_readFactor ∈ lw_tbl ∧ Cond.selects (yX5_readFactor).cls yX5_readFactor yX5_readFactor ∈ lw_tbl := ⟨t_in 511 (by decide +kernel), t_inS 19 (by decide +kernel)⟩
theorem tm_X5_readOpened : tM yX5_readOpened cX5_readOpened 5 (some .long) 1 := ⟨t_in 520 (by decide +kernel), ⟨by decide +kernel, by decide +kernel, by decide +kernel⟩, t_in 7 (by decide +kernel), by decide⟩
theorem ti_X5_readOpened : Cond.instanceMethod yX5_readOpened ∈ lw_tbl ∧ Cond.selects (yX5_readOpened).cls yX5_readOpened yX5_readOpened ∈ lw_tbl := ⟨t_in 519 (by decide +kernel), t_inS 21 (by decide +kernel)⟩
theorem tm_X5_readAtom : tM yX5_readAtom cX5_readAtom 3 (some .long) 0 := ⟨t_in 525 (by decide +kernel), ⟨by decide +kernel, by decide +kernel, by decide +kernel⟩, t_in 7 (by decide +kernel), by decide⟩
theorem ti_X5_readAtom : Cond.instanceMethod yX5_readAtom ∈ lw_tbl ∧ Cond.selects (yX5_readAtom).cls yX5_readAtom yX5_readAtom ∈ lw_tbl := ⟨t_in 524 (by decide +kernel), t_inS 22 (by decide +kernel)⟩
theorem tm_X6_init : tM yX6_init cX6_init 1 none 0 := ⟨t_in 26 (by decide +kernel), ⟨by decide +kernel, by decide +kernel, by decide +kernel⟩, t_in 2 (by decide +kernel), by decide⟩
theorem ti_X6_init : Cond.instanceMethod yX6_init ∈ lw_tbl := t_in 25 (by decide +kernel)
theorem tm_X6_startAnew : tM yX6_startAnew cX6_startAnew 2 none 1 := ⟨t_in 220 (by decide +kernel), ⟨by decide +kernel, by decide +kernel, by decide +kernel⟩, t_in 2 (by decide +kernel), by decide⟩
theorem ti_X6_startAnew : Cond.instanceMethod yX6_startAnew ∈ lw_tbl ∧ Cond.selects (yX6_startAnew).cls yX6_startAnew yX6_startAnew ∈ lw_tbl := ⟨t_in 218 (by decide +kernel), t_in 219 (by decide +kernel)⟩
theorem tm_X6_copyFrom : tM yX6_copyFrom cX6_copyFrom 2 none 1 := ⟨t_in 708 (by decide +kernel), ⟨by decide +kernel, by decide +kernel, by decide +kernel⟩, t_in 2 (by decide +kernel), by decide⟩
theorem ti_X6_copyFrom : Cond.instanceMethod yX6_copyFrom ∈ lw_tbl ∧ Cond.selects (yX6_copyFrom).cls yX6_copyFrom yX6_copyFrom ∈ lw_tbl := ⟨t_in 706 (by decide +kernel), t_in 707 (by decide +kernel)⟩
theorem tm_X6_holds : tM yX6_holds cX6_holds 2 (some .boolean) 1 := ⟨t_in 268 (by decide +kernel), ⟨by decide +kernel, by decide +kernel, by decide +kernel⟩, t_in 2 (by decide +kernel), by decide⟩
theorem ti_X6_holds : Cond.instanceMethod yX6_holds ∈ lw_tbl ∧ Cond.selects (yX6_holds).cls yX6_holds yX6_holds ∈ lw_tbl := ⟨t_in 266 (by decide +kernel), t_in 267 (by decide +kernel)⟩
theorem tm_X6_usedCount : tM yX6_usedCount cX6_usedCount 3 (some .int) 0 := ⟨t_in 278 (by decide +kernel), ⟨by decide +kernel, by decide +kernel, by decide +kernel⟩, t_in 2 (by decide +kernel), by decide⟩
theorem ti_X6_usedCount : Cond.instanceMethod yX6_usedCount ∈ lw_tbl ∧ Cond.selects (yX6_usedCount).cls yX6_usedCount yX6_usedCount ∈ lw_tbl := ⟨t_in 276 (by decide +kernel), t_in 277 (by decide +kernel)⟩
theorem tm_X6_appendStep : tM yX6_appendStep cX6_appendStep 6 none 4 := ⟨t_in 677 (by decide +kernel), ⟨by decide +kernel, by decide +kernel, by decide +kernel⟩, t_in 2 (by decide +kernel), by decide⟩
theorem ti_X6_appendStep : Cond.instanceMethod yX6_appendStep ∈ lw_tbl ∧ Cond.selects (yX6_appendStep).cls yX6_appendStep yX6_appendStep ∈ lw_tbl := ⟨t_in 675 (by decide +kernel), t_in 676 (by decide +kernel)⟩
theorem tm_X7_init : tM yX7_init cX7_init 1 none 0 := ⟨t_in 18 (by decide +kernel), ⟨by decide +kernel, by decide +kernel, by decide +kernel⟩, t_in 1 (by decide +kernel), by decide⟩
theorem ti_X7_init : Cond.instanceMethod yX7_init ∈ lw_tbl := t_in 17 (by decide +kernel)
theorem tm_X7_setVariables : tM yX7_setVariables cX7_setVariables 3 (some .int) 1 := ⟨t_in 216 (by decide +kernel), ⟨by decide +kernel, by decide +kernel, by decide +kernel⟩, t_in 1 (by decide +kernel), by decide⟩
theorem ti_X7_setVariables : Cond.instanceMethod yX7_setVariables ∈ lw_tbl ∧ Cond.selects (yX7_setVariables).cls yX7_setVariables yX7_setVariables ∈ lw_tbl := ⟨t_in 214 (by decide +kernel), t_in 215 (by decide +kernel)⟩
theorem tm_X7_variables : tM yX7_variables cX7_variables 1 (some .int) 0 := ⟨t_in 228 (by decide +kernel), ⟨by decide +kernel, by decide +kernel, by decide +kernel⟩, t_in 1 (by decide +kernel), by decide⟩
theorem ti_X7_variables : Cond.instanceMethod yX7_variables ∈ lw_tbl ∧ Cond.selects (yX7_variables).cls yX7_variables yX7_variables ∈ lw_tbl := ⟨t_in 226 (by decide +kernel), t_in 227 (by decide +kernel)⟩
theorem tm_X7_setTable : tM yX7_setTable cX7_setTable 4 (some .int) 2 := ⟨t_in 232 (by decide +kernel), ⟨by decide +kernel, by decide +kernel, by decide +kernel⟩, t_in 1 (by decide +kernel), by decide⟩
theorem ti_X7_setTable : Cond.instanceMethod yX7_setTable ∈ lw_tbl ∧ Cond.selects (yX7_setTable).cls yX7_setTable yX7_setTable ∈ lw_tbl := ⟨t_in 230 (by decide +kernel), t_in 231 (by decide +kernel)⟩
theorem tm_X7_table : tM yX7_table cX7_table 3 (some .long) 1 := ⟨t_in 260 (by decide +kernel), ⟨by decide +kernel, by decide +kernel, by decide +kernel⟩, t_in 1 (by decide +kernel), by decide⟩
theorem ti_X7_table : Cond.instanceMethod yX7_table ∈ lw_tbl ∧ Cond.selects (yX7_table).cls yX7_table yX7_table ∈ lw_tbl := ⟨t_in 258 (by decide +kernel), t_in 259 (by decide +kernel)⟩
theorem tm_X7_clear : tM yX7_clear cX7_clear 3 (some .int) 1 := ⟨t_in 273 (by decide +kernel), ⟨by decide +kernel, by decide +kernel, by decide +kernel⟩, t_in 1 (by decide +kernel), by decide⟩
theorem ti_X7_clear : Cond.instanceMethod yX7_clear ∈ lw_tbl ∧ Cond.selects (yX7_clear).cls yX7_clear yX7_clear ∈ lw_tbl := ⟨t_in 271 (by decide +kernel), t_in 272 (by decide +kernel)⟩
theorem tm_X7_value : tM yX7_value cX7_value 4 (some .int) 2 := ⟨t_in 283 (by decide +kernel), ⟨by decide +kernel, by decide +kernel, by decide +kernel⟩, t_in 1 (by decide +kernel), by decide⟩
theorem ti_X7_value : Cond.instanceMethod yX7_value ∈ lw_tbl ∧ Cond.selects (yX7_value).cls yX7_value yX7_value ∈ lw_tbl := ⟨t_in 281 (by decide +kernel), t_in 282 (by decide +kernel)⟩
theorem tm_X7_usedSlots : tM yX7_usedSlots cX7_usedSlots 1 (some .int) 0 := ⟨t_in 294 (by decide +kernel), ⟨by decide +kernel, by decide +kernel, by decide +kernel⟩, t_in 1 (by decide +kernel), by decide⟩
theorem ti_X7_usedSlots : Cond.instanceMethod yX7_usedSlots ∈ lw_tbl ∧ Cond.selects (yX7_usedSlots).cls yX7_usedSlots yX7_usedSlots ∈ lw_tbl := ⟨t_in 292 (by decide +kernel), t_in 293 (by decide +kernel)⟩
theorem tm_X7_essential : tM yX7_essential cX7_essential 3 (some .int) 1 := ⟨t_in 298 (by decide +kernel), ⟨by decide +kernel, by decide +kernel, by decide +kernel⟩, t_in 1 (by decide +kernel), by decide⟩
theorem ti_X7_essential : Cond.instanceMethod yX7_essential ∈ lw_tbl ∧ Cond.selects (yX7_essential).cls yX7_essential yX7_essential ∈ lw_tbl := ⟨t_in 296 (by decide +kernel), t_in 297 (by decide +kernel)⟩
theorem tm_X7_isMonotone : tM yX7_isMonotone cX7_isMonotone 3 (some .int) 1 := ⟨t_in 305 (by decide +kernel), ⟨by decide +kernel, by decide +kernel, by decide +kernel⟩, t_in 1 (by decide +kernel), by decide⟩
theorem ti_X7_isMonotone : Cond.instanceMethod yX7_isMonotone ∈ lw_tbl ∧ Cond.selects (yX7_isMonotone).cls yX7_isMonotone yX7_isMonotone ∈ lw_tbl := ⟨t_in 303 (by decide +kernel), t_in 304 (by decide +kernel)⟩
theorem tm_X7_violatingPoint : tM yX7_violatingPoint cX7_violatingPoint 3 (some .int) 1 := ⟨t_in 315 (by decide +kernel), ⟨by decide +kernel, by decide +kernel, by decide +kernel⟩, t_in 1 (by decide +kernel), by decide⟩
theorem ti_X7_violatingPoint : Cond.instanceMethod yX7_violatingPoint ∈ lw_tbl ∧ Cond.selects (yX7_violatingPoint).cls yX7_violatingPoint yX7_violatingPoint ∈ lw_tbl := ⟨t_in 313 (by decide +kernel), t_in 314 (by decide +kernel)⟩
theorem tm_X7_primeImplicants : tM yX7_primeImplicants cX7_primeImplicants 3 (some .int) 1 := ⟨t_in 319 (by decide +kernel), ⟨by decide +kernel, by decide +kernel, by decide +kernel⟩, t_in 1 (by decide +kernel), by decide⟩
theorem ti_X7_primeImplicants : Cond.instanceMethod yX7_primeImplicants ∈ lw_tbl ∧ Cond.selects (yX7_primeImplicants).cls yX7_primeImplicants yX7_primeImplicants ∈ lw_tbl := ⟨t_in 317 (by decide +kernel), t_in 318 (by decide +kernel)⟩
theorem tm_X7_primeImplicant : tM yX7_primeImplicant cX7_primeImplicant 4 (some .int) 2 := ⟨t_in 344 (by decide +kernel), ⟨by decide +kernel, by decide +kernel, by decide +kernel⟩, t_in 1 (by decide +kernel), by decide⟩
theorem ti_X7_primeImplicant : Cond.instanceMethod yX7_primeImplicant ∈ lw_tbl ∧ Cond.selects (yX7_primeImplicant).cls yX7_primeImplicant yX7_primeImplicant ∈ lw_tbl := ⟨t_in 342 (by decide +kernel), t_in 343 (by decide +kernel)⟩
theorem tm_X7_neighbors : tM yX7_neighbors cX7_neighbors 4 (some .int) 2 := ⟨t_in 353 (by decide +kernel), ⟨by decide +kernel, by decide +kernel, by decide +kernel⟩, t_in 1 (by decide +kernel), by decide⟩
theorem ti_X7_neighbors : Cond.instanceMethod yX7_neighbors ∈ lw_tbl ∧ Cond.selects (yX7_neighbors).cls yX7_neighbors yX7_neighbors ∈ lw_tbl := ⟨t_in 351 (by decide +kernel), t_in 352 (by decide +kernel)⟩
theorem tm_X7_inducedPath : tM yX7_inducedPath cX7_inducedPath 4 (some .int) 2 := ⟨t_in 361 (by decide +kernel), ⟨by decide +kernel, by decide +kernel, by decide +kernel⟩, t_in 1 (by decide +kernel), by decide⟩
theorem ti_X7_inducedPath : Cond.instanceMethod yX7_inducedPath ∈ lw_tbl ∧ Cond.selects (yX7_inducedPath).cls yX7_inducedPath yX7_inducedPath ∈ lw_tbl := ⟨t_in 359 (by decide +kernel), t_in 360 (by decide +kernel)⟩
theorem tm_X7_badClique : tM yX7_badClique cX7_badClique 3 (some .int) 1 := ⟨t_in 381 (by decide +kernel), ⟨by decide +kernel, by decide +kernel, by decide +kernel⟩, t_in 1 (by decide +kernel), by decide⟩
theorem ti_X7_badClique : Cond.instanceMethod yX7_badClique ∈ lw_tbl ∧ Cond.selects (yX7_badClique).cls yX7_badClique yX7_badClique ∈ lw_tbl := ⟨t_in 379 (by decide +kernel), t_in 380 (by decide +kernel)⟩
theorem tm_X7_reason : tM yX7_reason cX7_reason 3 (some .int) 1 := ⟨t_in 397 (by decide +kernel), ⟨by decide +kernel, by decide +kernel, by decide +kernel⟩, t_in 1 (by decide +kernel), by decide⟩
theorem ti_X7_reason : Cond.instanceMethod yX7_reason ∈ lw_tbl ∧ Cond.selects (yX7_reason).cls yX7_reason yX7_reason ∈ lw_tbl := ⟨t_in 395 (by decide +kernel), t_in 396 (by decide +kernel)⟩
theorem tm_X7_nodes : tM yX7_nodes cX7_nodes 3 (some .int) 1 := ⟨t_in 405 (by decide +kernel), ⟨by decide +kernel, by decide +kernel, by decide +kernel⟩, t_in 1 (by decide +kernel), by decide⟩
theorem ti_X7_nodes : Cond.instanceMethod yX7_nodes ∈ lw_tbl ∧ Cond.selects (yX7_nodes).cls yX7_nodes yX7_nodes ∈ lw_tbl := ⟨t_in 403 (by decide +kernel), t_in 404 (by decide +kernel)⟩
theorem tm_X7_nodeType : tM yX7_nodeType cX7_nodeType 4 (some .int) 2 := ⟨t_in 436 (by decide +kernel), ⟨by decide +kernel, by decide +kernel, by decide +kernel⟩, t_in 1 (by decide +kernel), by decide⟩
theorem ti_X7_nodeType : Cond.instanceMethod yX7_nodeType ∈ lw_tbl ∧ Cond.selects (yX7_nodeType).cls yX7_nodeType yX7_nodeType ∈ lw_tbl := ⟨t_in 434 (by decide +kernel), t_in 435 (by decide +kernel)⟩
theorem tm_X7_parent : tM yX7_parent cX7_parent 4 (some .int) 2 := ⟨t_in 445 (by decide +kernel), ⟨by decide +kernel, by decide +kernel, by decide +kernel⟩, t_in 1 (by decide +kernel), by decide⟩
theorem ti_X7_parent : Cond.instanceMethod yX7_parent ∈ lw_tbl ∧ Cond.selects (yX7_parent).cls yX7_parent yX7_parent ∈ lw_tbl := ⟨t_in 443 (by decide +kernel), t_in 444 (by decide +kernel)⟩
theorem tm_X7_depth : tM yX7_depth cX7_depth 4 (some .int) 2 := ⟨t_in 449 (by decide +kernel), ⟨by decide +kernel, by decide +kernel, by decide +kernel⟩, t_in 1 (by decide +kernel), by decide⟩
theorem ti_X7_depth : Cond.instanceMethod yX7_depth ∈ lw_tbl ∧ Cond.selects (yX7_depth).cls yX7_depth yX7_depth ∈ lw_tbl := ⟨t_in 447 (by decide +kernel), t_in 448 (by decide +kernel)⟩
theorem tm_X7_writeFormula : tM yX7_writeFormula cX7_writeFormula 3 (some .int) 1 := ⟨t_in 462 (by decide +kernel), ⟨by decide +kernel, by decide +kernel, by decide +kernel⟩, t_in 1 (by decide +kernel), by decide⟩
theorem ti_X7_writeFormula : Cond.instanceMethod yX7_writeFormula ∈ lw_tbl ∧ Cond.selects (yX7_writeFormula).cls yX7_writeFormula yX7_writeFormula ∈ lw_tbl := ⟨t_in 460 (by decide +kernel), t_in 461 (by decide +kernel)⟩
theorem tm_X7_output : tM yX7_output cX7_output 2 (some .int) 1 := ⟨t_in 484 (by decide +kernel), ⟨by decide +kernel, by decide +kernel, by decide +kernel⟩, t_in 1 (by decide +kernel), by decide⟩
theorem ti_X7_output : Cond.instanceMethod yX7_output ∈ lw_tbl ∧ Cond.selects (yX7_output).cls yX7_output yX7_output ∈ lw_tbl := ⟨t_in 482 (by decide +kernel), t_in 483 (by decide +kernel)⟩
theorem tm_X7_feed : tM yX7_feed cX7_feed 2 (some .int) 1 := ⟨t_in 488 (by decide +kernel), ⟨by decide +kernel, by decide +kernel, by decide +kernel⟩, t_in 1 (by decide +kernel), by decide⟩
theorem ti_X7_feed : Cond.instanceMethod yX7_feed ∈ lw_tbl ∧ Cond.selects (yX7_feed).cls yX7_feed yX7_feed ∈ lw_tbl := ⟨t_in 486 (by decide +kernel), t_in 487 (by decide +kernel)⟩
theorem tm_X7_parse : tM yX7_parse cX7_parse 4 (some .int) 1 := ⟨t_in 496 (by decide +kernel), ⟨by decide +kernel, by decide +kernel, by decide +kernel⟩, t_in 1 (by decide +kernel), by decide⟩
theorem ti_X7_parse : Cond.instanceMethod yX7_parse ∈ lw_tbl ∧ Cond.selects (yX7_parse).cls yX7_parse yX7_parse ∈ lw_tbl := ⟨t_in 494 (by decide +kernel), t_in 495 (by decide +kernel)⟩
theorem tm_X7_combine : tM yX7_combine cX7_combine 5 (some .int) 4 := ⟨t_in 532 (by decide +kernel), ⟨by decide +kernel, by decide +kernel, by decide +kernel⟩, t_in 1 (by decide +kernel), by decide⟩
theorem ti_X7_combine : Cond.instanceMethod yX7_combine ∈ lw_tbl ∧ Cond.selects (yX7_combine).cls yX7_combine yX7_combine ∈ lw_tbl := ⟨t_in 530 (by decide +kernel), t_in 531 (by decide +kernel)⟩
theorem tm_X7_dual : tM yX7_dual cX7_dual 9 (some .int) 2 := ⟨t_in 539 (by decide +kernel), ⟨by decide +kernel, by decide +kernel, by decide +kernel⟩, t_in 1 (by decide +kernel), by decide⟩
theorem ti_X7_dual : Cond.instanceMethod yX7_dual ∈ lw_tbl ∧ Cond.selects (yX7_dual).cls yX7_dual yX7_dual ∈ lw_tbl := ⟨t_in 537 (by decide +kernel), t_in 538 (by decide +kernel)⟩
theorem tm_X7_cofactor : tM yX7_cofactor cX7_cofactor 7 (some .int) 4 := ⟨t_in 543 (by decide +kernel), ⟨by decide +kernel, by decide +kernel, by decide +kernel⟩, t_in 1 (by decide +kernel), by decide⟩
theorem ti_X7_cofactor : Cond.instanceMethod yX7_cofactor ∈ lw_tbl ∧ Cond.selects (yX7_cofactor).cls yX7_cofactor yX7_cofactor ∈ lw_tbl := ⟨t_in 541 (by decide +kernel), t_in 542 (by decide +kernel)⟩
theorem tm_X7_substitute : tM yX7_substitute cX7_substitute 5 (some .int) 4 := ⟨t_in 557 (by decide +kernel), ⟨by decide +kernel, by decide +kernel, by decide +kernel⟩, t_in 1 (by decide +kernel), by decide⟩
theorem ti_X7_substitute : Cond.instanceMethod yX7_substitute ∈ lw_tbl ∧ Cond.selects (yX7_substitute).cls yX7_substitute yX7_substitute ∈ lw_tbl := ⟨t_in 555 (by decide +kernel), t_in 556 (by decide +kernel)⟩
theorem tm_X7_exchange : tM yX7_exchange cX7_exchange 11 (some .int) 4 := ⟨t_in 561 (by decide +kernel), ⟨by decide +kernel, by decide +kernel, by decide +kernel⟩, t_in 1 (by decide +kernel), by decide⟩
theorem ti_X7_exchange : Cond.instanceMethod yX7_exchange ∈ lw_tbl ∧ Cond.selects (yX7_exchange).cls yX7_exchange yX7_exchange ∈ lw_tbl := ⟨t_in 559 (by decide +kernel), t_in 560 (by decide +kernel)⟩
theorem tm_X7_random : tM yX7_random cX7_random 4 (some .int) 3 := ⟨t_in 565 (by decide +kernel), ⟨by decide +kernel, by decide +kernel, by decide +kernel⟩, t_in 1 (by decide +kernel), by decide⟩
theorem ti_X7_random : Cond.instanceMethod yX7_random ∈ lw_tbl ∧ Cond.selects (yX7_random).cls yX7_random yX7_random ∈ lw_tbl := ⟨t_in 563 (by decide +kernel), t_in 564 (by decide +kernel)⟩
theorem tm_X7_readOnceTrials : tM yX7_readOnceTrials cX7_readOnceTrials 6 (some .int) 3 := ⟨t_in 577 (by decide +kernel), ⟨by decide +kernel, by decide +kernel, by decide +kernel⟩, t_in 1 (by decide +kernel), by decide⟩
theorem ti_X7_readOnceTrials : Cond.instanceMethod yX7_readOnceTrials ∈ lw_tbl ∧ Cond.selects (yX7_readOnceTrials).cls yX7_readOnceTrials yX7_readOnceTrials ∈ lw_tbl := ⟨t_in 575 (by decide +kernel), t_in 576 (by decide +kernel)⟩
theorem tm_X7_addSample : tM yX7_addSample cX7_addSample 3 (some .int) 2 := ⟨t_in 581 (by decide +kernel), ⟨by decide +kernel, by decide +kernel, by decide +kernel⟩, t_in 1 (by decide +kernel), by decide⟩
theorem ti_X7_addSample : Cond.instanceMethod yX7_addSample ∈ lw_tbl ∧ Cond.selects (yX7_addSample).cls yX7_addSample yX7_addSample ∈ lw_tbl := ⟨t_in 579 (by decide +kernel), t_in 580 (by decide +kernel)⟩
theorem tm_X7_removeSample : tM yX7_removeSample cX7_removeSample 2 (some .int) 1 := ⟨t_in 585 (by decide +kernel), ⟨by decide +kernel, by decide +kernel, by decide +kernel⟩, t_in 1 (by decide +kernel), by decide⟩
theorem ti_X7_removeSample : Cond.instanceMethod yX7_removeSample ∈ lw_tbl ∧ Cond.selects (yX7_removeSample).cls yX7_removeSample yX7_removeSample ∈ lw_tbl := ⟨t_in 583 (by decide +kernel), t_in 584 (by decide +kernel)⟩
theorem tm_X7_extensions : tM yX7_extensions cX7_extensions 4 (some .int) 0 := ⟨t_in 589 (by decide +kernel), ⟨by decide +kernel, by decide +kernel, by decide +kernel⟩, t_in 1 (by decide +kernel), by decide⟩
theorem ti_X7_extensions : Cond.instanceMethod yX7_extensions ∈ lw_tbl ∧ Cond.selects (yX7_extensions).cls yX7_extensions yX7_extensions ∈ lw_tbl := ⟨t_in 587 (by decide +kernel), t_in 588 (by decide +kernel)⟩
theorem tm_X7_extension : tM yX7_extension cX7_extension 5 (some .long) 1 := ⟨t_in 660 (by decide +kernel), ⟨by decide +kernel, by decide +kernel, by decide +kernel⟩, t_in 1 (by decide +kernel), by decide⟩
theorem ti_X7_extension : Cond.instanceMethod yX7_extension ∈ lw_tbl ∧ Cond.selects (yX7_extension).cls yX7_extension yX7_extension ∈ lw_tbl := ⟨t_in 658 (by decide +kernel), t_in 659 (by decide +kernel)⟩
theorem tm_X7_simplestExtension : tM yX7_simplestExtension cX7_simplestExtension 7 (some .long) 0 := ⟨t_in 664 (by decide +kernel), ⟨by decide +kernel, by decide +kernel, by decide +kernel⟩, t_in 1 (by decide +kernel), by decide⟩
theorem ti_X7_simplestExtension : Cond.instanceMethod yX7_simplestExtension ∈ lw_tbl ∧ Cond.selects (yX7_simplestExtension).cls yX7_simplestExtension yX7_simplestExtension ∈ lw_tbl := ⟨t_in 662 (by decide +kernel), t_in 663 (by decide +kernel)⟩
theorem tm_X7_readOnceCount : tM yX7_readOnceCount cX7_readOnceCount 6 (some .int) 1 := ⟨t_in 669 (by decide +kernel), ⟨by decide +kernel, by decide +kernel, by decide +kernel⟩, t_in 1 (by decide +kernel), by decide⟩
theorem ti_X7_readOnceCount : Cond.instanceMethod yX7_readOnceCount ∈ lw_tbl ∧ Cond.selects (yX7_readOnceCount).cls yX7_readOnceCount yX7_readOnceCount ∈ lw_tbl := ⟨t_in 667 (by decide +kernel), t_in 668 (by decide +kernel)⟩
theorem tm_X7_addStep : tM yX7_addStep cX7_addStep 5 (some .int) 4 := ⟨t_in 673 (by decide +kernel), ⟨by decide +kernel, by decide +kernel, by decide +kernel⟩, t_in 1 (by decide +kernel), by decide⟩
theorem ti_X7_addStep : Cond.instanceMethod yX7_addStep ∈ lw_tbl ∧ Cond.selects (yX7_addStep).cls yX7_addStep yX7_addStep ∈ lw_tbl := ⟨t_in 671 (by decide +kernel), t_in 672 (by decide +kernel)⟩
theorem tm_X7_clearSteps : tM yX7_clearSteps cX7_clearSteps 2 (some .int) 0 := ⟨t_in 681 (by decide +kernel), ⟨by decide +kernel, by decide +kernel, by decide +kernel⟩, t_in 1 (by decide +kernel), by decide⟩
theorem ti_X7_clearSteps : Cond.instanceMethod yX7_clearSteps ∈ lw_tbl ∧ Cond.selects (yX7_clearSteps).cls yX7_clearSteps yX7_clearSteps ∈ lw_tbl := ⟨t_in 679 (by decide +kernel), t_in 680 (by decide +kernel)⟩
theorem tm_X7_runSteps : tM yX7_runSteps cX7_runSteps 3 (some .int) 0 := ⟨t_in 685 (by decide +kernel), ⟨by decide +kernel, by decide +kernel, by decide +kernel⟩, t_in 1 (by decide +kernel), by decide⟩
theorem ti_X7_runSteps : Cond.instanceMethod yX7_runSteps ∈ lw_tbl ∧ Cond.selects (yX7_runSteps).cls yX7_runSteps yX7_runSteps ∈ lw_tbl := ⟨t_in 683 (by decide +kernel), t_in 684 (by decide +kernel)⟩
theorem tm_X7_undo : tM yX7_undo cX7_undo 2 (some .int) 0 := ⟨t_in 696 (by decide +kernel), ⟨by decide +kernel, by decide +kernel, by decide +kernel⟩, t_in 1 (by decide +kernel), by decide⟩
theorem ti_X7_undo : Cond.instanceMethod yX7_undo ∈ lw_tbl ∧ Cond.selects (yX7_undo).cls yX7_undo yX7_undo ∈ lw_tbl := ⟨t_in 694 (by decide +kernel), t_in 695 (by decide +kernel)⟩
theorem tm_X7_undoable : tM yX7_undoable cX7_undoable 1 (some .int) 0 := ⟨t_in 700 (by decide +kernel), ⟨by decide +kernel, by decide +kernel, by decide +kernel⟩, t_in 1 (by decide +kernel), by decide⟩
theorem ti_X7_undoable : Cond.instanceMethod yX7_undoable ∈ lw_tbl ∧ Cond.selects (yX7_undoable).cls yX7_undoable yX7_undoable ∈ lw_tbl := ⟨t_in 698 (by decide +kernel), t_in 699 (by decide +kernel)⟩
theorem tm_X7_save : tM yX7_save cX7_save 1 (some .int) 0 := ⟨t_in 704 (by decide +kernel), ⟨by decide +kernel, by decide +kernel, by decide +kernel⟩, t_in 1 (by decide +kernel), by decide⟩
theorem ti_X7_save : Cond.instanceMethod yX7_save ∈ lw_tbl ∧ Cond.selects (yX7_save).cls yX7_save yX7_save ∈ lw_tbl := ⟨t_in 702 (by decide +kernel), t_in 703 (by decide +kernel)⟩
theorem tm_X7_restore : tM yX7_restore cX7_restore 1 (some .int) 0 := ⟨t_in 713 (by decide +kernel), ⟨by decide +kernel, by decide +kernel, by decide +kernel⟩, t_in 1 (by decide +kernel), by decide⟩
theorem ti_X7_restore : Cond.instanceMethod yX7_restore ∈ lw_tbl ∧ Cond.selects (yX7_restore).cls yX7_restore yX7_restore ∈ lw_tbl := ⟨t_in 711 (by decide +kernel), t_in 712 (by decide +kernel)⟩
theorem tm_X7_createArray : tM yX7_createArray cX7_createArray 4 (some .int) 2 := ⟨t_in 717 (by decide +kernel), ⟨by decide +kernel, by decide +kernel, by decide +kernel⟩, t_in 1 (by decide +kernel), by decide⟩
theorem ti_X7_createArray : Cond.instanceMethod yX7_createArray ∈ lw_tbl ∧ Cond.selects (yX7_createArray).cls yX7_createArray yX7_createArray ∈ lw_tbl := ⟨t_in 715 (by decide +kernel), t_in 716 (by decide +kernel)⟩
theorem tm_X7_setElement : tM yX7_setElement cX7_setElement 4 (some .int) 3 := ⟨t_in 721 (by decide +kernel), ⟨by decide +kernel, by decide +kernel, by decide +kernel⟩, t_in 1 (by decide +kernel), by decide⟩
theorem ti_X7_setElement : Cond.instanceMethod yX7_setElement ∈ lw_tbl ∧ Cond.selects (yX7_setElement).cls yX7_setElement yX7_setElement ∈ lw_tbl := ⟨t_in 719 (by decide +kernel), t_in 720 (by decide +kernel)⟩
theorem tm_X7_element : tM yX7_element cX7_element 3 (some .long) 2 := ⟨t_in 725 (by decide +kernel), ⟨by decide +kernel, by decide +kernel, by decide +kernel⟩, t_in 1 (by decide +kernel), by decide⟩
theorem ti_X7_element : Cond.instanceMethod yX7_element ∈ lw_tbl ∧ Cond.selects (yX7_element).cls yX7_element yX7_element ∈ lw_tbl := ⟨t_in 723 (by decide +kernel), t_in 724 (by decide +kernel)⟩
theorem tm_X7_compare : tM yX7_compare cX7_compare 5 (some .int) 2 := ⟨t_in 730 (by decide +kernel), ⟨by decide +kernel, by decide +kernel, by decide +kernel⟩, t_in 1 (by decide +kernel), by decide⟩
theorem ti_X7_compare : Cond.instanceMethod yX7_compare ∈ lw_tbl ∧ Cond.selects (yX7_compare).cls yX7_compare yX7_compare ∈ lw_tbl := ⟨t_in 728 (by decide +kernel), t_in 729 (by decide +kernel)⟩
theorem tm_X7_isIndex : tM yX7_isIndex cX7_isIndex 2 (some .boolean) 2 := ⟨t_in 238 (by decide +kernel), ⟨by decide +kernel, by decide +kernel, by decide +kernel⟩, t_in 1 (by decide +kernel), by decide⟩
theorem ts_X7_isIndex : Cond.static yX7_isIndex ∈ lw_tbl := t_in 237 (by decide +kernel)
theorem tm_X7_isSlot : tM yX7_isSlot cX7_isSlot 1 (some .boolean) 1 := ⟨t_in 235 (by decide +kernel), ⟨by decide +kernel, by decide +kernel, by decide +kernel⟩, t_in 1 (by decide +kernel), by decide⟩
theorem ts_X7_isSlot : Cond.static yX7_isSlot ∈ lw_tbl := t_in 234 (by decide +kernel)
theorem tm_X7_isBit : tM yX7_isBit cX7_isBit 1 (some .boolean) 1 := ⟨t_in 546 (by decide +kernel), ⟨by decide +kernel, by decide +kernel, by decide +kernel⟩, t_in 1 (by decide +kernel), by decide⟩
theorem ts_X7_isBit : Cond.static yX7_isBit ∈ lw_tbl := t_in 545 (by decide +kernel)
theorem tm_X7_isPoint : tM yX7_isPoint cX7_isPoint 2 (some .boolean) 1 := ⟨t_in 287 (by decide +kernel), ⟨by decide +kernel, by decide +kernel, by decide +kernel⟩, t_in 1 (by decide +kernel), by decide⟩
theorem ti_X7_isPoint : Cond.instanceMethod yX7_isPoint ∈ lw_tbl ∧ Cond.selects (yX7_isPoint).cls yX7_isPoint yX7_isPoint ∈ lw_tbl := ⟨t_in 286 (by decide +kernel), t_inS 2 (by decide +kernel)⟩
theorem tm_X7_isVariable : tM yX7_isVariable cX7_isVariable 2 (some .boolean) 1 := ⟨t_in 357 (by decide +kernel), ⟨by decide +kernel, by decide +kernel, by decide +kernel⟩, t_in 1 (by decide +kernel), by decide⟩
theorem ti_X7_isVariable : Cond.instanceMethod yX7_isVariable ∈ lw_tbl ∧ Cond.selects (yX7_isVariable).cls yX7_isVariable yX7_isVariable ∈ lw_tbl := ⟨t_in 356 (by decide +kernel), t_inS 5 (by decide +kernel)⟩
theorem tm_X7_slotError : tM yX7_slotError cX7_slotError 2 (some .int) 1 := ⟨t_in 264 (by decide +kernel), ⟨by decide +kernel, by decide +kernel, by decide +kernel⟩, t_in 1 (by decide +kernel), by decide⟩
theorem ti_X7_slotError : Cond.instanceMethod yX7_slotError ∈ lw_tbl ∧ Cond.selects (yX7_slotError).cls yX7_slotError yX7_slotError ∈ lw_tbl := ⟨t_in 263 (by decide +kernel), t_inS 1 (by decide +kernel)⟩
theorem tm_X7_store : tM yX7_store cX7_store 4 (some .int) 2 := ⟨t_in 243 (by decide +kernel), ⟨by decide +kernel, by decide +kernel, by decide +kernel⟩, t_in 1 (by decide +kernel), by decide⟩
theorem ti_X7_store : Cond.instanceMethod yX7_store ∈ lw_tbl ∧ Cond.selects (yX7_store).cls yX7_store yX7_store ∈ lw_tbl := ⟨t_in 242 (by decide +kernel), t_inS 0 (by decide +kernel)⟩
theorem tm_X7_drawGraph : tM yX7_drawGraph cX7_drawGraph 3 (some .int) 1 := ⟨t_in 323 (by decide +kernel), ⟨by decide +kernel, by decide +kernel, by decide +kernel⟩, t_in 1 (by decide +kernel), by decide⟩
theorem ti_X7_drawGraph : Cond.instanceMethod yX7_drawGraph ∈ lw_tbl ∧ Cond.selects (yX7_drawGraph).cls yX7_drawGraph yX7_drawGraph ∈ lw_tbl := ⟨t_in 322 (by decide +kernel), t_inS 3 (by decide +kernel)⟩
theorem tm_X7_growCotree : tM yX7_growCotree cX7_growCotree 3 (some .int) 1 := ⟨t_in 409 (by decide +kernel), ⟨by decide +kernel, by decide +kernel, by decide +kernel⟩, t_in 1 (by decide +kernel), by decide⟩
theorem ti_X7_growCotree : Cond.instanceMethod yX7_growCotree ∈ lw_tbl ∧ Cond.selects (yX7_growCotree).cls yX7_growCotree yX7_growCotree ∈ lw_tbl := ⟨t_in 408 (by decide +kernel), t_inS 11 (by decide +kernel)⟩
theorem tm_X7_whyNotReadOnce : tM yX7_whyNotReadOnce cX7_whyNotReadOnce 3 (some .int) 1 := ⟨t_in 401 (by decide +kernel), ⟨by decide +kernel, by decide +kernel, by decide +kernel⟩, t_in 1 (by decide +kernel), by decide⟩
theorem ti_X7_whyNotReadOnce : Cond.instanceMethod yX7_whyNotReadOnce ∈ lw_tbl ∧ Cond.selects (yX7_whyNotReadOnce).cls yX7_whyNotReadOnce yX7_whyNotReadOnce ∈ lw_tbl := ⟨t_in 400 (by decide +kernel), t_inS 10 (by decide +kernel)⟩
theorem tm_X7_runStep : tM yX7_runStep cX7_runStep 6 (some .int) 1 := ⟨t_in 689 (by decide +kernel), ⟨by decide +kernel, by decide +kernel, by decide +kernel⟩, t_in 1 (by decide +kernel), by decide⟩
theorem ti_X7_runStep : Cond.instanceMethod yX7_runStep ∈ lw_tbl ∧ Cond.selects (yX7_runStep).cls yX7_runStep yX7_runStep ∈ lw_tbl := ⟨t_in 688 (by decide +kernel), t_inS 34 (by decide +kernel)⟩
theorem tm_X7_openCatalog : tM yX7_openCatalog cX7_openCatalog 1 (some (.object "ReadOnceRecognizer$Catalog")) 0 := ⟨t_in 593 (by decide +kernel), ⟨by decide +kernel, by decide +kernel, by decide +kernel⟩, t_in 1 (by decide +kernel), by decide⟩
theorem ti_X7_openCatalog : Cond.instanceMethod yX7_openCatalog ∈ lw_tbl ∧ Cond.selects (yX7_openCatalog).cls yX7_openCatalog yX7_openCatalog ∈ lw_tbl := ⟨t_in 592 (by decide +kernel), t_inS 25 (by decide +kernel)⟩
theorem tm_X7_isExtension : tM yX7_isExtension cX7_isExtension 5 (some .boolean) 2 := ⟨t_in 651 (by decide +kernel), ⟨by decide +kernel, by decide +kernel, by decide +kernel⟩, t_in 1 (by decide +kernel), by decide⟩
theorem ti_X7_isExtension : Cond.instanceMethod yX7_isExtension ∈ lw_tbl ∧ Cond.selects (yX7_isExtension).cls yX7_isExtension yX7_isExtension ∈ lw_tbl := ⟨t_in 650 (by decide +kernel), t_inS 33 (by decide +kernel)⟩
theorem tm_X7_pointCount : tM yX7_pointCount cX7_pointCount 1 (some .int) 1 := ⟨t_in 138 (by decide +kernel), ⟨by decide +kernel, by decide +kernel, by decide +kernel⟩, t_in 1 (by decide +kernel), by decide⟩
theorem ts_X7_pointCount : Cond.static yX7_pointCount ∈ lw_tbl := t_in 137 (by decide +kernel)
theorem tm_X7_fullTable : tM yX7_fullTable cX7_fullTable 1 (some .long) 1 := ⟨t_in 135 (by decide +kernel), ⟨by decide +kernel, by decide +kernel, by decide +kernel⟩, t_in 1 (by decide +kernel), by decide⟩
theorem ts_X7_fullTable : Cond.static yX7_fullTable ∈ lw_tbl := t_in 134 (by decide +kernel)
theorem tm_X7_bitAt : tM yX7_bitAt cX7_bitAt 3 (some .int) 2 := ⟨t_in 290 (by decide +kernel), ⟨by decide +kernel, by decide +kernel, by decide +kernel⟩, t_in 1 (by decide +kernel), by decide⟩
theorem ts_X7_bitAt : Cond.static yX7_bitAt ∈ lw_tbl := t_in 289 (by decide +kernel)
theorem tm_X7_withBit : tM yX7_withBit cX7_withBit 3 (some .int) 3 := ⟨t_in 553 (by decide +kernel), ⟨by decide +kernel, by decide +kernel, by decide +kernel⟩, t_in 1 (by decide +kernel), by decide⟩
theorem ts_X7_withBit : Cond.static yX7_withBit ∈ lw_tbl := t_in 552 (by decide +kernel)
theorem tm_X7_essentialSet : tM yX7_essentialSet cX7_essentialSet 6 (some .int) 2 := ⟨t_in 301 (by decide +kernel), ⟨by decide +kernel, by decide +kernel, by decide +kernel⟩, t_in 1 (by decide +kernel), by decide⟩
theorem ts_X7_essentialSet : Cond.static yX7_essentialSet ∈ lw_tbl := t_in 300 (by decide +kernel)
theorem tm_X7_lowestViolation : tM yX7_lowestViolation cX7_lowestViolation 4 (some .int) 2 := ⟨t_in 308 (by decide +kernel), ⟨by decide +kernel, by decide +kernel, by decide +kernel⟩, t_in 1 (by decide +kernel), by decide⟩
theorem ts_X7_lowestViolation : Cond.static yX7_lowestViolation ∈ lw_tbl := t_in 307 (by decide +kernel)
theorem tm_X7_fallsAbove : tM yX7_fallsAbove cX7_fallsAbove 5 (some .boolean) 3 := ⟨t_in 311 (by decide +kernel), ⟨by decide +kernel, by decide +kernel, by decide +kernel⟩, t_in 1 (by decide +kernel), by decide⟩
theorem ts_X7_fallsAbove : Cond.static yX7_fallsAbove ∈ lw_tbl := t_in 310 (by decide +kernel)
theorem tm_X7_applied : tM yX7_applied cX7_applied 5 (some .long) 3 := ⟨t_in 535 (by decide +kernel), ⟨by decide +kernel, by decide +kernel, by decide +kernel⟩, t_in 1 (by decide +kernel), by decide⟩
theorem ts_X7_applied : Cond.static yX7_applied ∈ lw_tbl := t_in 534 (by decide +kernel)
theorem tm_X7_substituted : tM yX7_substituted cX7_substituted 10 (some .long) 3 := ⟨t_in 550 (by decide +kernel), ⟨by decide +kernel, by decide +kernel, by decide +kernel⟩, t_in 1 (by decide +kernel), by decide⟩
theorem ti_X7_substituted : Cond.instanceMethod yX7_substituted ∈ lw_tbl ∧ Cond.selects (yX7_substituted).cls yX7_substituted yX7_substituted ∈ lw_tbl := ⟨t_in 549 (by decide +kernel), t_inS 23 (by decide +kernel)⟩
theorem tm_X7_drawnTable : tM yX7_drawnTable cX7_drawnTable 8 (some .long) 2 := ⟨t_in 569 (by decide +kernel), ⟨by decide +kernel, by decide +kernel, by decide +kernel⟩, t_in 1 (by decide +kernel), by decide⟩
theorem ti_X7_drawnTable : Cond.instanceMethod yX7_drawnTable ∈ lw_tbl ∧ Cond.selects (yX7_drawnTable).cls yX7_drawnTable yX7_drawnTable ∈ lw_tbl := ⟨t_in 568 (by decide +kernel), t_inS 24 (by decide +kernel)⟩
theorem tm_X7_supersets : tM yX7_supersets cX7_supersets 5 (some .long) 2 := ⟨t_in 573 (by decide +kernel), ⟨by decide +kernel, by decide +kernel, by decide +kernel⟩, t_in 1 (by decide +kernel), by decide⟩
theorem ts_X7_supersets : Cond.static yX7_supersets ∈ lw_tbl := t_in 572 (by decide +kernel)
theorem tm_X7_hasVariable : tM yX7_hasVariable cX7_hasVariable 2 (some .boolean) 2 := ⟨t_in 340 (by decide +kernel), ⟨by decide +kernel, by decide +kernel, by decide +kernel⟩, t_in 1 (by decide +kernel), by decide⟩
theorem ts_X7_hasVariable : Cond.static yX7_hasVariable ∈ lw_tbl := t_in 339 (by decide +kernel)
theorem tm_X7_lowestVariable : tM yX7_lowestVariable cX7_lowestVariable 2 (some .int) 1 := ⟨t_in 376 (by decide +kernel), ⟨by decide +kernel, by decide +kernel, by decide +kernel⟩, t_in 1 (by decide +kernel), by decide⟩
theorem ts_X7_lowestVariable : Cond.static yX7_lowestVariable ∈ lw_tbl := t_in 375 (by decide +kernel)
theorem tm_X8_init : tM yX8_init cX8_init 2 none 0 := ⟨t_in 735 (by decide +kernel), ⟨by decide +kernel, by decide +kernel, by decide +kernel⟩, t_in 9 (by decide +kernel), by decide⟩
theorem ti_X8_init : Cond.instanceMethod yX8_init ∈ lw_tbl := t_in 734 (by decide +kernel)
theorem tm_X8_isIn : tM yX8_isIn cX8_isIn 6 (some .boolean) 3 := ⟨t_in 893 (by decide +kernel), ⟨by decide +kernel, by decide +kernel, by decide +kernel⟩, t_in 9 (by decide +kernel), by decide⟩
theorem ts_X8_isIn : Cond.static yX8_isIn ∈ lw_tbl := t_in 892 (by decide +kernel)
theorem tm_X8_isSlot : tM yX8_isSlot cX8_isSlot 1 (some .boolean) 1 := ⟨t_in 904 (by decide +kernel), ⟨by decide +kernel, by decide +kernel, by decide +kernel⟩, t_in 9 (by decide +kernel), by decide⟩
theorem ts_X8_isSlot : Cond.static yX8_isSlot ∈ lw_tbl := t_in 903 (by decide +kernel)
theorem tm_X8_isPoint : tM yX8_isPoint cX8_isPoint 2 (some .boolean) 1 := ⟨t_in 942 (by decide +kernel), ⟨by decide +kernel, by decide +kernel, by decide +kernel⟩, t_in 9 (by decide +kernel), by decide⟩
theorem ti_X8_isPoint : Cond.instanceMethod yX8_isPoint ∈ lw_tbl ∧ Cond.selects (yX8_isPoint).cls yX8_isPoint yX8_isPoint ∈ lw_tbl := ⟨t_in 941 (by decide +kernel), t_inS 44 (by decide +kernel)⟩
theorem tm_X8_isVariable : tM yX8_isVariable cX8_isVariable 2 (some .boolean) 1 := ⟨t_in 998 (by decide +kernel), ⟨by decide +kernel, by decide +kernel, by decide +kernel⟩, t_in 9 (by decide +kernel), by decide⟩
theorem ti_X8_isVariable : Cond.instanceMethod yX8_isVariable ∈ lw_tbl ∧ Cond.selects (yX8_isVariable).cls yX8_isVariable yX8_isVariable ∈ lw_tbl := ⟨t_in 997 (by decide +kernel), t_inS 52 (by decide +kernel)⟩
theorem tm_X8_at : tM yX8_at cX8_at 3 (some .boolean) 2 := ⟨t_in 920 (by decide +kernel), ⟨by decide +kernel, by decide +kernel, by decide +kernel⟩, t_in 9 (by decide +kernel), by decide⟩
theorem ts_X8_at : Cond.static yX8_at ∈ lw_tbl := t_in 919 (by decide +kernel)
theorem tm_X8_ones : tM yX8_ones cX8_ones 5 (some .int) 1 := ⟨t_in 917 (by decide +kernel), ⟨by decide +kernel, by decide +kernel, by decide +kernel⟩, t_in 9 (by decide +kernel), by decide⟩
theorem ti_X8_ones : Cond.instanceMethod yX8_ones ∈ lw_tbl ∧ Cond.selects (yX8_ones).cls yX8_ones yX8_ones ∈ lw_tbl := ⟨t_in 916 (by decide +kernel), t_inS 43 (by decide +kernel)⟩
theorem tm_X8_bits : tM yX8_bits cX8_bits 3 (some .int) 1 := ⟨t_in 751 (by decide +kernel), ⟨by decide +kernel, by decide +kernel, by decide +kernel⟩, t_in 9 (by decide +kernel), by decide⟩
theorem ts_X8_bits : Cond.static yX8_bits ∈ lw_tbl := t_in 750 (by decide +kernel)
theorem tm_X8_record : tM yX8_record cX8_record 3 none 1 := ⟨t_in 913 (by decide +kernel), ⟨by decide +kernel, by decide +kernel, by decide +kernel⟩, t_in 9 (by decide +kernel), by decide⟩
theorem ti_X8_record : Cond.instanceMethod yX8_record ∈ lw_tbl ∧ Cond.selects (yX8_record).cls yX8_record yX8_record ∈ lw_tbl := ⟨t_in 912 (by decide +kernel), t_inS 42 (by decide +kernel)⟩
theorem tm_X8_store : tM yX8_store cX8_store 4 (some .int) 2 := ⟨t_in 909 (by decide +kernel), ⟨by decide +kernel, by decide +kernel, by decide +kernel⟩, t_in 9 (by decide +kernel), by decide⟩
theorem ti_X8_store : Cond.instanceMethod yX8_store ∈ lw_tbl ∧ Cond.selects (yX8_store).cls yX8_store yX8_store ∈ lw_tbl := ⟨t_in 908 (by decide +kernel), t_inS 41 (by decide +kernel)⟩
theorem tm_X8_setVariables : tM yX8_setVariables cX8_setVariables 4 (some .int) 1 := ⟨t_in 889 (by decide +kernel), ⟨by decide +kernel, by decide +kernel, by decide +kernel⟩, t_in 9 (by decide +kernel), by decide⟩
theorem ti_X8_setVariables : Cond.instanceMethod yX8_setVariables ∈ lw_tbl ∧ Cond.selects (yX8_setVariables).cls yX8_setVariables yX8_setVariables ∈ lw_tbl := ⟨t_in 887 (by decide +kernel), t_in 888 (by decide +kernel)⟩
theorem tm_X8_variables : tM yX8_variables cX8_variables 1 (some .int) 0 := ⟨t_in 897 (by decide +kernel), ⟨by decide +kernel, by decide +kernel, by decide +kernel⟩, t_in 9 (by decide +kernel), by decide⟩
theorem ti_X8_variables : Cond.instanceMethod yX8_variables ∈ lw_tbl ∧ Cond.selects (yX8_variables).cls yX8_variables yX8_variables ∈ lw_tbl := ⟨t_in 895 (by decide +kernel), t_in 896 (by decide +kernel)⟩
theorem tm_X8_setTable : tM yX8_setTable cX8_setTable 4 (some .int) 2 := ⟨t_in 901 (by decide +kernel), ⟨by decide +kernel, by decide +kernel, by decide +kernel⟩, t_in 9 (by decide +kernel), by decide⟩
theorem ti_X8_setTable : Cond.instanceMethod yX8_setTable ∈ lw_tbl ∧ Cond.selects (yX8_setTable).cls yX8_setTable yX8_setTable ∈ lw_tbl := ⟨t_in 899 (by decide +kernel), t_in 900 (by decide +kernel)⟩
theorem tm_X8_table : tM yX8_table cX8_table 2 (some .long) 1 := ⟨t_in 924 (by decide +kernel), ⟨by decide +kernel, by decide +kernel, by decide +kernel⟩, t_in 9 (by decide +kernel), by decide⟩
theorem ti_X8_table : Cond.instanceMethod yX8_table ∈ lw_tbl ∧ Cond.selects (yX8_table).cls yX8_table yX8_table ∈ lw_tbl := ⟨t_in 922 (by decide +kernel), t_in 923 (by decide +kernel)⟩
theorem tm_X8_clear : tM yX8_clear cX8_clear 2 (some .int) 1 := ⟨t_in 930 (by decide +kernel), ⟨by decide +kernel, by decide +kernel, by decide +kernel⟩, t_in 9 (by decide +kernel), by decide⟩
theorem ti_X8_clear : Cond.instanceMethod yX8_clear ∈ lw_tbl ∧ Cond.selects (yX8_clear).cls yX8_clear yX8_clear ∈ lw_tbl := ⟨t_in 928 (by decide +kernel), t_in 929 (by decide +kernel)⟩
theorem tm_X8_wrong : tM yX8_wrong cX8_wrong 2 (some .int) 1 := ⟨t_in 950 (by decide +kernel), ⟨by decide +kernel, by decide +kernel, by decide +kernel⟩, t_in 9 (by decide +kernel), by decide⟩
theorem ti_X8_wrong : Cond.instanceMethod yX8_wrong ∈ lw_tbl ∧ Cond.selects (yX8_wrong).cls yX8_wrong yX8_wrong ∈ lw_tbl := ⟨t_in 949 (by decide +kernel), t_inS 45 (by decide +kernel)⟩
theorem tm_X8_value : tM yX8_value cX8_value 3 (some .int) 2 := ⟨t_in 938 (by decide +kernel), ⟨by decide +kernel, by decide +kernel, by decide +kernel⟩, t_in 9 (by decide +kernel), by decide⟩
theorem ti_X8_value : Cond.instanceMethod yX8_value ∈ lw_tbl ∧ Cond.selects (yX8_value).cls yX8_value yX8_value ∈ lw_tbl := ⟨t_in 936 (by decide +kernel), t_in 937 (by decide +kernel)⟩
theorem tm_X8_essentialOf : tM yX8_essentialOf cX8_essentialOf 6 (some .int) 1 := ⟨t_in 954 (by decide +kernel), ⟨by decide +kernel, by decide +kernel, by decide +kernel⟩, t_in 9 (by decide +kernel), by decide⟩
theorem ti_X8_essentialOf : Cond.instanceMethod yX8_essentialOf ∈ lw_tbl ∧ Cond.selects (yX8_essentialOf).cls yX8_essentialOf yX8_essentialOf ∈ lw_tbl := ⟨t_in 953 (by decide +kernel), t_inS 46 (by decide +kernel)⟩
theorem tm_X8_essential : tM yX8_essential cX8_essential 2 (some .int) 1 := ⟨t_in 946 (by decide +kernel), ⟨by decide +kernel, by decide +kernel, by decide +kernel⟩, t_in 9 (by decide +kernel), by decide⟩
theorem ti_X8_essential : Cond.instanceMethod yX8_essential ∈ lw_tbl ∧ Cond.selects (yX8_essential).cls yX8_essential yX8_essential ∈ lw_tbl := ⟨t_in 944 (by decide +kernel), t_in 945 (by decide +kernel)⟩
theorem tm_X8_violation : tM yX8_violation cX8_violation 5 (some .int) 1 := ⟨t_in 962 (by decide +kernel), ⟨by decide +kernel, by decide +kernel, by decide +kernel⟩, t_in 9 (by decide +kernel), by decide⟩
theorem ti_X8_violation : Cond.instanceMethod yX8_violation ∈ lw_tbl ∧ Cond.selects (yX8_violation).cls yX8_violation yX8_violation ∈ lw_tbl := ⟨t_in 961 (by decide +kernel), t_inS 47 (by decide +kernel)⟩
theorem tm_X8_isMonotone : tM yX8_isMonotone cX8_isMonotone 2 (some .int) 1 := ⟨t_in 958 (by decide +kernel), ⟨by decide +kernel, by decide +kernel, by decide +kernel⟩, t_in 9 (by decide +kernel), by decide⟩
theorem ti_X8_isMonotone : Cond.instanceMethod yX8_isMonotone ∈ lw_tbl ∧ Cond.selects (yX8_isMonotone).cls yX8_isMonotone yX8_isMonotone ∈ lw_tbl := ⟨t_in 956 (by decide +kernel), t_in 957 (by decide +kernel)⟩
theorem tm_X8_violatingPoint : tM yX8_violatingPoint cX8_violatingPoint 2 (some .int) 1 := ⟨t_in 966 (by decide +kernel), ⟨by decide +kernel, by decide +kernel, by decide +kernel⟩, t_in 9 (by decide +kernel), by decide⟩
theorem ti_X8_violatingPoint : Cond.instanceMethod yX8_violatingPoint ∈ lw_tbl ∧ Cond.selects (yX8_violatingPoint).cls yX8_violatingPoint yX8_violatingPoint ∈ lw_tbl := ⟨t_in 964 (by decide +kernel), t_in 965 (by decide +kernel)⟩
theorem tm_X8_isPrime : tM yX8_isPrime cX8_isPrime 5 (some .boolean) 2 := ⟨t_in 982 (by decide +kernel), ⟨by decide +kernel, by decide +kernel, by decide +kernel⟩, t_in 9 (by decide +kernel), by decide⟩
theorem ti_X8_isPrime : Cond.instanceMethod yX8_isPrime ∈ lw_tbl ∧ Cond.selects (yX8_isPrime).cls yX8_isPrime yX8_isPrime ∈ lw_tbl := ⟨t_in 981 (by decide +kernel), t_inS 50 (by decide +kernel)⟩
theorem tm_X8_wrongOrNot : tM yX8_wrongOrNot cX8_wrongOrNot 2 (some .int) 1 := ⟨t_in 974 (by decide +kernel), ⟨by decide +kernel, by decide +kernel, by decide +kernel⟩, t_in 9 (by decide +kernel), by decide⟩
theorem ti_X8_wrongOrNot : Cond.instanceMethod yX8_wrongOrNot ∈ lw_tbl ∧ Cond.selects (yX8_wrongOrNot).cls yX8_wrongOrNot yX8_wrongOrNot ∈ lw_tbl := ⟨t_in 973 (by decide +kernel), t_inS 48 (by decide +kernel)⟩
theorem tm_X8_primesOf : tM yX8_primesOf cX8_primesOf 5 (some .int) 1 := ⟨t_in 978 (by decide +kernel), ⟨by decide +kernel, by decide +kernel, by decide +kernel⟩, t_in 9 (by decide +kernel), by decide⟩
theorem ti_X8_primesOf : Cond.instanceMethod yX8_primesOf ∈ lw_tbl ∧ Cond.selects (yX8_primesOf).cls yX8_primesOf yX8_primesOf ∈ lw_tbl := ⟨t_in 977 (by decide +kernel), t_inS 49 (by decide +kernel)⟩
theorem tm_X8_primeOf : tM yX8_primeOf cX8_primeOf 6 (some .int) 2 := ⟨t_in 990 (by decide +kernel), ⟨by decide +kernel, by decide +kernel, by decide +kernel⟩, t_in 9 (by decide +kernel), by decide⟩
theorem ti_X8_primeOf : Cond.instanceMethod yX8_primeOf ∈ lw_tbl ∧ Cond.selects (yX8_primeOf).cls yX8_primeOf yX8_primeOf ∈ lw_tbl := ⟨t_in 989 (by decide +kernel), t_inS 51 (by decide +kernel)⟩
theorem tm_X8_primeImplicants : tM yX8_primeImplicants cX8_primeImplicants 3 (some .int) 1 := ⟨t_in 970 (by decide +kernel), ⟨by decide +kernel, by decide +kernel, by decide +kernel⟩, t_in 9 (by decide +kernel), by decide⟩
theorem ti_X8_primeImplicants : Cond.instanceMethod yX8_primeImplicants ∈ lw_tbl ∧ Cond.selects (yX8_primeImplicants).cls yX8_primeImplicants yX8_primeImplicants ∈ lw_tbl := ⟨t_in 968 (by decide +kernel), t_in 969 (by decide +kernel)⟩
theorem tm_X8_primeImplicant : tM yX8_primeImplicant cX8_primeImplicant 4 (some .int) 2 := ⟨t_in 986 (by decide +kernel), ⟨by decide +kernel, by decide +kernel, by decide +kernel⟩, t_in 9 (by decide +kernel), by decide⟩
theorem ti_X8_primeImplicant : Cond.instanceMethod yX8_primeImplicant ∈ lw_tbl ∧ Cond.selects (yX8_primeImplicant).cls yX8_primeImplicant yX8_primeImplicant ∈ lw_tbl := ⟨t_in 984 (by decide +kernel), t_in 985 (by decide +kernel)⟩
theorem tm_X8_graph : tM yX8_graph cX8_graph 5 none 1 := ⟨t_in 1002 (by decide +kernel), ⟨by decide +kernel, by decide +kernel, by decide +kernel⟩, t_in 9 (by decide +kernel), by decide⟩
theorem ti_X8_graph : Cond.instanceMethod yX8_graph ∈ lw_tbl ∧ Cond.selects (yX8_graph).cls yX8_graph yX8_graph ∈ lw_tbl := ⟨t_in 1001 (by decide +kernel), t_inS 53 (by decide +kernel)⟩
theorem tm_X8_areNear : tM yX8_areNear cX8_areNear 3 (some .boolean) 2 := ⟨t_in 1015 (by decide +kernel), ⟨by decide +kernel, by decide +kernel, by decide +kernel⟩, t_in 9 (by decide +kernel), by decide⟩
theorem ti_X8_areNear : Cond.instanceMethod yX8_areNear ∈ lw_tbl ∧ Cond.selects (yX8_areNear).cls yX8_areNear yX8_areNear ∈ lw_tbl := ⟨t_in 1014 (by decide +kernel), t_inS 55 (by decide +kernel)⟩
theorem tm_X8_neighbors : tM yX8_neighbors cX8_neighbors 4 (some .int) 2 := ⟨t_in 994 (by decide +kernel), ⟨by decide +kernel, by decide +kernel, by decide +kernel⟩, t_in 9 (by decide +kernel), by decide⟩
theorem ti_X8_neighbors : Cond.instanceMethod yX8_neighbors ∈ lw_tbl ∧ Cond.selects (yX8_neighbors).cls yX8_neighbors yX8_neighbors ∈ lw_tbl := ⟨t_in 992 (by decide +kernel), t_in 993 (by decide +kernel)⟩
theorem tm_X8_path : tM yX8_path cX8_path 7 (some .int) 0 := ⟨t_in 1011 (by decide +kernel), ⟨by decide +kernel, by decide +kernel, by decide +kernel⟩, t_in 9 (by decide +kernel), by decide⟩
theorem ti_X8_path : Cond.instanceMethod yX8_path ∈ lw_tbl ∧ Cond.selects (yX8_path).cls yX8_path yX8_path ∈ lw_tbl := ⟨t_in 1010 (by decide +kernel), t_inS 54 (by decide +kernel)⟩
theorem tm_X8_inducedPath : tM yX8_inducedPath cX8_inducedPath 5 (some .int) 2 := ⟨t_in 1006 (by decide +kernel), ⟨by decide +kernel, by decide +kernel, by decide +kernel⟩, t_in 9 (by decide +kernel), by decide⟩
theorem ti_X8_inducedPath : Cond.instanceMethod yX8_inducedPath ∈ lw_tbl ∧ Cond.selects (yX8_inducedPath).cls yX8_inducedPath yX8_inducedPath ∈ lw_tbl := ⟨t_in 1004 (by decide +kernel), t_in 1005 (by decide +kernel)⟩
theorem tm_X8_isClique : tM yX8_isClique cX8_isClique 3 (some .boolean) 1 := ⟨t_in 1027 (by decide +kernel), ⟨by decide +kernel, by decide +kernel, by decide +kernel⟩, t_in 9 (by decide +kernel), by decide⟩
theorem ti_X8_isClique : Cond.instanceMethod yX8_isClique ∈ lw_tbl ∧ Cond.selects (yX8_isClique).cls yX8_isClique yX8_isClique ∈ lw_tbl := ⟨t_in 1026 (by decide +kernel), t_inS 57 (by decide +kernel)⟩
theorem tm_X8_isMaximal : tM yX8_isMaximal cX8_isMaximal 3 (some .boolean) 1 := ⟨t_in 1031 (by decide +kernel), ⟨by decide +kernel, by decide +kernel, by decide +kernel⟩, t_in 9 (by decide +kernel), by decide⟩
theorem ti_X8_isMaximal : Cond.instanceMethod yX8_isMaximal ∈ lw_tbl ∧ Cond.selects (yX8_isMaximal).cls yX8_isMaximal yX8_isMaximal ∈ lw_tbl := ⟨t_in 1030 (by decide +kernel), t_inS 58 (by decide +kernel)⟩
theorem tm_X8_badCliqueOf : tM yX8_badCliqueOf cX8_badCliqueOf 4 (some .int) 1 := ⟨t_in 1023 (by decide +kernel), ⟨by decide +kernel, by decide +kernel, by decide +kernel⟩, t_in 9 (by decide +kernel), by decide⟩
theorem ti_X8_badCliqueOf : Cond.instanceMethod yX8_badCliqueOf ∈ lw_tbl ∧ Cond.selects (yX8_badCliqueOf).cls yX8_badCliqueOf yX8_badCliqueOf ∈ lw_tbl := ⟨t_in 1022 (by decide +kernel), t_inS 56 (by decide +kernel)⟩
theorem tm_X8_badClique : tM yX8_badClique cX8_badClique 3 (some .int) 1 := ⟨t_in 1019 (by decide +kernel), ⟨by decide +kernel, by decide +kernel, by decide +kernel⟩, t_in 9 (by decide +kernel), by decide⟩
theorem ti_X8_badClique : Cond.instanceMethod yX8_badClique ∈ lw_tbl ∧ Cond.selects (yX8_badClique).cls yX8_badClique yX8_badClique ∈ lw_tbl := ⟨t_in 1017 (by decide +kernel), t_in 1018 (by decide +kernel)⟩
theorem tm_X8_reasonOf : tM yX8_reasonOf cX8_reasonOf 3 (some .int) 1 := ⟨t_in 1039 (by decide +kernel), ⟨by decide +kernel, by decide +kernel, by decide +kernel⟩, t_in 9 (by decide +kernel), by decide⟩
theorem ti_X8_reasonOf : Cond.instanceMethod yX8_reasonOf ∈ lw_tbl ∧ Cond.selects (yX8_reasonOf).cls yX8_reasonOf yX8_reasonOf ∈ lw_tbl := ⟨t_in 1038 (by decide +kernel), t_inS 59 (by decide +kernel)⟩
theorem tm_X8_reason : tM yX8_reason cX8_reason 2 (some .int) 1 := ⟨t_in 1035 (by decide +kernel), ⟨by decide +kernel, by decide +kernel, by decide +kernel⟩, t_in 9 (by decide +kernel), by decide⟩
theorem ti_X8_reason : Cond.instanceMethod yX8_reason ∈ lw_tbl ∧ Cond.selects (yX8_reason).cls yX8_reason yX8_reason ∈ lw_tbl := ⟨t_in 1033 (by decide +kernel), t_in 1034 (by decide +kernel)⟩
theorem tm_X8_component : tM yX8_component cX8_component 7 (some .int) 3 := ⟨t_in 1055 (by decide +kernel), ⟨by decide +kernel, by decide +kernel, by decide +kernel⟩, t_in 9 (by decide +kernel), by decide⟩
theorem ti_X8_component : Cond.instanceMethod yX8_component ∈ lw_tbl ∧ Cond.selects (yX8_component).cls yX8_component yX8_component ∈ lw_tbl := ⟨t_in 1054 (by decide +kernel), t_inS 62 (by decide +kernel)⟩
theorem tm_X8_lowest : tM yX8_lowest cX8_lowest 2 (some .int) 1 := ⟨t_in 758 (by decide +kernel), ⟨by decide +kernel, by decide +kernel, by decide +kernel⟩, t_in 9 (by decide +kernel), by decide⟩
theorem ts_X8_lowest : Cond.static yX8_lowest ∈ lw_tbl := t_in 757 (by decide +kernel)
theorem tm_X8_grow : tM yX8_grow cX8_grow 7 none 2 := ⟨t_in 1051 (by decide +kernel), ⟨by decide +kernel, by decide +kernel, by decide +kernel⟩, t_in 9 (by decide +kernel), by decide⟩
theorem ti_X8_grow : Cond.instanceMethod yX8_grow ∈ lw_tbl ∧ Cond.selects (yX8_grow).cls yX8_grow yX8_grow ∈ lw_tbl := ⟨t_in 1050 (by decide +kernel), t_inS 61 (by decide +kernel)⟩
theorem tm_X8_tree : tM yX8_tree cX8_tree 2 (some .int) 1 := ⟨t_in 1047 (by decide +kernel), ⟨by decide +kernel, by decide +kernel, by decide +kernel⟩, t_in 9 (by decide +kernel), by decide⟩
theorem ti_X8_tree : Cond.instanceMethod yX8_tree ∈ lw_tbl ∧ Cond.selects (yX8_tree).cls yX8_tree yX8_tree ∈ lw_tbl := ⟨t_in 1046 (by decide +kernel), t_inS 60 (by decide +kernel)⟩
theorem tm_X8_nodes : tM yX8_nodes cX8_nodes 3 (some .int) 1 := ⟨t_in 1043 (by decide +kernel), ⟨by decide +kernel, by decide +kernel, by decide +kernel⟩, t_in 9 (by decide +kernel), by decide⟩
theorem ti_X8_nodes : Cond.instanceMethod yX8_nodes ∈ lw_tbl ∧ Cond.selects (yX8_nodes).cls yX8_nodes yX8_nodes ∈ lw_tbl := ⟨t_in 1041 (by decide +kernel), t_in 1042 (by decide +kernel)⟩
theorem tm_X8_isNode : tM yX8_isNode cX8_isNode 2 (some .boolean) 1 := ⟨t_in 1063 (by decide +kernel), ⟨by decide +kernel, by decide +kernel, by decide +kernel⟩, t_in 9 (by decide +kernel), by decide⟩
theorem ti_X8_isNode : Cond.instanceMethod yX8_isNode ∈ lw_tbl ∧ Cond.selects (yX8_isNode).cls yX8_isNode yX8_isNode ∈ lw_tbl := ⟨t_in 1062 (by decide +kernel), t_inS 63 (by decide +kernel)⟩
theorem tm_X8_nodeType : tM yX8_nodeType cX8_nodeType 4 (some .int) 2 := ⟨t_in 1059 (by decide +kernel), ⟨by decide +kernel, by decide +kernel, by decide +kernel⟩, t_in 9 (by decide +kernel), by decide⟩
theorem ti_X8_nodeType : Cond.instanceMethod yX8_nodeType ∈ lw_tbl ∧ Cond.selects (yX8_nodeType).cls yX8_nodeType yX8_nodeType ∈ lw_tbl := ⟨t_in 1057 (by decide +kernel), t_in 1058 (by decide +kernel)⟩
theorem tm_X8_parent : tM yX8_parent cX8_parent 4 (some .int) 2 := ⟨t_in 1067 (by decide +kernel), ⟨by decide +kernel, by decide +kernel, by decide +kernel⟩, t_in 9 (by decide +kernel), by decide⟩
theorem ti_X8_parent : Cond.instanceMethod yX8_parent ∈ lw_tbl ∧ Cond.selects (yX8_parent).cls yX8_parent yX8_parent ∈ lw_tbl := ⟨t_in 1065 (by decide +kernel), t_in 1066 (by decide +kernel)⟩
theorem tm_X8_depth : tM yX8_depth cX8_depth 7 (some .int) 2 := ⟨t_in 1071 (by decide +kernel), ⟨by decide +kernel, by decide +kernel, by decide +kernel⟩, t_in 9 (by decide +kernel), by decide⟩
theorem ti_X8_depth : Cond.instanceMethod yX8_depth ∈ lw_tbl ∧ Cond.selects (yX8_depth).cls yX8_depth yX8_depth ∈ lw_tbl := ⟨t_in 1069 (by decide +kernel), t_in 1070 (by decide +kernel)⟩
theorem tm_X8_put : tM yX8_put cX8_put 2 none 1 := ⟨t_in 1079 (by decide +kernel), ⟨by decide +kernel, by decide +kernel, by decide +kernel⟩, t_in 9 (by decide +kernel), by decide⟩
theorem ti_X8_put : Cond.instanceMethod yX8_put ∈ lw_tbl ∧ Cond.selects (yX8_put).cls yX8_put yX8_put ∈ lw_tbl := ⟨t_in 1078 (by decide +kernel), t_inS 64 (by decide +kernel)⟩
theorem tm_X8_write : tM yX8_write cX8_write 5 none 1 := ⟨t_in 1083 (by decide +kernel), ⟨by decide +kernel, by decide +kernel, by decide +kernel⟩, t_in 9 (by decide +kernel), by decide⟩
theorem ti_X8_write : Cond.instanceMethod yX8_write ∈ lw_tbl ∧ Cond.selects (yX8_write).cls yX8_write yX8_write ∈ lw_tbl := ⟨t_in 1082 (by decide +kernel), t_inS 65 (by decide +kernel)⟩
theorem tm_X8_writeFormula : tM yX8_writeFormula cX8_writeFormula 3 (some .int) 1 := ⟨t_in 1075 (by decide +kernel), ⟨by decide +kernel, by decide +kernel, by decide +kernel⟩, t_in 9 (by decide +kernel), by decide⟩
theorem ti_X8_writeFormula : Cond.instanceMethod yX8_writeFormula ∈ lw_tbl ∧ Cond.selects (yX8_writeFormula).cls yX8_writeFormula yX8_writeFormula ∈ lw_tbl := ⟨t_in 1073 (by decide +kernel), t_in 1074 (by decide +kernel)⟩
theorem tm_X8_output : tM yX8_output cX8_output 2 (some .int) 1 := ⟨t_in 1087 (by decide +kernel), ⟨by decide +kernel, by decide +kernel, by decide +kernel⟩, t_in 9 (by decide +kernel), by decide⟩
theorem ti_X8_output : Cond.instanceMethod yX8_output ∈ lw_tbl ∧ Cond.selects (yX8_output).cls yX8_output yX8_output ∈ lw_tbl := ⟨t_in 1085 (by decide +kernel), t_in 1086 (by decide +kernel)⟩
theorem tm_X8_feed : tM yX8_feed cX8_feed 2 (some .int) 1 := ⟨t_in 1091 (by decide +kernel), ⟨by decide +kernel, by decide +kernel, by decide +kernel⟩, t_in 9 (by decide +kernel), by decide⟩
theorem ti_X8_feed : Cond.instanceMethod yX8_feed ∈ lw_tbl ∧ Cond.selects (yX8_feed).cls yX8_feed yX8_feed ∈ lw_tbl := ⟨t_in 1089 (by decide +kernel), t_in 1090 (by decide +kernel)⟩
theorem tm_X8_here : tM yX8_here cX8_here 1 (some .int) 0 := ⟨t_in 1112 (by decide +kernel), ⟨by decide +kernel, by decide +kernel, by decide +kernel⟩, t_in 9 (by decide +kernel), by decide⟩
theorem ti_X8_here : Cond.instanceMethod yX8_here ∈ lw_tbl ∧ Cond.selects (yX8_here).cls yX8_here yX8_here ∈ lw_tbl := ⟨t_in 1111 (by decide +kernel), t_inS 69 (by decide +kernel)⟩
theorem tm_X8_fail : tM yX8_fail cX8_fail 1 none 0 := ⟨t_in 1117 (by decide +kernel), ⟨by decide +kernel, by decide +kernel, by decide +kernel⟩, t_in 9 (by decide +kernel), by decide⟩
theorem ti_X8_fail : Cond.instanceMethod yX8_fail ∈ lw_tbl ∧ Cond.selects (yX8_fail).cls yX8_fail yX8_fail ∈ lw_tbl := ⟨t_in 1116 (by decide +kernel), t_inS 70 (by decide +kernel)⟩
theorem tm_X8_all : tM yX8_all cX8_all 1 (some .long) 0 := ⟨t_in 766 (by decide +kernel), ⟨by decide +kernel, by decide +kernel, by decide +kernel⟩, t_in 9 (by decide +kernel), by decide⟩
theorem ti_X8_all : Cond.instanceMethod yX8_all ∈ lw_tbl ∧ Cond.selects (yX8_all).cls yX8_all yX8_all ∈ lw_tbl := ⟨t_in 765 (by decide +kernel), t_inS 40 (by decide +kernel)⟩
theorem tm_X8_variable : tM yX8_variable cX8_variable 5 (some .long) 1 := ⟨t_in 744 (by decide +kernel), ⟨by decide +kernel, by decide +kernel, by decide +kernel⟩, t_in 9 (by decide +kernel), by decide⟩
theorem ti_X8_variable : Cond.instanceMethod yX8_variable ∈ lw_tbl ∧ Cond.selects (yX8_variable).cls yX8_variable yX8_variable ∈ lw_tbl := ⟨t_in 743 (by decide +kernel), t_inS 36 (by decide +kernel)⟩
theorem tm_X8_factor : tM yX8_factor cX8_factor 5 (some .long) 1 := ⟨t_in 1108 (by decide +kernel), ⟨by decide +kernel, by decide +kernel, by decide +kernel⟩, t_in 9 (by decide +kernel), by decide⟩
theorem ti_X8_factor : Cond.instanceMethod yX8_factor ∈ lw_tbl ∧ Cond.selects (yX8_factor).cls yX8_factor yX8_factor ∈ lw_tbl := ⟨t_in 1107 (by decide +kernel), t_inS 68 (by decide +kernel)⟩
theorem tm_X8_term : tM yX8_term cX8_term 4 (some .long) 1 := ⟨t_in 1104 (by decide +kernel), ⟨by decide +kernel, by decide +kernel, by decide +kernel⟩, t_in 9 (by decide +kernel), by decide⟩
theorem ti_X8_term : Cond.instanceMethod yX8_term ∈ lw_tbl ∧ Cond.selects (yX8_term).cls yX8_term yX8_term ∈ lw_tbl := ⟨t_in 1103 (by decide +kernel), t_inS 67 (by decide +kernel)⟩
theorem tm_X8_formula : tM yX8_formula cX8_formula 4 (some .long) 1 := ⟨t_in 1100 (by decide +kernel), ⟨by decide +kernel, by decide +kernel, by decide +kernel⟩, t_in 9 (by decide +kernel), by decide⟩
theorem ti_X8_formula : Cond.instanceMethod yX8_formula ∈ lw_tbl ∧ Cond.selects (yX8_formula).cls yX8_formula yX8_formula ∈ lw_tbl := ⟨t_in 1099 (by decide +kernel), t_inS 66 (by decide +kernel)⟩
theorem tm_X8_parse : tM yX8_parse cX8_parse 4 (some .int) 1 := ⟨t_in 1096 (by decide +kernel), ⟨by decide +kernel, by decide +kernel, by decide +kernel⟩, t_in 9 (by decide +kernel), by decide⟩
theorem ti_X8_parse : Cond.instanceMethod yX8_parse ∈ lw_tbl ∧ Cond.selects (yX8_parse).cls yX8_parse yX8_parse ∈ lw_tbl := ⟨t_in 1094 (by decide +kernel), t_in 1095 (by decide +kernel)⟩
theorem tm_X8_combine : tM yX8_combine cX8_combine 9 (some .int) 4 := ⟨t_in 1122 (by decide +kernel), ⟨by decide +kernel, by decide +kernel, by decide +kernel⟩, t_in 9 (by decide +kernel), by decide⟩
theorem ti_X8_combine : Cond.instanceMethod yX8_combine ∈ lw_tbl ∧ Cond.selects (yX8_combine).cls yX8_combine yX8_combine ∈ lw_tbl := ⟨t_in 1120 (by decide +kernel), t_in 1121 (by decide +kernel)⟩
theorem tm_X8_dual : tM yX8_dual cX8_dual 6 (some .int) 2 := ⟨t_in 1127 (by decide +kernel), ⟨by decide +kernel, by decide +kernel, by decide +kernel⟩, t_in 9 (by decide +kernel), by decide⟩
theorem ti_X8_dual : Cond.instanceMethod yX8_dual ∈ lw_tbl ∧ Cond.selects (yX8_dual).cls yX8_dual yX8_dual ∈ lw_tbl := ⟨t_in 1125 (by decide +kernel), t_in 1126 (by decide +kernel)⟩
theorem tm_X8_cofactor : tM yX8_cofactor cX8_cofactor 8 (some .int) 4 := ⟨t_in 1131 (by decide +kernel), ⟨by decide +kernel, by decide +kernel, by decide +kernel⟩, t_in 9 (by decide +kernel), by decide⟩
theorem ti_X8_cofactor : Cond.instanceMethod yX8_cofactor ∈ lw_tbl ∧ Cond.selects (yX8_cofactor).cls yX8_cofactor yX8_cofactor ∈ lw_tbl := ⟨t_in 1129 (by decide +kernel), t_in 1130 (by decide +kernel)⟩
theorem tm_X8_substitute : tM yX8_substitute cX8_substitute 9 (some .int) 4 := ⟨t_in 1135 (by decide +kernel), ⟨by decide +kernel, by decide +kernel, by decide +kernel⟩, t_in 9 (by decide +kernel), by decide⟩
theorem ti_X8_substitute : Cond.instanceMethod yX8_substitute ∈ lw_tbl ∧ Cond.selects (yX8_substitute).cls yX8_substitute yX8_substitute ∈ lw_tbl := ⟨t_in 1133 (by decide +kernel), t_in 1134 (by decide +kernel)⟩
theorem tm_X8_exchange : tM yX8_exchange cX8_exchange 9 (some .int) 4 := ⟨t_in 1139 (by decide +kernel), ⟨by decide +kernel, by decide +kernel, by decide +kernel⟩, t_in 9 (by decide +kernel), by decide⟩
theorem ti_X8_exchange : Cond.instanceMethod yX8_exchange ∈ lw_tbl ∧ Cond.selects (yX8_exchange).cls yX8_exchange yX8_exchange ∈ lw_tbl := ⟨t_in 1137 (by decide +kernel), t_in 1138 (by decide +kernel)⟩
theorem tm_X8_randomOf : tM yX8_randomOf cX8_randomOf 9 (some .long) 2 := ⟨t_in 1148 (by decide +kernel), ⟨by decide +kernel, by decide +kernel, by decide +kernel⟩, t_in 9 (by decide +kernel), by decide⟩
theorem ti_X8_randomOf : Cond.instanceMethod yX8_randomOf ∈ lw_tbl ∧ Cond.selects (yX8_randomOf).cls yX8_randomOf yX8_randomOf ∈ lw_tbl := ⟨t_in 1147 (by decide +kernel), t_inS 71 (by decide +kernel)⟩
theorem tm_X8_random : tM yX8_random cX8_random 4 (some .int) 3 := ⟨t_in 1143 (by decide +kernel), ⟨by decide +kernel, by decide +kernel, by decide +kernel⟩, t_in 9 (by decide +kernel), by decide⟩
theorem ti_X8_random : Cond.instanceMethod yX8_random ∈ lw_tbl ∧ Cond.selects (yX8_random).cls yX8_random yX8_random ∈ lw_tbl := ⟨t_in 1141 (by decide +kernel), t_in 1142 (by decide +kernel)⟩
theorem tm_X8_readOnceTrials : tM yX8_readOnceTrials cX8_readOnceTrials 6 (some .int) 3 := ⟨t_in 1153 (by decide +kernel), ⟨by decide +kernel, by decide +kernel, by decide +kernel⟩, t_in 9 (by decide +kernel), by decide⟩
theorem ti_X8_readOnceTrials : Cond.instanceMethod yX8_readOnceTrials ∈ lw_tbl ∧ Cond.selects (yX8_readOnceTrials).cls yX8_readOnceTrials yX8_readOnceTrials ∈ lw_tbl := ⟨t_in 1151 (by decide +kernel), t_in 1152 (by decide +kernel)⟩
theorem tm_X8_make : tM yX8_make cX8_make 5 none 3 := ⟨t_in 748 (by decide +kernel), ⟨by decide +kernel, by decide +kernel, by decide +kernel⟩, t_in 9 (by decide +kernel), by decide⟩
theorem ti_X8_make : Cond.instanceMethod yX8_make ∈ lw_tbl ∧ Cond.selects (yX8_make).cls yX8_make yX8_make ∈ lw_tbl := ⟨t_in 747 (by decide +kernel), t_inS 37 (by decide +kernel)⟩
theorem tm_X8_join : tM yX8_join cX8_join 7 none 3 := ⟨t_in 755 (by decide +kernel), ⟨by decide +kernel, by decide +kernel, by decide +kernel⟩, t_in 9 (by decide +kernel), by decide⟩
theorem ti_X8_join : Cond.instanceMethod yX8_join ∈ lw_tbl ∧ Cond.selects (yX8_join).cls yX8_join yX8_join ∈ lw_tbl := ⟨t_in 754 (by decide +kernel), t_inS 38 (by decide +kernel)⟩
theorem tm_X8_listFunctions : tM yX8_listFunctions cX8_listFunctions 4 none 0 := ⟨t_in 740 (by decide +kernel), ⟨by decide +kernel, by decide +kernel, by decide +kernel⟩, t_in 9 (by decide +kernel), by decide⟩
theorem ti_X8_listFunctions : Cond.instanceMethod yX8_listFunctions ∈ lw_tbl ∧ Cond.selects (yX8_listFunctions).cls yX8_listFunctions yX8_listFunctions ∈ lw_tbl := ⟨t_in 739 (by decide +kernel), t_inS 35 (by decide +kernel)⟩
theorem tm_X8_insert : tM yX8_insert cX8_insert 4 none 1 := ⟨t_in 762 (by decide +kernel), ⟨by decide +kernel, by decide +kernel, by decide +kernel⟩, t_in 9 (by decide +kernel), by decide⟩
theorem ti_X8_insert : Cond.instanceMethod yX8_insert ∈ lw_tbl ∧ Cond.selects (yX8_insert).cls yX8_insert yX8_insert ∈ lw_tbl := ⟨t_in 761 (by decide +kernel), t_inS 39 (by decide +kernel)⟩
theorem tm_X8_addSample : tM yX8_addSample cX8_addSample 3 (some .int) 2 := ⟨t_in 1158 (by decide +kernel), ⟨by decide +kernel, by decide +kernel, by decide +kernel⟩, t_in 9 (by decide +kernel), by decide⟩
theorem ti_X8_addSample : Cond.instanceMethod yX8_addSample ∈ lw_tbl ∧ Cond.selects (yX8_addSample).cls yX8_addSample yX8_addSample ∈ lw_tbl := ⟨t_in 1156 (by decide +kernel), t_in 1157 (by decide +kernel)⟩
theorem tm_X8_removeSample : tM yX8_removeSample cX8_removeSample 2 (some .int) 1 := ⟨t_in 1162 (by decide +kernel), ⟨by decide +kernel, by decide +kernel, by decide +kernel⟩, t_in 9 (by decide +kernel), by decide⟩
theorem ti_X8_removeSample : Cond.instanceMethod yX8_removeSample ∈ lw_tbl ∧ Cond.selects (yX8_removeSample).cls yX8_removeSample yX8_removeSample ∈ lw_tbl := ⟨t_in 1160 (by decide +kernel), t_in 1161 (by decide +kernel)⟩
theorem tm_X8_agrees : tM yX8_agrees cX8_agrees 3 (some .boolean) 1 := ⟨t_in 1170 (by decide +kernel), ⟨by decide +kernel, by decide +kernel, by decide +kernel⟩, t_in 9 (by decide +kernel), by decide⟩
theorem ti_X8_agrees : Cond.instanceMethod yX8_agrees ∈ lw_tbl ∧ Cond.selects (yX8_agrees).cls yX8_agrees yX8_agrees ∈ lw_tbl := ⟨t_in 1169 (by decide +kernel), t_inS 72 (by decide +kernel)⟩
theorem tm_X8_extensions : tM yX8_extensions cX8_extensions 3 (some .int) 0 := ⟨t_in 1166 (by decide +kernel), ⟨by decide +kernel, by decide +kernel, by decide +kernel⟩, t_in 9 (by decide +kernel), by decide⟩
theorem ti_X8_extensions : Cond.instanceMethod yX8_extensions ∈ lw_tbl ∧ Cond.selects (yX8_extensions).cls yX8_extensions yX8_extensions ∈ lw_tbl := ⟨t_in 1164 (by decide +kernel), t_in 1165 (by decide +kernel)⟩
theorem tm_X8_extension : tM yX8_extension cX8_extension 4 (some .long) 1 := ⟨t_in 1174 (by decide +kernel), ⟨by decide +kernel, by decide +kernel, by decide +kernel⟩, t_in 9 (by decide +kernel), by decide⟩
theorem ti_X8_extension : Cond.instanceMethod yX8_extension ∈ lw_tbl ∧ Cond.selects (yX8_extension).cls yX8_extension yX8_extension ∈ lw_tbl := ⟨t_in 1172 (by decide +kernel), t_in 1173 (by decide +kernel)⟩
theorem tm_X8_simplestExtension : tM yX8_simplestExtension cX8_simplestExtension 3 (some .long) 0 := ⟨t_in 1178 (by decide +kernel), ⟨by decide +kernel, by decide +kernel, by decide +kernel⟩, t_in 9 (by decide +kernel), by decide⟩
theorem ti_X8_simplestExtension : Cond.instanceMethod yX8_simplestExtension ∈ lw_tbl ∧ Cond.selects (yX8_simplestExtension).cls yX8_simplestExtension yX8_simplestExtension ∈ lw_tbl := ⟨t_in 1176 (by decide +kernel), t_in 1177 (by decide +kernel)⟩
theorem tm_X8_readOnceCount : tM yX8_readOnceCount cX8_readOnceCount 4 (some .int) 1 := ⟨t_in 1182 (by decide +kernel), ⟨by decide +kernel, by decide +kernel, by decide +kernel⟩, t_in 9 (by decide +kernel), by decide⟩
theorem ti_X8_readOnceCount : Cond.instanceMethod yX8_readOnceCount ∈ lw_tbl ∧ Cond.selects (yX8_readOnceCount).cls yX8_readOnceCount yX8_readOnceCount ∈ lw_tbl := ⟨t_in 1180 (by decide +kernel), t_in 1181 (by decide +kernel)⟩
theorem tm_X8_addStep : tM yX8_addStep cX8_addStep 5 (some .int) 4 := ⟨t_in 1186 (by decide +kernel), ⟨by decide +kernel, by decide +kernel, by decide +kernel⟩, t_in 9 (by decide +kernel), by decide⟩
theorem ti_X8_addStep : Cond.instanceMethod yX8_addStep ∈ lw_tbl ∧ Cond.selects (yX8_addStep).cls yX8_addStep yX8_addStep ∈ lw_tbl := ⟨t_in 1184 (by decide +kernel), t_in 1185 (by decide +kernel)⟩
theorem tm_X8_clearSteps : tM yX8_clearSteps cX8_clearSteps 2 (some .int) 0 := ⟨t_in 1190 (by decide +kernel), ⟨by decide +kernel, by decide +kernel, by decide +kernel⟩, t_in 9 (by decide +kernel), by decide⟩
theorem ti_X8_clearSteps : Cond.instanceMethod yX8_clearSteps ∈ lw_tbl ∧ Cond.selects (yX8_clearSteps).cls yX8_clearSteps yX8_clearSteps ∈ lw_tbl := ⟨t_in 1188 (by decide +kernel), t_in 1189 (by decide +kernel)⟩
theorem tm_X8_execute : tM yX8_execute cX8_execute 3 (some .int) 1 := ⟨t_in 1198 (by decide +kernel), ⟨by decide +kernel, by decide +kernel, by decide +kernel⟩, t_in 9 (by decide +kernel), by decide⟩
theorem ti_X8_execute : Cond.instanceMethod yX8_execute ∈ lw_tbl ∧ Cond.selects (yX8_execute).cls yX8_execute yX8_execute ∈ lw_tbl := ⟨t_in 1197 (by decide +kernel), t_inS 73 (by decide +kernel)⟩
theorem tm_X8_runSteps : tM yX8_runSteps cX8_runSteps 3 (some .int) 0 := ⟨t_in 1194 (by decide +kernel), ⟨by decide +kernel, by decide +kernel, by decide +kernel⟩, t_in 9 (by decide +kernel), by decide⟩
theorem ti_X8_runSteps : Cond.instanceMethod yX8_runSteps ∈ lw_tbl ∧ Cond.selects (yX8_runSteps).cls yX8_runSteps yX8_runSteps ∈ lw_tbl := ⟨t_in 1192 (by decide +kernel), t_in 1193 (by decide +kernel)⟩
theorem tm_X8_undo : tM yX8_undo cX8_undo 2 (some .int) 0 := ⟨t_in 1205 (by decide +kernel), ⟨by decide +kernel, by decide +kernel, by decide +kernel⟩, t_in 9 (by decide +kernel), by decide⟩
theorem ti_X8_undo : Cond.instanceMethod yX8_undo ∈ lw_tbl ∧ Cond.selects (yX8_undo).cls yX8_undo yX8_undo ∈ lw_tbl := ⟨t_in 1203 (by decide +kernel), t_in 1204 (by decide +kernel)⟩
theorem tm_X8_save : tM yX8_save cX8_save 2 (some .int) 0 := ⟨t_in 1209 (by decide +kernel), ⟨by decide +kernel, by decide +kernel, by decide +kernel⟩, t_in 9 (by decide +kernel), by decide⟩
theorem ti_X8_save : Cond.instanceMethod yX8_save ∈ lw_tbl ∧ Cond.selects (yX8_save).cls yX8_save yX8_save ∈ lw_tbl := ⟨t_in 1207 (by decide +kernel), t_in 1208 (by decide +kernel)⟩
theorem tm_X8_restore : tM yX8_restore cX8_restore 2 (some .int) 0 := ⟨t_in 1213 (by decide +kernel), ⟨by decide +kernel, by decide +kernel, by decide +kernel⟩, t_in 9 (by decide +kernel), by decide⟩
theorem ti_X8_restore : Cond.instanceMethod yX8_restore ∈ lw_tbl ∧ Cond.selects (yX8_restore).cls yX8_restore yX8_restore ∈ lw_tbl := ⟨t_in 1211 (by decide +kernel), t_in 1212 (by decide +kernel)⟩
theorem tm_X8_isArray : tM yX8_isArray cX8_isArray 1 (some .boolean) 1 := ⟨t_in 1221 (by decide +kernel), ⟨by decide +kernel, by decide +kernel, by decide +kernel⟩, t_in 9 (by decide +kernel), by decide⟩
theorem ts_X8_isArray : Cond.static yX8_isArray ∈ lw_tbl := t_in 1220 (by decide +kernel)
theorem tm_X8_createArray : tM yX8_createArray cX8_createArray 4 (some .int) 2 := ⟨t_in 1218 (by decide +kernel), ⟨by decide +kernel, by decide +kernel, by decide +kernel⟩, t_in 9 (by decide +kernel), by decide⟩
theorem ti_X8_createArray : Cond.instanceMethod yX8_createArray ∈ lw_tbl ∧ Cond.selects (yX8_createArray).cls yX8_createArray yX8_createArray ∈ lw_tbl := ⟨t_in 1216 (by decide +kernel), t_in 1217 (by decide +kernel)⟩
theorem tm_X8_setElement : tM yX8_setElement cX8_setElement 4 (some .int) 3 := ⟨t_in 1225 (by decide +kernel), ⟨by decide +kernel, by decide +kernel, by decide +kernel⟩, t_in 9 (by decide +kernel), by decide⟩
theorem ti_X8_setElement : Cond.instanceMethod yX8_setElement ∈ lw_tbl ∧ Cond.selects (yX8_setElement).cls yX8_setElement yX8_setElement ∈ lw_tbl := ⟨t_in 1223 (by decide +kernel), t_in 1224 (by decide +kernel)⟩
theorem tm_X8_element : tM yX8_element cX8_element 3 (some .long) 2 := ⟨t_in 1229 (by decide +kernel), ⟨by decide +kernel, by decide +kernel, by decide +kernel⟩, t_in 9 (by decide +kernel), by decide⟩
theorem ti_X8_element : Cond.instanceMethod yX8_element ∈ lw_tbl ∧ Cond.selects (yX8_element).cls yX8_element yX8_element ∈ lw_tbl := ⟨t_in 1227 (by decide +kernel), t_in 1228 (by decide +kernel)⟩
theorem tm_X8_compare : tM yX8_compare cX8_compare 5 (some .int) 2 := ⟨t_in 1234 (by decide +kernel), ⟨by decide +kernel, by decide +kernel, by decide +kernel⟩, t_in 9 (by decide +kernel), by decide⟩
theorem ti_X8_compare : Cond.instanceMethod yX8_compare ∈ lw_tbl ∧ Cond.selects (yX8_compare).cls yX8_compare yX8_compare ∈ lw_tbl := ⟨t_in 1232 (by decide +kernel), t_in 1233 (by decide +kernel)⟩
theorem tm_X8_usedSlots : tM yX8_usedSlots cX8_usedSlots 3 (some .int) 0 := ⟨t_in 934 (by decide +kernel), ⟨by decide +kernel, by decide +kernel, by decide +kernel⟩, t_in 9 (by decide +kernel), by decide⟩
theorem ti_X8_usedSlots : Cond.instanceMethod yX8_usedSlots ∈ lw_tbl ∧ Cond.selects (yX8_usedSlots).cls yX8_usedSlots yX8_usedSlots ∈ lw_tbl := ⟨t_in 932 (by decide +kernel), t_in 933 (by decide +kernel)⟩
theorem tm_X8_undoable : tM yX8_undoable cX8_undoable 1 (some .int) 0 := ⟨t_in 1239 (by decide +kernel), ⟨by decide +kernel, by decide +kernel, by decide +kernel⟩, t_in 9 (by decide +kernel), by decide⟩
theorem ti_X8_undoable : Cond.instanceMethod yX8_undoable ∈ lw_tbl ∧ Cond.selects (yX8_undoable).cls yX8_undoable yX8_undoable ∈ lw_tbl := ⟨t_in 1237 (by decide +kernel), t_in 1238 (by decide +kernel)⟩
theorem tm_J6_bitCount_0f7a4 : tM yJ6_bitCount_0f7a4 cJ6_bitCount_0f7a4 1 (some .int) 1 := ⟨t_in 420 (by decide +kernel), ⟨by decide +kernel, by decide +kernel, by decide +kernel⟩, t_in 12 (by decide +kernel), by decide⟩
theorem ts_J6_bitCount_0f7a4 : Cond.static yJ6_bitCount_0f7a4 ∈ lw_tbl := t_in 419 (by decide +kernel)
theorem tm_J13_bitCount_95d88 : tM yJ13_bitCount_95d88 cJ13_bitCount_95d88 2 (some .int) 1 := ⟨t_in 253 (by decide +kernel), ⟨by decide +kernel, by decide +kernel, by decide +kernel⟩, t_in 11 (by decide +kernel), by decide⟩
theorem ts_J13_bitCount_95d88 : Cond.static yJ13_bitCount_95d88 ∈ lw_tbl := t_in 252 (by decide +kernel)
theorem tm_J7_fill_d0a16 : tM yJ7_fill_d0a16 cJ7_fill_d0a16 5 none 2 := ⟨t_in 31 (by decide +kernel), ⟨by decide +kernel, by decide +kernel, by decide +kernel⟩, t_in 3 (by decide +kernel), by decide⟩
theorem ts_J7_fill_d0a16 : Cond.static yJ7_fill_d0a16 ∈ lw_tbl := t_in 30 (by decide +kernel)
theorem tm_J7_fill_53178 : tM yJ7_fill_53178 cJ7_fill_53178 4 none 2 := ⟨t_in 178 (by decide +kernel), ⟨by decide +kernel, by decide +kernel, by decide +kernel⟩, t_in 3 (by decide +kernel), by decide⟩
theorem ts_J7_fill_53178 : Cond.static yJ7_fill_53178 ∈ lw_tbl := t_in 177 (by decide +kernel)
theorem oi_inst : Cond.instanceMethod objectInit ∈ lw_tbl := t_in 20 (by decide +kernel)
theorem oi_code : Cond.code objectInit ⟨#[0xb1]⟩ 1 none ∈ lw_tbl := t_in 21 (by decide +kernel)
theorem ac_int : Cond.arrayClass .int ∈ lw_tbl := t_in 58 (by decide +kernel)
theorem ac_long : Cond.arrayClass .long ∈ lw_tbl := t_in 57 (by decide +kernel)
theorem ac_boolean : Cond.arrayClass .boolean ∈ lw_tbl := t_in 885 (by decide +kernel)
theorem cp_nat : Cond.native arraycopyName ∈ lw_tbl := t_in 250 (by decide +kernel)
theorem cp_st : Cond.static arraycopyName ∈ lw_tbl := t_in 249 (by decide +kernel)
theorem cp_in : Cond.initialized "java/lang/System" ∈ lw_tbl := t_in 10 (by decide +kernel)
end
