section
-- ===== PART A: goes FIRST, ahead of the names: the tables' words, and 'selects' of the private methods out of them =====
/-- a private method of a class that the tables say can be made, by its rows of tables_1 -/
def lw_okq (q : MethodName × Nat) : Prop := (q.1.cls ≠ "java/lang/invoke/MethodHandle" ∧ q.1.cls ≠ "java/lang/invoke/VarHandle") ∧ Cond.instantiable q.1.cls q.2 ∈ tables_1 ∧ Cond.privateMethod q.1 ∈ tables_1 ∧ Cond.instanceMethod q.1 ∈ tables_1
theorem lw_p0 : lw_okq (⟨"ReadOnceRecognizer", "store", "(IJ)I"⟩, 11) := ⟨⟨by decide +kernel, by decide +kernel⟩, List.mem_of_getElem? (i := 15) (by decide +kernel), List.mem_of_getElem? (i := 241) (by decide +kernel), List.mem_of_getElem? (i := 242) (by decide +kernel)⟩
theorem lw_p1 : lw_okq (⟨"ReadOnceRecognizer", "slotError", "(I)I"⟩, 11) := ⟨⟨by decide +kernel, by decide +kernel⟩, List.mem_of_getElem? (i := 15) (by decide +kernel), List.mem_of_getElem? (i := 262) (by decide +kernel), List.mem_of_getElem? (i := 263) (by decide +kernel)⟩
theorem lw_p2 : lw_okq (⟨"ReadOnceRecognizer", "isPoint", "(I)Z"⟩, 11) := ⟨⟨by decide +kernel, by decide +kernel⟩, List.mem_of_getElem? (i := 15) (by decide +kernel), List.mem_of_getElem? (i := 285) (by decide +kernel), List.mem_of_getElem? (i := 286) (by decide +kernel)⟩
theorem lw_p3 : lw_okq (⟨"ReadOnceRecognizer", "drawGraph", "(I)I"⟩, 11) := ⟨⟨by decide +kernel, by decide +kernel⟩, List.mem_of_getElem? (i := 15) (by decide +kernel), List.mem_of_getElem? (i := 321) (by decide +kernel), List.mem_of_getElem? (i := 322) (by decide +kernel)⟩
theorem lw_p4 : lw_okq (⟨"ReadOnceRecognizer$Graph", "addPrime", "(I)V"⟩, 5) := ⟨⟨by decide +kernel, by decide +kernel⟩, List.mem_of_getElem? (i := 79) (by decide +kernel), List.mem_of_getElem? (i := 335) (by decide +kernel), List.mem_of_getElem? (i := 336) (by decide +kernel)⟩
theorem lw_p5 : lw_okq (⟨"ReadOnceRecognizer", "isVariable", "(I)Z"⟩, 11) := ⟨⟨by decide +kernel, by decide +kernel⟩, List.mem_of_getElem? (i := 15) (by decide +kernel), List.mem_of_getElem? (i := 355) (by decide +kernel), List.mem_of_getElem? (i := 356) (by decide +kernel)⟩
theorem lw_p6 : lw_okq (⟨"ReadOnceRecognizer$Graph", "areAdjacent", "(II)Z"⟩, 5) := ⟨⟨by decide +kernel, by decide +kernel⟩, List.mem_of_getElem? (i := 79) (by decide +kernel), List.mem_of_getElem? (i := 367) (by decide +kernel), List.mem_of_getElem? (i := 368) (by decide +kernel)⟩
theorem lw_p7 : lw_okq (⟨"ReadOnceRecognizer$Graph", "findPathFrom", "(II)Z"⟩, 5) := ⟨⟨by decide +kernel, by decide +kernel⟩, List.mem_of_getElem? (i := 79) (by decide +kernel), List.mem_of_getElem? (i := 371) (by decide +kernel), List.mem_of_getElem? (i := 372) (by decide +kernel)⟩
theorem lw_p8 : lw_okq (⟨"ReadOnceRecognizer$Graph", "isMaximalClique", "(I)Z"⟩, 5) := ⟨⟨by decide +kernel, by decide +kernel⟩, List.mem_of_getElem? (i := 79) (by decide +kernel), List.mem_of_getElem? (i := 387) (by decide +kernel), List.mem_of_getElem? (i := 388) (by decide +kernel)⟩
theorem lw_p9 : lw_okq (⟨"ReadOnceRecognizer$Graph", "isPrime", "(I)Z"⟩, 5) := ⟨⟨by decide +kernel, by decide +kernel⟩, List.mem_of_getElem? (i := 79) (by decide +kernel), List.mem_of_getElem? (i := 391) (by decide +kernel), List.mem_of_getElem? (i := 392) (by decide +kernel)⟩
theorem lw_p10 : lw_okq (⟨"ReadOnceRecognizer", "whyNotReadOnce", "(J)I"⟩, 11) := ⟨⟨by decide +kernel, by decide +kernel⟩, List.mem_of_getElem? (i := 15) (by decide +kernel), List.mem_of_getElem? (i := 399) (by decide +kernel), List.mem_of_getElem? (i := 400) (by decide +kernel)⟩
theorem lw_p11 : lw_okq (⟨"ReadOnceRecognizer", "growCotree", "(I)I"⟩, 11) := ⟨⟨by decide +kernel, by decide +kernel⟩, List.mem_of_getElem? (i := 15) (by decide +kernel), List.mem_of_getElem? (i := 407) (by decide +kernel), List.mem_of_getElem? (i := 408) (by decide +kernel)⟩
theorem lw_p12 : lw_okq (⟨"ReadOnceRecognizer$Cotree", "grow", "(LReadOnceRecognizer$Graph;III)V"⟩, 3) := ⟨⟨by decide +kernel, by decide +kernel⟩, List.mem_of_getElem? (i := 106) (by decide +kernel), List.mem_of_getElem? (i := 415) (by decide +kernel), List.mem_of_getElem? (i := 416) (by decide +kernel)⟩
theorem lw_p13 : lw_okq (⟨"ReadOnceRecognizer$Cotree", "growChildren", "(LReadOnceRecognizer$Graph;III)V"⟩, 3) := ⟨⟨by decide +kernel, by decide +kernel⟩, List.mem_of_getElem? (i := 106) (by decide +kernel), List.mem_of_getElem? (i := 430) (by decide +kernel), List.mem_of_getElem? (i := 431) (by decide +kernel)⟩
theorem lw_p14 : lw_okq (⟨"ReadOnceRecognizer$Cotree", "depthOfNode", "(I)I"⟩, 3) := ⟨⟨by decide +kernel, by decide +kernel⟩, List.mem_of_getElem? (i := 106) (by decide +kernel), List.mem_of_getElem? (i := 455) (by decide +kernel), List.mem_of_getElem? (i := 456) (by decide +kernel)⟩
theorem lw_p15 : lw_okq (⟨"ReadOnceRecognizer$FormulaText", "putNode", "(LReadOnceRecognizer$Cotree;II)V"⟩, 2) := ⟨⟨by decide +kernel, by decide +kernel⟩, List.mem_of_getElem? (i := 162) (by decide +kernel), List.mem_of_getElem? (i := 472) (by decide +kernel), List.mem_of_getElem? (i := 473) (by decide +kernel)⟩
def lw_privs_1 : List (MethodName × Nat) := [(⟨"ReadOnceRecognizer", "store", "(IJ)I"⟩, 11), (⟨"ReadOnceRecognizer", "slotError", "(I)I"⟩, 11), (⟨"ReadOnceRecognizer", "isPoint", "(I)Z"⟩, 11), (⟨"ReadOnceRecognizer", "drawGraph", "(I)I"⟩, 11), (⟨"ReadOnceRecognizer$Graph", "addPrime", "(I)V"⟩, 5), (⟨"ReadOnceRecognizer", "isVariable", "(I)Z"⟩, 11), (⟨"ReadOnceRecognizer$Graph", "areAdjacent", "(II)Z"⟩, 5), (⟨"ReadOnceRecognizer$Graph", "findPathFrom", "(II)Z"⟩, 5), (⟨"ReadOnceRecognizer$Graph", "isMaximalClique", "(I)Z"⟩, 5), (⟨"ReadOnceRecognizer$Graph", "isPrime", "(I)Z"⟩, 5), (⟨"ReadOnceRecognizer", "whyNotReadOnce", "(J)I"⟩, 11), (⟨"ReadOnceRecognizer", "growCotree", "(I)I"⟩, 11), (⟨"ReadOnceRecognizer$Cotree", "grow", "(LReadOnceRecognizer$Graph;III)V"⟩, 3), (⟨"ReadOnceRecognizer$Cotree", "growChildren", "(LReadOnceRecognizer$Graph;III)V"⟩, 3), (⟨"ReadOnceRecognizer$Cotree", "depthOfNode", "(I)I"⟩, 3), (⟨"ReadOnceRecognizer$FormulaText", "putNode", "(LReadOnceRecognizer$Cotree;II)V"⟩, 2)]
theorem lw_r1 : ∀ q ∈ lw_privs_1, lw_okq q := List.forall_mem_cons.mpr ⟨lw_p0, List.forall_mem_cons.mpr ⟨lw_p1, List.forall_mem_cons.mpr ⟨lw_p2, List.forall_mem_cons.mpr ⟨lw_p3, List.forall_mem_cons.mpr ⟨lw_p4, List.forall_mem_cons.mpr ⟨lw_p5, List.forall_mem_cons.mpr ⟨lw_p6, List.forall_mem_cons.mpr ⟨lw_p7, List.forall_mem_cons.mpr ⟨lw_p8, List.forall_mem_cons.mpr ⟨lw_p9, List.forall_mem_cons.mpr ⟨lw_p10, List.forall_mem_cons.mpr ⟨lw_p11, List.forall_mem_cons.mpr ⟨lw_p12, List.forall_mem_cons.mpr ⟨lw_p13, List.forall_mem_cons.mpr ⟨lw_p14, List.forall_mem_cons.mpr ⟨lw_p15, fun _ h => absurd h List.not_mem_nil⟩⟩⟩⟩⟩⟩⟩⟩⟩⟩⟩⟩⟩⟩⟩⟩
theorem lw_p16 : lw_okq (⟨"ReadOnceRecognizer$FormulaText", "putChild", "(LReadOnceRecognizer$Cotree;II)V"⟩, 2) := ⟨⟨by decide +kernel, by decide +kernel⟩, List.mem_of_getElem? (i := 162) (by decide +kernel), List.mem_of_getElem? (i := 478) (by decide +kernel), List.mem_of_getElem? (i := 479) (by decide +kernel)⟩
theorem lw_p17 : lw_okq (⟨"ReadOnceRecognizer$Input", "readSum", "(I)J"⟩, 6) := ⟨⟨by decide +kernel, by decide +kernel⟩, List.mem_of_getElem? (i := 128) (by decide +kernel), List.mem_of_getElem? (i := 502) (by decide +kernel), List.mem_of_getElem? (i := 503) (by decide +kernel)⟩
theorem lw_p18 : lw_okq (⟨"ReadOnceRecognizer$Input", "readProduct", "(I)J"⟩, 6) := ⟨⟨by decide +kernel, by decide +kernel⟩, List.mem_of_getElem? (i := 128) (by decide +kernel), List.mem_of_getElem? (i := 506) (by decide +kernel), List.mem_of_getElem? (i := 507) (by decide +kernel)⟩
theorem lw_p19 : lw_okq (⟨"ReadOnceRecognizer$Input", "readFactor", "(I)J"⟩, 6) := ⟨⟨by decide +kernel, by decide +kernel⟩, List.mem_of_getElem? (i := 128) (by decide +kernel), List.mem_of_getElem? (i := 510) (by decide +kernel), List.mem_of_getElem? (i := 511) (by decide +kernel)⟩
theorem lw_p20 : lw_okq (⟨"ReadOnceRecognizer$Input", "nextIs", "(I)Z"⟩, 6) := ⟨⟨by decide +kernel, by decide +kernel⟩, List.mem_of_getElem? (i := 128) (by decide +kernel), List.mem_of_getElem? (i := 514) (by decide +kernel), List.mem_of_getElem? (i := 515) (by decide +kernel)⟩
theorem lw_p21 : lw_okq (⟨"ReadOnceRecognizer$Input", "readOpened", "(I)J"⟩, 6) := ⟨⟨by decide +kernel, by decide +kernel⟩, List.mem_of_getElem? (i := 128) (by decide +kernel), List.mem_of_getElem? (i := 518) (by decide +kernel), List.mem_of_getElem? (i := 519) (by decide +kernel)⟩
theorem lw_p22 : lw_okq (⟨"ReadOnceRecognizer$Input", "readAtom", "()J"⟩, 6) := ⟨⟨by decide +kernel, by decide +kernel⟩, List.mem_of_getElem? (i := 128) (by decide +kernel), List.mem_of_getElem? (i := 523) (by decide +kernel), List.mem_of_getElem? (i := 524) (by decide +kernel)⟩
theorem lw_p23 : lw_okq (⟨"ReadOnceRecognizer", "substituted", "(JIJ)J"⟩, 11) := ⟨⟨by decide +kernel, by decide +kernel⟩, List.mem_of_getElem? (i := 15) (by decide +kernel), List.mem_of_getElem? (i := 548) (by decide +kernel), List.mem_of_getElem? (i := 549) (by decide +kernel)⟩
theorem lw_p24 : lw_okq (⟨"ReadOnceRecognizer", "drawnTable", "(II)J"⟩, 11) := ⟨⟨by decide +kernel, by decide +kernel⟩, List.mem_of_getElem? (i := 15) (by decide +kernel), List.mem_of_getElem? (i := 567) (by decide +kernel), List.mem_of_getElem? (i := 568) (by decide +kernel)⟩
theorem lw_p25 : lw_okq (⟨"ReadOnceRecognizer", "openCatalog", "()LReadOnceRecognizer$Catalog;"⟩, 11) := ⟨⟨by decide +kernel, by decide +kernel⟩, List.mem_of_getElem? (i := 15) (by decide +kernel), List.mem_of_getElem? (i := 591) (by decide +kernel), List.mem_of_getElem? (i := 592) (by decide +kernel)⟩
theorem lw_p26 : lw_okq (⟨"ReadOnceRecognizer$Catalog", "enter", "(JII)V"⟩, 2) := ⟨⟨by decide +kernel, by decide +kernel⟩, List.mem_of_getElem? (i := 595) (by decide +kernel), List.mem_of_getElem? (i := 601) (by decide +kernel), List.mem_of_getElem? (i := 602) (by decide +kernel)⟩
theorem lw_p27 : lw_okq (⟨"ReadOnceRecognizer$Catalog", "enterAll", "(I[I)V"⟩, 2) := ⟨⟨by decide +kernel, by decide +kernel⟩, List.mem_of_getElem? (i := 595) (by decide +kernel), List.mem_of_getElem? (i := 606) (by decide +kernel), List.mem_of_getElem? (i := 607) (by decide +kernel)⟩
theorem lw_p28 : lw_okq (⟨"ReadOnceRecognizer$Catalog", "enterSplit", "(II[I)V"⟩, 2) := ⟨⟨by decide +kernel, by decide +kernel⟩, List.mem_of_getElem? (i := 595) (by decide +kernel), List.mem_of_getElem? (i := 613) (by decide +kernel), List.mem_of_getElem? (i := 614) (by decide +kernel)⟩
theorem lw_p29 : lw_okq (⟨"ReadOnceRecognizer$Catalog", "rootAt", "(I)I"⟩, 2) := ⟨⟨by decide +kernel, by decide +kernel⟩, List.mem_of_getElem? (i := 595) (by decide +kernel), List.mem_of_getElem? (i := 623) (by decide +kernel), List.mem_of_getElem? (i := 624) (by decide +kernel)⟩
theorem lw_p30 : lw_okq (⟨"ReadOnceRecognizer$Catalog", "enterJoined", "(JIJI)V"⟩, 2) := ⟨⟨by decide +kernel, by decide +kernel⟩, List.mem_of_getElem? (i := 595) (by decide +kernel), List.mem_of_getElem? (i := 627) (by decide +kernel), List.mem_of_getElem? (i := 628) (by decide +kernel)⟩
theorem lw_p31 : lw_okq (⟨"ReadOnceRecognizer$Catalog", "sort", "()V"⟩, 2) := ⟨⟨by decide +kernel, by decide +kernel⟩, List.mem_of_getElem? (i := 595) (by decide +kernel), List.mem_of_getElem? (i := 631) (by decide +kernel), List.mem_of_getElem? (i := 632) (by decide +kernel)⟩
def lw_privs_2 : List (MethodName × Nat) := [(⟨"ReadOnceRecognizer$FormulaText", "putChild", "(LReadOnceRecognizer$Cotree;II)V"⟩, 2), (⟨"ReadOnceRecognizer$Input", "readSum", "(I)J"⟩, 6), (⟨"ReadOnceRecognizer$Input", "readProduct", "(I)J"⟩, 6), (⟨"ReadOnceRecognizer$Input", "readFactor", "(I)J"⟩, 6), (⟨"ReadOnceRecognizer$Input", "nextIs", "(I)Z"⟩, 6), (⟨"ReadOnceRecognizer$Input", "readOpened", "(I)J"⟩, 6), (⟨"ReadOnceRecognizer$Input", "readAtom", "()J"⟩, 6), (⟨"ReadOnceRecognizer", "substituted", "(JIJ)J"⟩, 11), (⟨"ReadOnceRecognizer", "drawnTable", "(II)J"⟩, 11), (⟨"ReadOnceRecognizer", "openCatalog", "()LReadOnceRecognizer$Catalog;"⟩, 11), (⟨"ReadOnceRecognizer$Catalog", "enter", "(JII)V"⟩, 2), (⟨"ReadOnceRecognizer$Catalog", "enterAll", "(I[I)V"⟩, 2), (⟨"ReadOnceRecognizer$Catalog", "enterSplit", "(II[I)V"⟩, 2), (⟨"ReadOnceRecognizer$Catalog", "rootAt", "(I)I"⟩, 2), (⟨"ReadOnceRecognizer$Catalog", "enterJoined", "(JIJI)V"⟩, 2), (⟨"ReadOnceRecognizer$Catalog", "sort", "()V"⟩, 2)]
theorem lw_r2 : ∀ q ∈ lw_privs_2, lw_okq q := List.forall_mem_cons.mpr ⟨lw_p16, List.forall_mem_cons.mpr ⟨lw_p17, List.forall_mem_cons.mpr ⟨lw_p18, List.forall_mem_cons.mpr ⟨lw_p19, List.forall_mem_cons.mpr ⟨lw_p20, List.forall_mem_cons.mpr ⟨lw_p21, List.forall_mem_cons.mpr ⟨lw_p22, List.forall_mem_cons.mpr ⟨lw_p23, List.forall_mem_cons.mpr ⟨lw_p24, List.forall_mem_cons.mpr ⟨lw_p25, List.forall_mem_cons.mpr ⟨lw_p26, List.forall_mem_cons.mpr ⟨lw_p27, List.forall_mem_cons.mpr ⟨lw_p28, List.forall_mem_cons.mpr ⟨lw_p29, List.forall_mem_cons.mpr ⟨lw_p30, List.forall_mem_cons.mpr ⟨lw_p31, fun _ h => absurd h List.not_mem_nil⟩⟩⟩⟩⟩⟩⟩⟩⟩⟩⟩⟩⟩⟩⟩⟩
theorem lw_p32 : lw_okq (⟨"ReadOnceRecognizer$Catalog", "sink", "(II)V"⟩, 2) := ⟨⟨by decide +kernel, by decide +kernel⟩, List.mem_of_getElem? (i := 595) (by decide +kernel), List.mem_of_getElem? (i := 637) (by decide +kernel), List.mem_of_getElem? (i := 638) (by decide +kernel)⟩
theorem lw_p33 : lw_okq (⟨"ReadOnceRecognizer", "isExtension", "(LReadOnceRecognizer$Catalog;I)Z"⟩, 11) := ⟨⟨by decide +kernel, by decide +kernel⟩, List.mem_of_getElem? (i := 15) (by decide +kernel), List.mem_of_getElem? (i := 649) (by decide +kernel), List.mem_of_getElem? (i := 650) (by decide +kernel)⟩
theorem lw_p34 : lw_okq (⟨"ReadOnceRecognizer", "runStep", "(I)I"⟩, 11) := ⟨⟨by decide +kernel, by decide +kernel⟩, List.mem_of_getElem? (i := 15) (by decide +kernel), List.mem_of_getElem? (i := 687) (by decide +kernel), List.mem_of_getElem? (i := 688) (by decide +kernel)⟩
theorem lw_p35 : lw_okq (⟨"ReadOnceRecognizerModel", "listFunctions", "()V"⟩, 39) := ⟨⟨by decide +kernel, by decide +kernel⟩, List.mem_of_getElem? (i := 732) (by decide +kernel), List.mem_of_getElem? (i := 738) (by decide +kernel), List.mem_of_getElem? (i := 739) (by decide +kernel)⟩
theorem lw_p36 : lw_okq (⟨"ReadOnceRecognizerModel", "variable", "(I)J"⟩, 39) := ⟨⟨by decide +kernel, by decide +kernel⟩, List.mem_of_getElem? (i := 732) (by decide +kernel), List.mem_of_getElem? (i := 742) (by decide +kernel), List.mem_of_getElem? (i := 743) (by decide +kernel)⟩
theorem lw_p37 : lw_okq (⟨"ReadOnceRecognizerModel", "make", "(IIJ)V"⟩, 39) := ⟨⟨by decide +kernel, by decide +kernel⟩, List.mem_of_getElem? (i := 732) (by decide +kernel), List.mem_of_getElem? (i := 746) (by decide +kernel), List.mem_of_getElem? (i := 747) (by decide +kernel)⟩
theorem lw_p38 : lw_okq (⟨"ReadOnceRecognizerModel", "join", "(III)V"⟩, 39) := ⟨⟨by decide +kernel, by decide +kernel⟩, List.mem_of_getElem? (i := 732) (by decide +kernel), List.mem_of_getElem? (i := 753) (by decide +kernel), List.mem_of_getElem? (i := 754) (by decide +kernel)⟩
theorem lw_p39 : lw_okq (⟨"ReadOnceRecognizerModel", "insert", "(J)V"⟩, 39) := ⟨⟨by decide +kernel, by decide +kernel⟩, List.mem_of_getElem? (i := 732) (by decide +kernel), List.mem_of_getElem? (i := 760) (by decide +kernel), List.mem_of_getElem? (i := 761) (by decide +kernel)⟩
theorem lw_p40 : lw_okq (⟨"ReadOnceRecognizerModel", "all", "()J"⟩, 39) := ⟨⟨by decide +kernel, by decide +kernel⟩, List.mem_of_getElem? (i := 732) (by decide +kernel), List.mem_of_getElem? (i := 764) (by decide +kernel), List.mem_of_getElem? (i := 765) (by decide +kernel)⟩
theorem lw_p41 : lw_okq (⟨"ReadOnceRecognizerModel", "store", "(IJ)I"⟩, 39) := ⟨⟨by decide +kernel, by decide +kernel⟩, List.mem_of_getElem? (i := 732) (by decide +kernel), List.mem_of_getElem? (i := 907) (by decide +kernel), List.mem_of_getElem? (i := 908) (by decide +kernel)⟩
theorem lw_p42 : lw_okq (⟨"ReadOnceRecognizerModel", "record", "(I)V"⟩, 39) := ⟨⟨by decide +kernel, by decide +kernel⟩, List.mem_of_getElem? (i := 732) (by decide +kernel), List.mem_of_getElem? (i := 911) (by decide +kernel), List.mem_of_getElem? (i := 912) (by decide +kernel)⟩
theorem lw_p43 : lw_okq (⟨"ReadOnceRecognizerModel", "ones", "(J)I"⟩, 39) := ⟨⟨by decide +kernel, by decide +kernel⟩, List.mem_of_getElem? (i := 732) (by decide +kernel), List.mem_of_getElem? (i := 915) (by decide +kernel), List.mem_of_getElem? (i := 916) (by decide +kernel)⟩
theorem lw_p44 : lw_okq (⟨"ReadOnceRecognizerModel", "isPoint", "(I)Z"⟩, 39) := ⟨⟨by decide +kernel, by decide +kernel⟩, List.mem_of_getElem? (i := 732) (by decide +kernel), List.mem_of_getElem? (i := 940) (by decide +kernel), List.mem_of_getElem? (i := 941) (by decide +kernel)⟩
theorem lw_p45 : lw_okq (⟨"ReadOnceRecognizerModel", "wrong", "(I)I"⟩, 39) := ⟨⟨by decide +kernel, by decide +kernel⟩, List.mem_of_getElem? (i := 732) (by decide +kernel), List.mem_of_getElem? (i := 948) (by decide +kernel), List.mem_of_getElem? (i := 949) (by decide +kernel)⟩
theorem lw_p46 : lw_okq (⟨"ReadOnceRecognizerModel", "essentialOf", "(J)I"⟩, 39) := ⟨⟨by decide +kernel, by decide +kernel⟩, List.mem_of_getElem? (i := 732) (by decide +kernel), List.mem_of_getElem? (i := 952) (by decide +kernel), List.mem_of_getElem? (i := 953) (by decide +kernel)⟩
theorem lw_p47 : lw_okq (⟨"ReadOnceRecognizerModel", "violation", "(J)I"⟩, 39) := ⟨⟨by decide +kernel, by decide +kernel⟩, List.mem_of_getElem? (i := 732) (by decide +kernel), List.mem_of_getElem? (i := 960) (by decide +kernel), List.mem_of_getElem? (i := 961) (by decide +kernel)⟩
def lw_privs_3 : List (MethodName × Nat) := [(⟨"ReadOnceRecognizer$Catalog", "sink", "(II)V"⟩, 2), (⟨"ReadOnceRecognizer", "isExtension", "(LReadOnceRecognizer$Catalog;I)Z"⟩, 11), (⟨"ReadOnceRecognizer", "runStep", "(I)I"⟩, 11), (⟨"ReadOnceRecognizerModel", "listFunctions", "()V"⟩, 39), (⟨"ReadOnceRecognizerModel", "variable", "(I)J"⟩, 39), (⟨"ReadOnceRecognizerModel", "make", "(IIJ)V"⟩, 39), (⟨"ReadOnceRecognizerModel", "join", "(III)V"⟩, 39), (⟨"ReadOnceRecognizerModel", "insert", "(J)V"⟩, 39), (⟨"ReadOnceRecognizerModel", "all", "()J"⟩, 39), (⟨"ReadOnceRecognizerModel", "store", "(IJ)I"⟩, 39), (⟨"ReadOnceRecognizerModel", "record", "(I)V"⟩, 39), (⟨"ReadOnceRecognizerModel", "ones", "(J)I"⟩, 39), (⟨"ReadOnceRecognizerModel", "isPoint", "(I)Z"⟩, 39), (⟨"ReadOnceRecognizerModel", "wrong", "(I)I"⟩, 39), (⟨"ReadOnceRecognizerModel", "essentialOf", "(J)I"⟩, 39), (⟨"ReadOnceRecognizerModel", "violation", "(J)I"⟩, 39)]
theorem lw_r3 : ∀ q ∈ lw_privs_3, lw_okq q := List.forall_mem_cons.mpr ⟨lw_p32, List.forall_mem_cons.mpr ⟨lw_p33, List.forall_mem_cons.mpr ⟨lw_p34, List.forall_mem_cons.mpr ⟨lw_p35, List.forall_mem_cons.mpr ⟨lw_p36, List.forall_mem_cons.mpr ⟨lw_p37, List.forall_mem_cons.mpr ⟨lw_p38, List.forall_mem_cons.mpr ⟨lw_p39, List.forall_mem_cons.mpr ⟨lw_p40, List.forall_mem_cons.mpr ⟨lw_p41, List.forall_mem_cons.mpr ⟨lw_p42, List.forall_mem_cons.mpr ⟨lw_p43, List.forall_mem_cons.mpr ⟨lw_p44, List.forall_mem_cons.mpr ⟨lw_p45, List.forall_mem_cons.mpr ⟨lw_p46, List.forall_mem_cons.mpr ⟨lw_p47, fun _ h => absurd h List.not_mem_nil⟩⟩⟩⟩⟩⟩⟩⟩⟩⟩⟩⟩⟩⟩⟩⟩
theorem lw_p48 : lw_okq (⟨"ReadOnceRecognizerModel", "wrongOrNot", "(I)I"⟩, 39) := ⟨⟨by decide +kernel, by decide +kernel⟩, List.mem_of_getElem? (i := 732) (by decide +kernel), List.mem_of_getElem? (i := 972) (by decide +kernel), List.mem_of_getElem? (i := 973) (by decide +kernel)⟩
theorem lw_p49 : lw_okq (⟨"ReadOnceRecognizerModel", "primesOf", "(J)I"⟩, 39) := ⟨⟨by decide +kernel, by decide +kernel⟩, List.mem_of_getElem? (i := 732) (by decide +kernel), List.mem_of_getElem? (i := 976) (by decide +kernel), List.mem_of_getElem? (i := 977) (by decide +kernel)⟩
theorem lw_p50 : lw_okq (⟨"ReadOnceRecognizerModel", "isPrime", "(JI)Z"⟩, 39) := ⟨⟨by decide +kernel, by decide +kernel⟩, List.mem_of_getElem? (i := 732) (by decide +kernel), List.mem_of_getElem? (i := 980) (by decide +kernel), List.mem_of_getElem? (i := 981) (by decide +kernel)⟩
theorem lw_p51 : lw_okq (⟨"ReadOnceRecognizerModel", "primeOf", "(JI)I"⟩, 39) := ⟨⟨by decide +kernel, by decide +kernel⟩, List.mem_of_getElem? (i := 732) (by decide +kernel), List.mem_of_getElem? (i := 988) (by decide +kernel), List.mem_of_getElem? (i := 989) (by decide +kernel)⟩
theorem lw_p52 : lw_okq (⟨"ReadOnceRecognizerModel", "isVariable", "(I)Z"⟩, 39) := ⟨⟨by decide +kernel, by decide +kernel⟩, List.mem_of_getElem? (i := 732) (by decide +kernel), List.mem_of_getElem? (i := 996) (by decide +kernel), List.mem_of_getElem? (i := 997) (by decide +kernel)⟩
theorem lw_p53 : lw_okq (⟨"ReadOnceRecognizerModel", "graph", "(J)V"⟩, 39) := ⟨⟨by decide +kernel, by decide +kernel⟩, List.mem_of_getElem? (i := 732) (by decide +kernel), List.mem_of_getElem? (i := 1000) (by decide +kernel), List.mem_of_getElem? (i := 1001) (by decide +kernel)⟩
theorem lw_p54 : lw_okq (⟨"ReadOnceRecognizerModel", "path", "()I"⟩, 39) := ⟨⟨by decide +kernel, by decide +kernel⟩, List.mem_of_getElem? (i := 732) (by decide +kernel), List.mem_of_getElem? (i := 1009) (by decide +kernel), List.mem_of_getElem? (i := 1010) (by decide +kernel)⟩
theorem lw_p55 : lw_okq (⟨"ReadOnceRecognizerModel", "areNear", "(II)Z"⟩, 39) := ⟨⟨by decide +kernel, by decide +kernel⟩, List.mem_of_getElem? (i := 732) (by decide +kernel), List.mem_of_getElem? (i := 1013) (by decide +kernel), List.mem_of_getElem? (i := 1014) (by decide +kernel)⟩
theorem lw_p56 : lw_okq (⟨"ReadOnceRecognizerModel", "badCliqueOf", "(J)I"⟩, 39) := ⟨⟨by decide +kernel, by decide +kernel⟩, List.mem_of_getElem? (i := 732) (by decide +kernel), List.mem_of_getElem? (i := 1021) (by decide +kernel), List.mem_of_getElem? (i := 1022) (by decide +kernel)⟩
theorem lw_p57 : lw_okq (⟨"ReadOnceRecognizerModel", "isClique", "(I)Z"⟩, 39) := ⟨⟨by decide +kernel, by decide +kernel⟩, List.mem_of_getElem? (i := 732) (by decide +kernel), List.mem_of_getElem? (i := 1025) (by decide +kernel), List.mem_of_getElem? (i := 1026) (by decide +kernel)⟩
theorem lw_p58 : lw_okq (⟨"ReadOnceRecognizerModel", "isMaximal", "(I)Z"⟩, 39) := ⟨⟨by decide +kernel, by decide +kernel⟩, List.mem_of_getElem? (i := 732) (by decide +kernel), List.mem_of_getElem? (i := 1029) (by decide +kernel), List.mem_of_getElem? (i := 1030) (by decide +kernel)⟩
theorem lw_p59 : lw_okq (⟨"ReadOnceRecognizerModel", "reasonOf", "(J)I"⟩, 39) := ⟨⟨by decide +kernel, by decide +kernel⟩, List.mem_of_getElem? (i := 732) (by decide +kernel), List.mem_of_getElem? (i := 1037) (by decide +kernel), List.mem_of_getElem? (i := 1038) (by decide +kernel)⟩
theorem lw_p60 : lw_okq (⟨"ReadOnceRecognizerModel", "tree", "(I)I"⟩, 39) := ⟨⟨by decide +kernel, by decide +kernel⟩, List.mem_of_getElem? (i := 732) (by decide +kernel), List.mem_of_getElem? (i := 1045) (by decide +kernel), List.mem_of_getElem? (i := 1046) (by decide +kernel)⟩
theorem lw_p61 : lw_okq (⟨"ReadOnceRecognizerModel", "grow", "(II)V"⟩, 39) := ⟨⟨by decide +kernel, by decide +kernel⟩, List.mem_of_getElem? (i := 732) (by decide +kernel), List.mem_of_getElem? (i := 1049) (by decide +kernel), List.mem_of_getElem? (i := 1050) (by decide +kernel)⟩
theorem lw_p62 : lw_okq (⟨"ReadOnceRecognizerModel", "component", "(IIZ)I"⟩, 39) := ⟨⟨by decide +kernel, by decide +kernel⟩, List.mem_of_getElem? (i := 732) (by decide +kernel), List.mem_of_getElem? (i := 1053) (by decide +kernel), List.mem_of_getElem? (i := 1054) (by decide +kernel)⟩
theorem lw_p63 : lw_okq (⟨"ReadOnceRecognizerModel", "isNode", "(I)Z"⟩, 39) := ⟨⟨by decide +kernel, by decide +kernel⟩, List.mem_of_getElem? (i := 732) (by decide +kernel), List.mem_of_getElem? (i := 1061) (by decide +kernel), List.mem_of_getElem? (i := 1062) (by decide +kernel)⟩
def lw_privs_4 : List (MethodName × Nat) := [(⟨"ReadOnceRecognizerModel", "wrongOrNot", "(I)I"⟩, 39), (⟨"ReadOnceRecognizerModel", "primesOf", "(J)I"⟩, 39), (⟨"ReadOnceRecognizerModel", "isPrime", "(JI)Z"⟩, 39), (⟨"ReadOnceRecognizerModel", "primeOf", "(JI)I"⟩, 39), (⟨"ReadOnceRecognizerModel", "isVariable", "(I)Z"⟩, 39), (⟨"ReadOnceRecognizerModel", "graph", "(J)V"⟩, 39), (⟨"ReadOnceRecognizerModel", "path", "()I"⟩, 39), (⟨"ReadOnceRecognizerModel", "areNear", "(II)Z"⟩, 39), (⟨"ReadOnceRecognizerModel", "badCliqueOf", "(J)I"⟩, 39), (⟨"ReadOnceRecognizerModel", "isClique", "(I)Z"⟩, 39), (⟨"ReadOnceRecognizerModel", "isMaximal", "(I)Z"⟩, 39), (⟨"ReadOnceRecognizerModel", "reasonOf", "(J)I"⟩, 39), (⟨"ReadOnceRecognizerModel", "tree", "(I)I"⟩, 39), (⟨"ReadOnceRecognizerModel", "grow", "(II)V"⟩, 39), (⟨"ReadOnceRecognizerModel", "component", "(IIZ)I"⟩, 39), (⟨"ReadOnceRecognizerModel", "isNode", "(I)Z"⟩, 39)]
theorem lw_r4 : ∀ q ∈ lw_privs_4, lw_okq q := List.forall_mem_cons.mpr ⟨lw_p48, List.forall_mem_cons.mpr ⟨lw_p49, List.forall_mem_cons.mpr ⟨lw_p50, List.forall_mem_cons.mpr ⟨lw_p51, List.forall_mem_cons.mpr ⟨lw_p52, List.forall_mem_cons.mpr ⟨lw_p53, List.forall_mem_cons.mpr ⟨lw_p54, List.forall_mem_cons.mpr ⟨lw_p55, List.forall_mem_cons.mpr ⟨lw_p56, List.forall_mem_cons.mpr ⟨lw_p57, List.forall_mem_cons.mpr ⟨lw_p58, List.forall_mem_cons.mpr ⟨lw_p59, List.forall_mem_cons.mpr ⟨lw_p60, List.forall_mem_cons.mpr ⟨lw_p61, List.forall_mem_cons.mpr ⟨lw_p62, List.forall_mem_cons.mpr ⟨lw_p63, fun _ h => absurd h List.not_mem_nil⟩⟩⟩⟩⟩⟩⟩⟩⟩⟩⟩⟩⟩⟩⟩⟩
theorem lw_p64 : lw_okq (⟨"ReadOnceRecognizerModel", "put", "(I)V"⟩, 39) := ⟨⟨by decide +kernel, by decide +kernel⟩, List.mem_of_getElem? (i := 732) (by decide +kernel), List.mem_of_getElem? (i := 1077) (by decide +kernel), List.mem_of_getElem? (i := 1078) (by decide +kernel)⟩
theorem lw_p65 : lw_okq (⟨"ReadOnceRecognizerModel", "write", "(I)V"⟩, 39) := ⟨⟨by decide +kernel, by decide +kernel⟩, List.mem_of_getElem? (i := 732) (by decide +kernel), List.mem_of_getElem? (i := 1081) (by decide +kernel), List.mem_of_getElem? (i := 1082) (by decide +kernel)⟩
theorem lw_p66 : lw_okq (⟨"ReadOnceRecognizerModel", "formula", "(I)J"⟩, 39) := ⟨⟨by decide +kernel, by decide +kernel⟩, List.mem_of_getElem? (i := 732) (by decide +kernel), List.mem_of_getElem? (i := 1098) (by decide +kernel), List.mem_of_getElem? (i := 1099) (by decide +kernel)⟩
theorem lw_p67 : lw_okq (⟨"ReadOnceRecognizerModel", "term", "(I)J"⟩, 39) := ⟨⟨by decide +kernel, by decide +kernel⟩, List.mem_of_getElem? (i := 732) (by decide +kernel), List.mem_of_getElem? (i := 1102) (by decide +kernel), List.mem_of_getElem? (i := 1103) (by decide +kernel)⟩
theorem lw_p68 : lw_okq (⟨"ReadOnceRecognizerModel", "factor", "(I)J"⟩, 39) := ⟨⟨by decide +kernel, by decide +kernel⟩, List.mem_of_getElem? (i := 732) (by decide +kernel), List.mem_of_getElem? (i := 1106) (by decide +kernel), List.mem_of_getElem? (i := 1107) (by decide +kernel)⟩
theorem lw_p69 : lw_okq (⟨"ReadOnceRecognizerModel", "here", "()I"⟩, 39) := ⟨⟨by decide +kernel, by decide +kernel⟩, List.mem_of_getElem? (i := 732) (by decide +kernel), List.mem_of_getElem? (i := 1110) (by decide +kernel), List.mem_of_getElem? (i := 1111) (by decide +kernel)⟩
theorem lw_p70 : lw_okq (⟨"ReadOnceRecognizerModel", "fail", "()V"⟩, 39) := ⟨⟨by decide +kernel, by decide +kernel⟩, List.mem_of_getElem? (i := 732) (by decide +kernel), List.mem_of_getElem? (i := 1115) (by decide +kernel), List.mem_of_getElem? (i := 1116) (by decide +kernel)⟩
theorem lw_p71 : lw_okq (⟨"ReadOnceRecognizerModel", "randomOf", "(II)J"⟩, 39) := ⟨⟨by decide +kernel, by decide +kernel⟩, List.mem_of_getElem? (i := 732) (by decide +kernel), List.mem_of_getElem? (i := 1146) (by decide +kernel), List.mem_of_getElem? (i := 1147) (by decide +kernel)⟩
theorem lw_p72 : lw_okq (⟨"ReadOnceRecognizerModel", "agrees", "(J)Z"⟩, 39) := ⟨⟨by decide +kernel, by decide +kernel⟩, List.mem_of_getElem? (i := 732) (by decide +kernel), List.mem_of_getElem? (i := 1168) (by decide +kernel), List.mem_of_getElem? (i := 1169) (by decide +kernel)⟩
theorem lw_p73 : lw_okq (⟨"ReadOnceRecognizerModel", "execute", "(I)I"⟩, 39) := ⟨⟨by decide +kernel, by decide +kernel⟩, List.mem_of_getElem? (i := 732) (by decide +kernel), List.mem_of_getElem? (i := 1196) (by decide +kernel), List.mem_of_getElem? (i := 1197) (by decide +kernel)⟩
def lw_privs_5 : List (MethodName × Nat) := [(⟨"ReadOnceRecognizerModel", "put", "(I)V"⟩, 39), (⟨"ReadOnceRecognizerModel", "write", "(I)V"⟩, 39), (⟨"ReadOnceRecognizerModel", "formula", "(I)J"⟩, 39), (⟨"ReadOnceRecognizerModel", "term", "(I)J"⟩, 39), (⟨"ReadOnceRecognizerModel", "factor", "(I)J"⟩, 39), (⟨"ReadOnceRecognizerModel", "here", "()I"⟩, 39), (⟨"ReadOnceRecognizerModel", "fail", "()V"⟩, 39), (⟨"ReadOnceRecognizerModel", "randomOf", "(II)J"⟩, 39), (⟨"ReadOnceRecognizerModel", "agrees", "(J)Z"⟩, 39), (⟨"ReadOnceRecognizerModel", "execute", "(I)I"⟩, 39)]
theorem lw_r5 : ∀ q ∈ lw_privs_5, lw_okq q := List.forall_mem_cons.mpr ⟨lw_p64, List.forall_mem_cons.mpr ⟨lw_p65, List.forall_mem_cons.mpr ⟨lw_p66, List.forall_mem_cons.mpr ⟨lw_p67, List.forall_mem_cons.mpr ⟨lw_p68, List.forall_mem_cons.mpr ⟨lw_p69, List.forall_mem_cons.mpr ⟨lw_p70, List.forall_mem_cons.mpr ⟨lw_p71, List.forall_mem_cons.mpr ⟨lw_p72, List.forall_mem_cons.mpr ⟨lw_p73, fun _ h => absurd h List.not_mem_nil⟩⟩⟩⟩⟩⟩⟩⟩⟩⟩
def lw_privs : List (MethodName × Nat) := lw_privs_1 ++ (lw_privs_2 ++ (lw_privs_3 ++ (lw_privs_4 ++ (lw_privs_5))))
def lw_tbl : List Cond := k2_sels lw_privs ++ tables_1
theorem lw_privs_ok : ∀ q ∈ lw_privs, lw_okq q := by
  show ∀ q ∈ lw_privs_1 ++ (lw_privs_2 ++ (lw_privs_3 ++ (lw_privs_4 ++ (lw_privs_5)))), lw_okq q
  exact List.forall_mem_append.mpr ⟨lw_r1, List.forall_mem_append.mpr ⟨lw_r2, List.forall_mem_append.mpr ⟨lw_r3, List.forall_mem_append.mpr ⟨lw_r4, lw_r5⟩⟩⟩⟩
end
section

/-! ===== BEGIN printed: names, fields, word lists, decode rows ===== -/
def RX0 : String := "ReadOnceRecognizer$Catalog"
def TX0 : u_T := fun k => match k with
  | 0 => ("ReadOnceRecognizer$Catalog", "entries", "[J", true)
  | _ => ("ReadOnceRecognizer$Catalog", "count", "I", false)
def tyX0 : Nat → FieldType := fun k => match k with
  | 0 => .array .long
  | _ => .int
abbrev wsX00 : List Cond := u_ws RX0 TX0 2
theorem nmX0 : ∀ a, a < 2 → ∀ b, b < 2 → a ≠ b → (TX0 a).2.1 ≠ (TX0 b).2.1 := by decide +kernel
theorem tyX0_ok : ∀ k, k < 2 → parseFieldDescriptor (TX0 k).2.2.1 = some (tyX0 k) := by decide +kernel
abbrev cX0_init : ByteArray := prog_2_method_1_code
def yX0_init : MethodName := ⟨RX0, "<init>", "()V"⟩
abbrev cX0_tableAt : ByteArray := prog_2_method_2_code
def yX0_tableAt : MethodName := ⟨RX0, "tableAt", "(I)J"⟩
abbrev cX0_supportAt : ByteArray := prog_2_method_3_code
def yX0_supportAt : MethodName := ⟨RX0, "supportAt", "(I)I"⟩
abbrev cX0_rootAt : ByteArray := prog_2_method_4_code
def yX0_rootAt : MethodName := ⟨RX0, "rootAt", "(I)I"⟩
abbrev cX0_enter : ByteArray := prog_2_method_5_code
def yX0_enter : MethodName := ⟨RX0, "enter", "(JII)V"⟩
abbrev cX0_enterAll : ByteArray := prog_2_method_6_code
def yX0_enterAll : MethodName := ⟨RX0, "enterAll", "(I[I)V"⟩
abbrev cX0_enterSplit : ByteArray := prog_2_method_7_code
def yX0_enterSplit : MethodName := ⟨RX0, "enterSplit", "(II[I)V"⟩
abbrev cX0_enterJoined : ByteArray := prog_2_method_8_code
def yX0_enterJoined : MethodName := ⟨RX0, "enterJoined", "(JIJI)V"⟩
abbrev cX0_sort : ByteArray := prog_2_method_9_code
def yX0_sort : MethodName := ⟨RX0, "sort", "()V"⟩
abbrev cX0_sink : ByteArray := prog_2_method_10_code
def yX0_sink : MethodName := ⟨RX0, "sink", "(II)V"⟩
def RX1 : String := "ReadOnceRecognizer$Cotree"
def TX1 : u_T := fun k => match k with
  | 0 => ("ReadOnceRecognizer$Cotree", "types", "[I", true)
  | 1 => ("ReadOnceRecognizer$Cotree", "parents", "[I", true)
  | _ => ("ReadOnceRecognizer$Cotree", "count", "I", false)
def tyX1 : Nat → FieldType := fun k => match k with
  | 0 => .array .int
  | 1 => .array .int
  | _ => .int
abbrev wsX10 : List Cond := u_ws RX1 TX1 3
theorem nmX1 : ∀ a, a < 3 → ∀ b, b < 3 → a ≠ b → (TX1 a).2.1 ≠ (TX1 b).2.1 := by decide +kernel
theorem tyX1_ok : ∀ k, k < 3 → parseFieldDescriptor (TX1 k).2.2.1 = some (tyX1 k) := by decide +kernel
abbrev cX1_init : ByteArray := prog_3_method_1_code
def yX1_init : MethodName := ⟨RX1, "<init>", "()V"⟩
abbrev cX1_fill : ByteArray := prog_3_method_2_code
def yX1_fill : MethodName := ⟨RX1, "fill", "(LReadOnceRecognizer$Graph;)V"⟩
abbrev cX1_grow : ByteArray := prog_3_method_3_code
def yX1_grow : MethodName := ⟨RX1, "grow", "(LReadOnceRecognizer$Graph;III)V"⟩
abbrev cX1_growChildren : ByteArray := prog_3_method_4_code
def yX1_growChildren : MethodName := ⟨RX1, "growChildren", "(LReadOnceRecognizer$Graph;III)V"⟩
abbrev cX1_component : ByteArray := prog_3_method_5_code
def yX1_component : MethodName := ⟨RX1, "component", "(LReadOnceRecognizer$Graph;IIZ)I"⟩
abbrev cX1_has : ByteArray := prog_3_method_6_code
def yX1_has : MethodName := ⟨RX1, "has", "(I)Z"⟩
abbrev cX1_depthOfLeaf : ByteArray := prog_3_method_7_code
def yX1_depthOfLeaf : MethodName := ⟨RX1, "depthOfLeaf", "(I)I"⟩
abbrev cX1_depthOfNode : ByteArray := prog_3_method_8_code
def yX1_depthOfNode : MethodName := ⟨RX1, "depthOfNode", "(I)I"⟩
def RX2 : String := "ReadOnceRecognizer$FormulaText"
def TX2 : u_T := fun k => match k with
  | 0 => ("ReadOnceRecognizer$FormulaText", "signs", "[I", true)
  | _ => ("ReadOnceRecognizer$FormulaText", "length", "I", false)
def tyX2 : Nat → FieldType := fun k => match k with
  | 0 => .array .int
  | _ => .int
abbrev wsX20 : List Cond := u_ws RX2 TX2 2
theorem nmX2 : ∀ a, a < 2 → ∀ b, b < 2 → a ≠ b → (TX2 a).2.1 ≠ (TX2 b).2.1 := by decide +kernel
theorem tyX2_ok : ∀ k, k < 2 → parseFieldDescriptor (TX2 k).2.2.1 = some (tyX2 k) := by decide +kernel
abbrev cX2_init : ByteArray := prog_4_method_1_code
def yX2_init : MethodName := ⟨RX2, "<init>", "()V"⟩
abbrev cX2_put : ByteArray := prog_4_method_2_code
def yX2_put : MethodName := ⟨RX2, "put", "(I)V"⟩
abbrev cX2_putTree : ByteArray := prog_4_method_3_code
def yX2_putTree : MethodName := ⟨RX2, "putTree", "(LReadOnceRecognizer$Cotree;)V"⟩
abbrev cX2_putNode : ByteArray := prog_4_method_4_code
def yX2_putNode : MethodName := ⟨RX2, "putNode", "(LReadOnceRecognizer$Cotree;II)V"⟩
abbrev cX2_putChild : ByteArray := prog_4_method_5_code
def yX2_putChild : MethodName := ⟨RX2, "putChild", "(LReadOnceRecognizer$Cotree;II)V"⟩
def RX3 : String := "ReadOnceRecognizer$Graph"
def TX3 : u_T := fun k => match k with
  | 0 => ("ReadOnceRecognizer$Graph", "primes", "[I", true)
  | 1 => ("ReadOnceRecognizer$Graph", "primeCount", "I", false)
  | 2 => ("ReadOnceRecognizer$Graph", "vertices", "I", false)
  | 3 => ("ReadOnceRecognizer$Graph", "adjacent", "[I", true)
  | _ => ("ReadOnceRecognizer$Graph", "path", "[I", true)
def tyX3 : Nat → FieldType := fun k => match k with
  | 0 => .array .int
  | 1 => .int
  | 2 => .int
  | 3 => .array .int
  | _ => .array .int
abbrev wsX30 : List Cond := u_ws RX3 TX3 5
theorem nmX3 : ∀ a, a < 5 → ∀ b, b < 5 → a ≠ b → (TX3 a).2.1 ≠ (TX3 b).2.1 := by decide +kernel
theorem tyX3_ok : ∀ k, k < 5 → parseFieldDescriptor (TX3 k).2.2.1 = some (tyX3 k) := by decide +kernel
abbrev cX3_init : ByteArray := prog_5_method_1_code
def yX3_init : MethodName := ⟨RX3, "<init>", "()V"⟩
abbrev cX3_fill : ByteArray := prog_5_method_2_code
def yX3_fill : MethodName := ⟨RX3, "fill", "(IJ)V"⟩
abbrev cX3_isMinimal : ByteArray := prog_5_method_3_code
def yX3_isMinimal : MethodName := ⟨RX3, "isMinimal", "(IJI)Z"⟩
abbrev cX3_addPrime : ByteArray := prog_5_method_4_code
def yX3_addPrime : MethodName := ⟨RX3, "addPrime", "(I)V"⟩
abbrev cX3_primeAt : ByteArray := prog_5_method_5_code
def yX3_primeAt : MethodName := ⟨RX3, "primeAt", "(I)I"⟩
abbrev cX3_areAdjacent : ByteArray := prog_5_method_6_code
def yX3_areAdjacent : MethodName := ⟨RX3, "areAdjacent", "(II)Z"⟩
abbrev cX3_findPath : ByteArray := prog_5_method_7_code
def yX3_findPath : MethodName := ⟨RX3, "findPath", "()Z"⟩
abbrev cX3_findPathFrom : ByteArray := prog_5_method_8_code
def yX3_findPathFrom : MethodName := ⟨RX3, "findPathFrom", "(II)Z"⟩
abbrev cX3_lowestBadClique : ByteArray := prog_5_method_9_code
def yX3_lowestBadClique : MethodName := ⟨RX3, "lowestBadClique", "()I"⟩
abbrev cX3_isMaximalClique : ByteArray := prog_5_method_10_code
def yX3_isMaximalClique : MethodName := ⟨RX3, "isMaximalClique", "(I)Z"⟩
abbrev cX3_isPrime : ByteArray := prog_5_method_11_code
def yX3_isPrime : MethodName := ⟨RX3, "isPrime", "(I)Z"⟩
def RX4 : String := "ReadOnceRecognizer$History"
def TX4 : u_T := fun k => match k with
  | 0 => ("ReadOnceRecognizer$History", "slots", "[I", true)
  | 1 => ("ReadOnceRecognizer$History", "contents", "[J", true)
  | _ => ("ReadOnceRecognizer$History", "count", "I", false)
def tyX4 : Nat → FieldType := fun k => match k with
  | 0 => .array .int
  | 1 => .array .long
  | _ => .int
abbrev wsX40 : List Cond := u_ws RX4 TX4 3
theorem nmX4 : ∀ a, a < 3 → ∀ b, b < 3 → a ≠ b → (TX4 a).2.1 ≠ (TX4 b).2.1 := by decide +kernel
theorem tyX4_ok : ∀ k, k < 3 → parseFieldDescriptor (TX4 k).2.2.1 = some (tyX4 k) := by decide +kernel
abbrev cX4_init : ByteArray := prog_6_method_1_code
def yX4_init : MethodName := ⟨RX4, "<init>", "()V"⟩
abbrev cX4_remember : ByteArray := prog_6_method_2_code
def yX4_remember : MethodName := ⟨RX4, "remember", "(IJ)V"⟩
abbrev cX4_forget : ByteArray := prog_6_method_3_code
def yX4_forget : MethodName := ⟨RX4, "forget", "()V"⟩
def RX5 : String := "ReadOnceRecognizer$Input"
def TX5 : u_T := fun k => match k with
  | 0 => ("ReadOnceRecognizer$Input", "bytes", "[I", true)
  | 1 => ("ReadOnceRecognizer$Input", "length", "I", false)
  | 2 => ("ReadOnceRecognizer$Input", "n", "I", false)
  | 3 => ("ReadOnceRecognizer$Input", "full", "J", false)
  | 4 => ("ReadOnceRecognizer$Input", "position", "I", false)
  | _ => ("ReadOnceRecognizer$Input", "occurrences", "I", false)
def tyX5 : Nat → FieldType := fun k => match k with
  | 0 => .array .int
  | 1 => .int
  | 2 => .int
  | 3 => .long
  | 4 => .int
  | _ => .int
abbrev wsX50 : List Cond := u_ws RX5 TX5 6
theorem nmX5 : ∀ a, a < 6 → ∀ b, b < 6 → a ≠ b → (TX5 a).2.1 ≠ (TX5 b).2.1 := by decide +kernel
theorem tyX5_ok : ∀ k, k < 6 → parseFieldDescriptor (TX5 k).2.2.1 = some (tyX5 k) := by decide +kernel
abbrev cX5_init : ByteArray := prog_7_method_1_code
def yX5_init : MethodName := ⟨RX5, "<init>", "()V"⟩
abbrev cX5_append : ByteArray := prog_7_method_2_code
def yX5_append : MethodName := ⟨RX5, "append", "(I)Z"⟩
abbrev cX5_readFormula : ByteArray := prog_7_method_3_code
def yX5_readFormula : MethodName := ⟨RX5, "readFormula", "(I)J"⟩
abbrev cX5_nextIs : ByteArray := prog_7_method_4_code
def yX5_nextIs : MethodName := ⟨RX5, "nextIs", "(I)Z"⟩
abbrev cX5_readSum : ByteArray := prog_7_method_5_code
def yX5_readSum : MethodName := ⟨RX5, "readSum", "(I)J"⟩
abbrev cX5_readProduct : ByteArray := prog_7_method_6_code
def yX5_readProduct : MethodName := ⟨RX5, "readProduct", "(I)J"⟩
abbrev cX5_readFactor : ByteArray := prog_7_method_7_code
def yX5_readFactor : MethodName := ⟨RX5, "readFactor", "(I)J"⟩
abbrev cX5_readOpened : ByteArray := prog_7_method_8_code
def yX5_readOpened : MethodName := ⟨RX5, "readOpened", "(I)J"⟩
abbrev cX5_readAtom : ByteArray := prog_7_method_9_code
def yX5_readAtom : MethodName := ⟨RX5, "readAtom", "()J"⟩
def RX6 : String := "ReadOnceRecognizer$State"
def TX6 : u_T := fun k => match k with
  | 0 => ("ReadOnceRecognizer$State", "n", "I", false)
  | 1 => ("ReadOnceRecognizer$State", "functions", "[J", true)
  | 2 => ("ReadOnceRecognizer$State", "samplePoints", "J", false)
  | 3 => ("ReadOnceRecognizer$State", "sampleBits", "J", false)
  | 4 => ("ReadOnceRecognizer$State", "steps", "[I", true)
  | _ => ("ReadOnceRecognizer$State", "stepCount", "I", false)
def tyX6 : Nat → FieldType := fun k => match k with
  | 0 => .int
  | 1 => .array .long
  | 2 => .long
  | 3 => .long
  | 4 => .array .int
  | _ => .int
abbrev wsX60 : List Cond := u_ws RX6 TX6 6
theorem nmX6 : ∀ a, a < 6 → ∀ b, b < 6 → a ≠ b → (TX6 a).2.1 ≠ (TX6 b).2.1 := by decide +kernel
theorem tyX6_ok : ∀ k, k < 6 → parseFieldDescriptor (TX6 k).2.2.1 = some (tyX6 k) := by decide +kernel
abbrev cX6_init : ByteArray := prog_8_method_1_code
def yX6_init : MethodName := ⟨RX6, "<init>", "()V"⟩
abbrev cX6_startAnew : ByteArray := prog_8_method_2_code
def yX6_startAnew : MethodName := ⟨RX6, "startAnew", "(I)V"⟩
abbrev cX6_copyFrom : ByteArray := prog_8_method_3_code
def yX6_copyFrom : MethodName := ⟨RX6, "copyFrom", "(LReadOnceRecognizer$State;)V"⟩
abbrev cX6_holds : ByteArray := prog_8_method_4_code
def yX6_holds : MethodName := ⟨RX6, "holds", "(I)Z"⟩
abbrev cX6_usedCount : ByteArray := prog_8_method_5_code
def yX6_usedCount : MethodName := ⟨RX6, "usedCount", "()I"⟩
abbrev cX6_appendStep : ByteArray := prog_8_method_6_code
def yX6_appendStep : MethodName := ⟨RX6, "appendStep", "(IIII)V"⟩
def RX7 : String := "ReadOnceRecognizer"
def TX7 : u_T := fun k => match k with
  | 0 => ("ReadOnceRecognizer", "state", "LReadOnceRecognizer$State;", true)
  | 1 => ("ReadOnceRecognizer", "saved", "LReadOnceRecognizer$State;", true)
  | 2 => ("ReadOnceRecognizer", "hasSaved", "Z", false)
  | 3 => ("ReadOnceRecognizer", "history", "LReadOnceRecognizer$History;", true)
  | 4 => ("ReadOnceRecognizer", "graph", "LReadOnceRecognizer$Graph;", true)
  | 5 => ("ReadOnceRecognizer", "cotree", "LReadOnceRecognizer$Cotree;", true)
  | 6 => ("ReadOnceRecognizer", "input", "LReadOnceRecognizer$Input;", true)
  | 7 => ("ReadOnceRecognizer", "written", "LReadOnceRecognizer$FormulaText;", true)
  | 8 => ("ReadOnceRecognizer", "elements", "[I", true)
  | 9 => ("ReadOnceRecognizer", "lengths", "[I", true)
  | _ => ("ReadOnceRecognizer", "catalog", "LReadOnceRecognizer$Catalog;", false)
def tyX7 : Nat → FieldType := fun k => match k with
  | 0 => .object "ReadOnceRecognizer$State"
  | 1 => .object "ReadOnceRecognizer$State"
  | 2 => .boolean
  | 3 => .object "ReadOnceRecognizer$History"
  | 4 => .object "ReadOnceRecognizer$Graph"
  | 5 => .object "ReadOnceRecognizer$Cotree"
  | 6 => .object "ReadOnceRecognizer$Input"
  | 7 => .object "ReadOnceRecognizer$FormulaText"
  | 8 => .array .int
  | 9 => .array .int
  | _ => .object "ReadOnceRecognizer$Catalog"
abbrev wsX70 : List Cond := u_ws RX7 TX7 11
theorem nmX7 : ∀ a, a < 11 → ∀ b, b < 11 → a ≠ b → (TX7 a).2.1 ≠ (TX7 b).2.1 := by decide +kernel
theorem tyX7_ok : ∀ k, k < 11 → parseFieldDescriptor (TX7 k).2.2.1 = some (tyX7 k) := by decide +kernel
abbrev cX7_init : ByteArray := prog_1_method_1_code
def yX7_init : MethodName := ⟨RX7, "<init>", "()V"⟩
abbrev cX7_setVariables : ByteArray := prog_1_method_2_code
def yX7_setVariables : MethodName := ⟨RX7, "setVariables", "(I)I"⟩
abbrev cX7_variables : ByteArray := prog_1_method_3_code
def yX7_variables : MethodName := ⟨RX7, "variables", "()I"⟩
abbrev cX7_setTable : ByteArray := prog_1_method_4_code
def yX7_setTable : MethodName := ⟨RX7, "setTable", "(IJ)I"⟩
abbrev cX7_table : ByteArray := prog_1_method_5_code
def yX7_table : MethodName := ⟨RX7, "table", "(I)J"⟩
abbrev cX7_clear : ByteArray := prog_1_method_6_code
def yX7_clear : MethodName := ⟨RX7, "clear", "(I)I"⟩
abbrev cX7_value : ByteArray := prog_1_method_7_code
def yX7_value : MethodName := ⟨RX7, "value", "(II)I"⟩
abbrev cX7_usedSlots : ByteArray := prog_1_method_8_code
def yX7_usedSlots : MethodName := ⟨RX7, "usedSlots", "()I"⟩
abbrev cX7_essential : ByteArray := prog_1_method_9_code
def yX7_essential : MethodName := ⟨RX7, "essential", "(I)I"⟩
abbrev cX7_isMonotone : ByteArray := prog_1_method_10_code
def yX7_isMonotone : MethodName := ⟨RX7, "isMonotone", "(I)I"⟩
abbrev cX7_violatingPoint : ByteArray := prog_1_method_11_code
def yX7_violatingPoint : MethodName := ⟨RX7, "violatingPoint", "(I)I"⟩
abbrev cX7_primeImplicants : ByteArray := prog_1_method_12_code
def yX7_primeImplicants : MethodName := ⟨RX7, "primeImplicants", "(I)I"⟩
abbrev cX7_primeImplicant : ByteArray := prog_1_method_13_code
def yX7_primeImplicant : MethodName := ⟨RX7, "primeImplicant", "(II)I"⟩
abbrev cX7_neighbors : ByteArray := prog_1_method_14_code
def yX7_neighbors : MethodName := ⟨RX7, "neighbors", "(II)I"⟩
abbrev cX7_inducedPath : ByteArray := prog_1_method_15_code
def yX7_inducedPath : MethodName := ⟨RX7, "inducedPath", "(II)I"⟩
abbrev cX7_badClique : ByteArray := prog_1_method_16_code
def yX7_badClique : MethodName := ⟨RX7, "badClique", "(I)I"⟩
abbrev cX7_reason : ByteArray := prog_1_method_17_code
def yX7_reason : MethodName := ⟨RX7, "reason", "(I)I"⟩
abbrev cX7_nodes : ByteArray := prog_1_method_18_code
def yX7_nodes : MethodName := ⟨RX7, "nodes", "(I)I"⟩
abbrev cX7_nodeType : ByteArray := prog_1_method_19_code
def yX7_nodeType : MethodName := ⟨RX7, "nodeType", "(II)I"⟩
abbrev cX7_parent : ByteArray := prog_1_method_20_code
def yX7_parent : MethodName := ⟨RX7, "parent", "(II)I"⟩
abbrev cX7_depth : ByteArray := prog_1_method_21_code
def yX7_depth : MethodName := ⟨RX7, "depth", "(II)I"⟩
abbrev cX7_writeFormula : ByteArray := prog_1_method_22_code
def yX7_writeFormula : MethodName := ⟨RX7, "writeFormula", "(I)I"⟩
abbrev cX7_output : ByteArray := prog_1_method_23_code
def yX7_output : MethodName := ⟨RX7, "output", "(I)I"⟩
abbrev cX7_feed : ByteArray := prog_1_method_24_code
def yX7_feed : MethodName := ⟨RX7, "feed", "(I)I"⟩
abbrev cX7_parse : ByteArray := prog_1_method_25_code
def yX7_parse : MethodName := ⟨RX7, "parse", "(I)I"⟩
abbrev cX7_combine : ByteArray := prog_1_method_26_code
def yX7_combine : MethodName := ⟨RX7, "combine", "(IIII)I"⟩
abbrev cX7_dual : ByteArray := prog_1_method_27_code
def yX7_dual : MethodName := ⟨RX7, "dual", "(II)I"⟩
abbrev cX7_cofactor : ByteArray := prog_1_method_28_code
def yX7_cofactor : MethodName := ⟨RX7, "cofactor", "(IIII)I"⟩
abbrev cX7_substitute : ByteArray := prog_1_method_29_code
def yX7_substitute : MethodName := ⟨RX7, "substitute", "(IIII)I"⟩
abbrev cX7_exchange : ByteArray := prog_1_method_30_code
def yX7_exchange : MethodName := ⟨RX7, "exchange", "(IIII)I"⟩
abbrev cX7_random : ByteArray := prog_1_method_31_code
def yX7_random : MethodName := ⟨RX7, "random", "(III)I"⟩
abbrev cX7_readOnceTrials : ByteArray := prog_1_method_32_code
def yX7_readOnceTrials : MethodName := ⟨RX7, "readOnceTrials", "(III)I"⟩
abbrev cX7_addSample : ByteArray := prog_1_method_33_code
def yX7_addSample : MethodName := ⟨RX7, "addSample", "(II)I"⟩
abbrev cX7_removeSample : ByteArray := prog_1_method_34_code
def yX7_removeSample : MethodName := ⟨RX7, "removeSample", "(I)I"⟩
abbrev cX7_extensions : ByteArray := prog_1_method_35_code
def yX7_extensions : MethodName := ⟨RX7, "extensions", "()I"⟩
abbrev cX7_extension : ByteArray := prog_1_method_36_code
def yX7_extension : MethodName := ⟨RX7, "extension", "(I)J"⟩
abbrev cX7_simplestExtension : ByteArray := prog_1_method_37_code
def yX7_simplestExtension : MethodName := ⟨RX7, "simplestExtension", "()J"⟩
abbrev cX7_readOnceCount : ByteArray := prog_1_method_38_code
def yX7_readOnceCount : MethodName := ⟨RX7, "readOnceCount", "(I)I"⟩
abbrev cX7_addStep : ByteArray := prog_1_method_39_code
def yX7_addStep : MethodName := ⟨RX7, "addStep", "(IIII)I"⟩
abbrev cX7_clearSteps : ByteArray := prog_1_method_40_code
def yX7_clearSteps : MethodName := ⟨RX7, "clearSteps", "()I"⟩
abbrev cX7_runSteps : ByteArray := prog_1_method_41_code
def yX7_runSteps : MethodName := ⟨RX7, "runSteps", "()I"⟩
abbrev cX7_undo : ByteArray := prog_1_method_42_code
def yX7_undo : MethodName := ⟨RX7, "undo", "()I"⟩
abbrev cX7_undoable : ByteArray := prog_1_method_43_code
def yX7_undoable : MethodName := ⟨RX7, "undoable", "()I"⟩
abbrev cX7_save : ByteArray := prog_1_method_44_code
def yX7_save : MethodName := ⟨RX7, "save", "()I"⟩
abbrev cX7_restore : ByteArray := prog_1_method_45_code
def yX7_restore : MethodName := ⟨RX7, "restore", "()I"⟩
abbrev cX7_createArray : ByteArray := prog_1_method_46_code
def yX7_createArray : MethodName := ⟨RX7, "createArray", "(II)I"⟩
abbrev cX7_setElement : ByteArray := prog_1_method_47_code
def yX7_setElement : MethodName := ⟨RX7, "setElement", "(III)I"⟩
abbrev cX7_element : ByteArray := prog_1_method_48_code
def yX7_element : MethodName := ⟨RX7, "element", "(II)J"⟩
abbrev cX7_compare : ByteArray := prog_1_method_49_code
def yX7_compare : MethodName := ⟨RX7, "compare", "(II)I"⟩
abbrev cX7_isIndex : ByteArray := prog_1_method_50_code
def yX7_isIndex : MethodName := ⟨RX7, "isIndex", "(II)Z"⟩
abbrev cX7_isSlot : ByteArray := prog_1_method_51_code
def yX7_isSlot : MethodName := ⟨RX7, "isSlot", "(I)Z"⟩
abbrev cX7_isBit : ByteArray := prog_1_method_52_code
def yX7_isBit : MethodName := ⟨RX7, "isBit", "(I)Z"⟩
abbrev cX7_isPoint : ByteArray := prog_1_method_53_code
def yX7_isPoint : MethodName := ⟨RX7, "isPoint", "(I)Z"⟩
abbrev cX7_isVariable : ByteArray := prog_1_method_54_code
def yX7_isVariable : MethodName := ⟨RX7, "isVariable", "(I)Z"⟩
abbrev cX7_slotError : ByteArray := prog_1_method_55_code
def yX7_slotError : MethodName := ⟨RX7, "slotError", "(I)I"⟩
abbrev cX7_store : ByteArray := prog_1_method_56_code
def yX7_store : MethodName := ⟨RX7, "store", "(IJ)I"⟩
abbrev cX7_drawGraph : ByteArray := prog_1_method_57_code
def yX7_drawGraph : MethodName := ⟨RX7, "drawGraph", "(I)I"⟩
abbrev cX7_growCotree : ByteArray := prog_1_method_58_code
def yX7_growCotree : MethodName := ⟨RX7, "growCotree", "(I)I"⟩
abbrev cX7_whyNotReadOnce : ByteArray := prog_1_method_59_code
def yX7_whyNotReadOnce : MethodName := ⟨RX7, "whyNotReadOnce", "(J)I"⟩
abbrev cX7_runStep : ByteArray := prog_1_method_60_code
def yX7_runStep : MethodName := ⟨RX7, "runStep", "(I)I"⟩
abbrev cX7_openCatalog : ByteArray := prog_1_method_61_code
def yX7_openCatalog : MethodName := ⟨RX7, "openCatalog", "()LReadOnceRecognizer$Catalog;"⟩
abbrev cX7_isExtension : ByteArray := prog_1_method_62_code
def yX7_isExtension : MethodName := ⟨RX7, "isExtension", "(LReadOnceRecognizer$Catalog;I)Z"⟩
abbrev cX7_pointCount : ByteArray := prog_1_method_63_code
def yX7_pointCount : MethodName := ⟨RX7, "pointCount", "(I)I"⟩
abbrev cX7_fullTable : ByteArray := prog_1_method_64_code
def yX7_fullTable : MethodName := ⟨RX7, "fullTable", "(I)J"⟩
abbrev cX7_bitAt : ByteArray := prog_1_method_65_code
def yX7_bitAt : MethodName := ⟨RX7, "bitAt", "(JI)I"⟩
abbrev cX7_withBit : ByteArray := prog_1_method_66_code
def yX7_withBit : MethodName := ⟨RX7, "withBit", "(III)I"⟩
abbrev cX7_essentialSet : ByteArray := prog_1_method_67_code
def yX7_essentialSet : MethodName := ⟨RX7, "essentialSet", "(IJ)I"⟩
abbrev cX7_lowestViolation : ByteArray := prog_1_method_68_code
def yX7_lowestViolation : MethodName := ⟨RX7, "lowestViolation", "(IJ)I"⟩
abbrev cX7_fallsAbove : ByteArray := prog_1_method_69_code
def yX7_fallsAbove : MethodName := ⟨RX7, "fallsAbove", "(IJI)Z"⟩
abbrev cX7_applied : ByteArray := prog_1_method_70_code
def yX7_applied : MethodName := ⟨RX7, "applied", "(IJJ)J"⟩
abbrev cX7_substituted : ByteArray := prog_1_method_71_code
def yX7_substituted : MethodName := ⟨RX7, "substituted", "(JIJ)J"⟩
abbrev cX7_drawnTable : ByteArray := prog_1_method_72_code
def yX7_drawnTable : MethodName := ⟨RX7, "drawnTable", "(II)J"⟩
abbrev cX7_supersets : ByteArray := prog_1_method_73_code
def yX7_supersets : MethodName := ⟨RX7, "supersets", "(II)J"⟩
abbrev cX7_hasVariable : ByteArray := prog_1_method_74_code
def yX7_hasVariable : MethodName := ⟨RX7, "hasVariable", "(II)Z"⟩
abbrev cX7_lowestVariable : ByteArray := prog_1_method_75_code
def yX7_lowestVariable : MethodName := ⟨RX7, "lowestVariable", "(I)I"⟩
def RX8 : String := "ReadOnceRecognizerModel"
def TX8 : u_T := fun k => match k with
  | 0 => ("ReadOnceRecognizerModel", "n", "I", false)
  | 1 => ("ReadOnceRecognizerModel", "points", "I", false)
  | 2 => ("ReadOnceRecognizerModel", "table", "[J", true)
  | 3 => ("ReadOnceRecognizerModel", "filled", "[Z", true)
  | 4 => ("ReadOnceRecognizerModel", "records", "I", false)
  | 5 => ("ReadOnceRecognizerModel", "recordSlot", "[I", true)
  | 6 => ("ReadOnceRecognizerModel", "recordTable", "[J", true)
  | 7 => ("ReadOnceRecognizerModel", "recordFilled", "[Z", true)
  | 8 => ("ReadOnceRecognizerModel", "sampled", "J", false)
  | 9 => ("ReadOnceRecognizerModel", "sampleBits", "J", false)
  | 10 => ("ReadOnceRecognizerModel", "steps", "I", false)
  | 11 => ("ReadOnceRecognizerModel", "step", "[I", true)
  | 12 => ("ReadOnceRecognizerModel", "input", "[I", true)
  | 13 => ("ReadOnceRecognizerModel", "inputSize", "I", false)
  | 14 => ("ReadOnceRecognizerModel", "output", "[I", true)
  | 15 => ("ReadOnceRecognizerModel", "outputSize", "I", false)
  | 16 => ("ReadOnceRecognizerModel", "arrayLength", "[I", true)
  | 17 => ("ReadOnceRecognizerModel", "element", "[I", true)
  | 18 => ("ReadOnceRecognizerModel", "savedN", "I", false)
  | 19 => ("ReadOnceRecognizerModel", "savedSteps", "I", false)
  | 20 => ("ReadOnceRecognizerModel", "savedSampled", "J", false)
  | 21 => ("ReadOnceRecognizerModel", "savedBits", "J", false)
  | 22 => ("ReadOnceRecognizerModel", "savedTable", "[J", true)
  | 23 => ("ReadOnceRecognizerModel", "savedFilled", "[Z", true)
  | 24 => ("ReadOnceRecognizerModel", "savedStep", "[I", true)
  | 25 => ("ReadOnceRecognizerModel", "near", "[I", true)
  | 26 => ("ReadOnceRecognizerModel", "vertices", "I", false)
  | 27 => ("ReadOnceRecognizerModel", "nodes", "I", false)
  | 28 => ("ReadOnceRecognizerModel", "type", "[I", true)
  | 29 => ("ReadOnceRecognizerModel", "parent", "[I", true)
  | 30 => ("ReadOnceRecognizerModel", "place", "I", false)
  | 31 => ("ReadOnceRecognizerModel", "fault", "I", false)
  | 32 => ("ReadOnceRecognizerModel", "occurrences", "I", false)
  | 33 => ("ReadOnceRecognizerModel", "functions", "I", false)
  | 34 => ("ReadOnceRecognizerModel", "kept", "I", false)
  | 35 => ("ReadOnceRecognizerModel", "function", "[J", true)
  | 36 => ("ReadOnceRecognizerModel", "made", "[J", true)
  | 37 => ("ReadOnceRecognizerModel", "madeSet", "[I", true)
  | _ => ("ReadOnceRecognizerModel", "madeRoot", "[I", true)
def tyX8 : Nat → FieldType := fun k => match k with
  | 0 => .int
  | 1 => .int
  | 2 => .array .long
  | 3 => .array .boolean
  | 4 => .int
  | 5 => .array .int
  | 6 => .array .long
  | 7 => .array .boolean
  | 8 => .long
  | 9 => .long
  | 10 => .int
  | 11 => .array .int
  | 12 => .array .int
  | 13 => .int
  | 14 => .array .int
  | 15 => .int
  | 16 => .array .int
  | 17 => .array .int
  | 18 => .int
  | 19 => .int
  | 20 => .long
  | 21 => .long
  | 22 => .array .long
  | 23 => .array .boolean
  | 24 => .array .int
  | 25 => .array .int
  | 26 => .int
  | 27 => .int
  | 28 => .array .int
  | 29 => .array .int
  | 30 => .int
  | 31 => .int
  | 32 => .int
  | 33 => .int
  | 34 => .int
  | 35 => .array .long
  | 36 => .array .long
  | 37 => .array .int
  | _ => .array .int
abbrev wsX80 : List Cond := u_ws RX8 TX8 39
theorem nmX8 : ∀ a, a < 39 → ∀ b, b < 39 → a ≠ b → (TX8 a).2.1 ≠ (TX8 b).2.1 := by decide +kernel
theorem tyX8_ok : ∀ k, k < 39 → parseFieldDescriptor (TX8 k).2.2.1 = some (tyX8 k) := by decide +kernel
abbrev cX8_init : ByteArray := prog_10_method_1_code
def yX8_init : MethodName := ⟨RX8, "<init>", "()V"⟩
abbrev cX8_isIn : ByteArray := prog_10_method_2_code
def yX8_isIn : MethodName := ⟨RX8, "isIn", "(JJJ)Z"⟩
abbrev cX8_isSlot : ByteArray := prog_10_method_3_code
def yX8_isSlot : MethodName := ⟨RX8, "isSlot", "(I)Z"⟩
abbrev cX8_isPoint : ByteArray := prog_10_method_4_code
def yX8_isPoint : MethodName := ⟨RX8, "isPoint", "(I)Z"⟩
abbrev cX8_isVariable : ByteArray := prog_10_method_5_code
def yX8_isVariable : MethodName := ⟨RX8, "isVariable", "(I)Z"⟩
abbrev cX8_at : ByteArray := prog_10_method_6_code
def yX8_at : MethodName := ⟨RX8, "at", "(JI)Z"⟩
abbrev cX8_ones : ByteArray := prog_10_method_7_code
def yX8_ones : MethodName := ⟨RX8, "ones", "(J)I"⟩
abbrev cX8_bits : ByteArray := prog_10_method_8_code
def yX8_bits : MethodName := ⟨RX8, "bits", "(I)I"⟩
abbrev cX8_record : ByteArray := prog_10_method_9_code
def yX8_record : MethodName := ⟨RX8, "record", "(I)V"⟩
abbrev cX8_store : ByteArray := prog_10_method_10_code
def yX8_store : MethodName := ⟨RX8, "store", "(IJ)I"⟩
abbrev cX8_setVariables : ByteArray := prog_10_method_11_code
def yX8_setVariables : MethodName := ⟨RX8, "setVariables", "(I)I"⟩
abbrev cX8_variables : ByteArray := prog_10_method_12_code
def yX8_variables : MethodName := ⟨RX8, "variables", "()I"⟩
abbrev cX8_setTable : ByteArray := prog_10_method_13_code
def yX8_setTable : MethodName := ⟨RX8, "setTable", "(IJ)I"⟩
abbrev cX8_table : ByteArray := prog_10_method_14_code
def yX8_table : MethodName := ⟨RX8, "table", "(I)J"⟩
abbrev cX8_clear : ByteArray := prog_10_method_15_code
def yX8_clear : MethodName := ⟨RX8, "clear", "(I)I"⟩
abbrev cX8_wrong : ByteArray := prog_10_method_16_code
def yX8_wrong : MethodName := ⟨RX8, "wrong", "(I)I"⟩
abbrev cX8_value : ByteArray := prog_10_method_17_code
def yX8_value : MethodName := ⟨RX8, "value", "(II)I"⟩
abbrev cX8_essentialOf : ByteArray := prog_10_method_18_code
def yX8_essentialOf : MethodName := ⟨RX8, "essentialOf", "(J)I"⟩
abbrev cX8_essential : ByteArray := prog_10_method_19_code
def yX8_essential : MethodName := ⟨RX8, "essential", "(I)I"⟩
abbrev cX8_violation : ByteArray := prog_10_method_20_code
def yX8_violation : MethodName := ⟨RX8, "violation", "(J)I"⟩
abbrev cX8_isMonotone : ByteArray := prog_10_method_21_code
def yX8_isMonotone : MethodName := ⟨RX8, "isMonotone", "(I)I"⟩
abbrev cX8_violatingPoint : ByteArray := prog_10_method_22_code
def yX8_violatingPoint : MethodName := ⟨RX8, "violatingPoint", "(I)I"⟩
abbrev cX8_isPrime : ByteArray := prog_10_method_23_code
def yX8_isPrime : MethodName := ⟨RX8, "isPrime", "(JI)Z"⟩
abbrev cX8_wrongOrNot : ByteArray := prog_10_method_24_code
def yX8_wrongOrNot : MethodName := ⟨RX8, "wrongOrNot", "(I)I"⟩
abbrev cX8_primesOf : ByteArray := prog_10_method_25_code
def yX8_primesOf : MethodName := ⟨RX8, "primesOf", "(J)I"⟩
abbrev cX8_primeOf : ByteArray := prog_10_method_26_code
def yX8_primeOf : MethodName := ⟨RX8, "primeOf", "(JI)I"⟩
abbrev cX8_primeImplicants : ByteArray := prog_10_method_27_code
def yX8_primeImplicants : MethodName := ⟨RX8, "primeImplicants", "(I)I"⟩
abbrev cX8_primeImplicant : ByteArray := prog_10_method_28_code
def yX8_primeImplicant : MethodName := ⟨RX8, "primeImplicant", "(II)I"⟩
abbrev cX8_graph : ByteArray := prog_10_method_29_code
def yX8_graph : MethodName := ⟨RX8, "graph", "(J)V"⟩
abbrev cX8_areNear : ByteArray := prog_10_method_30_code
def yX8_areNear : MethodName := ⟨RX8, "areNear", "(II)Z"⟩
abbrev cX8_neighbors : ByteArray := prog_10_method_31_code
def yX8_neighbors : MethodName := ⟨RX8, "neighbors", "(II)I"⟩
abbrev cX8_path : ByteArray := prog_10_method_32_code
def yX8_path : MethodName := ⟨RX8, "path", "()I"⟩
abbrev cX8_inducedPath : ByteArray := prog_10_method_33_code
def yX8_inducedPath : MethodName := ⟨RX8, "inducedPath", "(II)I"⟩
abbrev cX8_isClique : ByteArray := prog_10_method_34_code
def yX8_isClique : MethodName := ⟨RX8, "isClique", "(I)Z"⟩
abbrev cX8_isMaximal : ByteArray := prog_10_method_35_code
def yX8_isMaximal : MethodName := ⟨RX8, "isMaximal", "(I)Z"⟩
abbrev cX8_badCliqueOf : ByteArray := prog_10_method_36_code
def yX8_badCliqueOf : MethodName := ⟨RX8, "badCliqueOf", "(J)I"⟩
abbrev cX8_badClique : ByteArray := prog_10_method_37_code
def yX8_badClique : MethodName := ⟨RX8, "badClique", "(I)I"⟩
abbrev cX8_reasonOf : ByteArray := prog_10_method_38_code
def yX8_reasonOf : MethodName := ⟨RX8, "reasonOf", "(J)I"⟩
abbrev cX8_reason : ByteArray := prog_10_method_39_code
def yX8_reason : MethodName := ⟨RX8, "reason", "(I)I"⟩
abbrev cX8_component : ByteArray := prog_10_method_40_code
def yX8_component : MethodName := ⟨RX8, "component", "(IIZ)I"⟩
abbrev cX8_lowest : ByteArray := prog_10_method_41_code
def yX8_lowest : MethodName := ⟨RX8, "lowest", "(I)I"⟩
abbrev cX8_grow : ByteArray := prog_10_method_42_code
def yX8_grow : MethodName := ⟨RX8, "grow", "(II)V"⟩
abbrev cX8_tree : ByteArray := prog_10_method_43_code
def yX8_tree : MethodName := ⟨RX8, "tree", "(I)I"⟩
abbrev cX8_nodes : ByteArray := prog_10_method_44_code
def yX8_nodes : MethodName := ⟨RX8, "nodes", "(I)I"⟩
abbrev cX8_isNode : ByteArray := prog_10_method_45_code
def yX8_isNode : MethodName := ⟨RX8, "isNode", "(I)Z"⟩
abbrev cX8_nodeType : ByteArray := prog_10_method_46_code
def yX8_nodeType : MethodName := ⟨RX8, "nodeType", "(II)I"⟩
abbrev cX8_parent : ByteArray := prog_10_method_47_code
def yX8_parent : MethodName := ⟨RX8, "parent", "(II)I"⟩
abbrev cX8_depth : ByteArray := prog_10_method_48_code
def yX8_depth : MethodName := ⟨RX8, "depth", "(II)I"⟩
abbrev cX8_put : ByteArray := prog_10_method_49_code
def yX8_put : MethodName := ⟨RX8, "put", "(I)V"⟩
abbrev cX8_write : ByteArray := prog_10_method_50_code
def yX8_write : MethodName := ⟨RX8, "write", "(I)V"⟩
abbrev cX8_writeFormula : ByteArray := prog_10_method_51_code
def yX8_writeFormula : MethodName := ⟨RX8, "writeFormula", "(I)I"⟩
abbrev cX8_output : ByteArray := prog_10_method_52_code
def yX8_output : MethodName := ⟨RX8, "output", "(I)I"⟩
abbrev cX8_feed : ByteArray := prog_10_method_53_code
def yX8_feed : MethodName := ⟨RX8, "feed", "(I)I"⟩
abbrev cX8_here : ByteArray := prog_10_method_54_code
def yX8_here : MethodName := ⟨RX8, "here", "()I"⟩
abbrev cX8_fail : ByteArray := prog_10_method_55_code
def yX8_fail : MethodName := ⟨RX8, "fail", "()V"⟩
abbrev cX8_all : ByteArray := prog_10_method_56_code
def yX8_all : MethodName := ⟨RX8, "all", "()J"⟩
abbrev cX8_variable : ByteArray := prog_10_method_57_code
def yX8_variable : MethodName := ⟨RX8, "variable", "(I)J"⟩
abbrev cX8_factor : ByteArray := prog_10_method_58_code
def yX8_factor : MethodName := ⟨RX8, "factor", "(I)J"⟩
abbrev cX8_term : ByteArray := prog_10_method_59_code
def yX8_term : MethodName := ⟨RX8, "term", "(I)J"⟩
abbrev cX8_formula : ByteArray := prog_10_method_60_code
def yX8_formula : MethodName := ⟨RX8, "formula", "(I)J"⟩
abbrev cX8_parse : ByteArray := prog_10_method_61_code
def yX8_parse : MethodName := ⟨RX8, "parse", "(I)I"⟩
abbrev cX8_combine : ByteArray := prog_10_method_62_code
def yX8_combine : MethodName := ⟨RX8, "combine", "(IIII)I"⟩
abbrev cX8_dual : ByteArray := prog_10_method_63_code
def yX8_dual : MethodName := ⟨RX8, "dual", "(II)I"⟩
abbrev cX8_cofactor : ByteArray := prog_10_method_64_code
def yX8_cofactor : MethodName := ⟨RX8, "cofactor", "(IIII)I"⟩
abbrev cX8_substitute : ByteArray := prog_10_method_65_code
def yX8_substitute : MethodName := ⟨RX8, "substitute", "(IIII)I"⟩
abbrev cX8_exchange : ByteArray := prog_10_method_66_code
def yX8_exchange : MethodName := ⟨RX8, "exchange", "(IIII)I"⟩
abbrev cX8_randomOf : ByteArray := prog_10_method_67_code
def yX8_randomOf : MethodName := ⟨RX8, "randomOf", "(II)J"⟩
abbrev cX8_random : ByteArray := prog_10_method_68_code
def yX8_random : MethodName := ⟨RX8, "random", "(III)I"⟩
abbrev cX8_readOnceTrials : ByteArray := prog_10_method_69_code
def yX8_readOnceTrials : MethodName := ⟨RX8, "readOnceTrials", "(III)I"⟩
abbrev cX8_make : ByteArray := prog_10_method_70_code
def yX8_make : MethodName := ⟨RX8, "make", "(IIJ)V"⟩
abbrev cX8_join : ByteArray := prog_10_method_71_code
def yX8_join : MethodName := ⟨RX8, "join", "(III)V"⟩
abbrev cX8_listFunctions : ByteArray := prog_10_method_72_code
def yX8_listFunctions : MethodName := ⟨RX8, "listFunctions", "()V"⟩
abbrev cX8_insert : ByteArray := prog_10_method_73_code
def yX8_insert : MethodName := ⟨RX8, "insert", "(J)V"⟩
abbrev cX8_addSample : ByteArray := prog_10_method_74_code
def yX8_addSample : MethodName := ⟨RX8, "addSample", "(II)I"⟩
abbrev cX8_removeSample : ByteArray := prog_10_method_75_code
def yX8_removeSample : MethodName := ⟨RX8, "removeSample", "(I)I"⟩
abbrev cX8_agrees : ByteArray := prog_10_method_76_code
def yX8_agrees : MethodName := ⟨RX8, "agrees", "(J)Z"⟩
abbrev cX8_extensions : ByteArray := prog_10_method_77_code
def yX8_extensions : MethodName := ⟨RX8, "extensions", "()I"⟩
abbrev cX8_extension : ByteArray := prog_10_method_78_code
def yX8_extension : MethodName := ⟨RX8, "extension", "(I)J"⟩
abbrev cX8_simplestExtension : ByteArray := prog_10_method_79_code
def yX8_simplestExtension : MethodName := ⟨RX8, "simplestExtension", "()J"⟩
abbrev cX8_readOnceCount : ByteArray := prog_10_method_80_code
def yX8_readOnceCount : MethodName := ⟨RX8, "readOnceCount", "(I)I"⟩
abbrev cX8_addStep : ByteArray := prog_10_method_81_code
def yX8_addStep : MethodName := ⟨RX8, "addStep", "(IIII)I"⟩
abbrev cX8_clearSteps : ByteArray := prog_10_method_82_code
def yX8_clearSteps : MethodName := ⟨RX8, "clearSteps", "()I"⟩
abbrev cX8_execute : ByteArray := prog_10_method_83_code
def yX8_execute : MethodName := ⟨RX8, "execute", "(I)I"⟩
abbrev cX8_runSteps : ByteArray := prog_10_method_84_code
def yX8_runSteps : MethodName := ⟨RX8, "runSteps", "()I"⟩
abbrev cX8_undo : ByteArray := prog_10_method_85_code
def yX8_undo : MethodName := ⟨RX8, "undo", "()I"⟩
abbrev cX8_save : ByteArray := prog_10_method_86_code
def yX8_save : MethodName := ⟨RX8, "save", "()I"⟩
abbrev cX8_restore : ByteArray := prog_10_method_87_code
def yX8_restore : MethodName := ⟨RX8, "restore", "()I"⟩
abbrev cX8_isArray : ByteArray := prog_10_method_88_code
def yX8_isArray : MethodName := ⟨RX8, "isArray", "(I)Z"⟩
abbrev cX8_createArray : ByteArray := prog_10_method_89_code
def yX8_createArray : MethodName := ⟨RX8, "createArray", "(II)I"⟩
abbrev cX8_setElement : ByteArray := prog_10_method_90_code
def yX8_setElement : MethodName := ⟨RX8, "setElement", "(III)I"⟩
abbrev cX8_element : ByteArray := prog_10_method_91_code
def yX8_element : MethodName := ⟨RX8, "element", "(II)J"⟩
abbrev cX8_compare : ByteArray := prog_10_method_92_code
def yX8_compare : MethodName := ⟨RX8, "compare", "(II)I"⟩
abbrev cX8_usedSlots : ByteArray := prog_10_method_93_code
def yX8_usedSlots : MethodName := ⟨RX8, "usedSlots", "()I"⟩
abbrev cX8_undoable : ByteArray := prog_10_method_94_code
def yX8_undoable : MethodName := ⟨RX8, "undoable", "()I"⟩
def RJ6 : String := "java/lang/Integer"
def TJ6 : u_T := fun k => match k with
  | _ => ("", "", "", false)
def tyJ6 : Nat → FieldType := fun k => match k with
  | _ => .int
abbrev wsJ60 : List Cond := u_ws RJ6 TJ6 0
theorem nmJ6 : ∀ a, a < 0 → ∀ b, b < 0 → a ≠ b → (TJ6 a).2.1 ≠ (TJ6 b).2.1 := by decide +kernel
theorem tyJ6_ok : ∀ k, k < 0 → parseFieldDescriptor (TJ6 k).2.2.1 = some (tyJ6 k) := by decide +kernel
abbrev cJ6_bitCount_0f7a4 : ByteArray := prog_11_method_49_code
def yJ6_bitCount_0f7a4 : MethodName := ⟨RJ6, "bitCount", "(I)I"⟩
def RJ13 : String := "java/lang/Long"
def TJ13 : u_T := fun k => match k with
  | _ => ("", "", "", false)
def tyJ13 : Nat → FieldType := fun k => match k with
  | _ => .int
abbrev wsJ130 : List Cond := u_ws RJ13 TJ13 0
theorem nmJ13 : ∀ a, a < 0 → ∀ b, b < 0 → a ≠ b → (TJ13 a).2.1 ≠ (TJ13 b).2.1 := by decide +kernel
theorem tyJ13_ok : ∀ k, k < 0 → parseFieldDescriptor (TJ13 k).2.2.1 = some (tyJ13 k) := by decide +kernel
abbrev cJ13_bitCount_95d88 : ByteArray := prog_12_method_50_code
def yJ13_bitCount_95d88 : MethodName := ⟨RJ13, "bitCount", "(J)I"⟩
def RJ10 : String := "java/lang/System"
def TJ10 : u_T := fun k => match k with
  | _ => ("", "", "", false)
def tyJ10 : Nat → FieldType := fun k => match k with
  | _ => .int
abbrev wsJ100 : List Cond := u_ws RJ10 TJ10 0
theorem nmJ10 : ∀ a, a < 0 → ∀ b, b < 0 → a ≠ b → (TJ10 a).2.1 ≠ (TJ10 b).2.1 := by decide +kernel
theorem tyJ10_ok : ∀ k, k < 0 → parseFieldDescriptor (TJ10 k).2.2.1 = some (tyJ10 k) := by decide +kernel
def RJ7 : String := "java/util/Arrays"
def TJ7 : u_T := fun k => match k with
  | _ => ("", "", "", false)
def tyJ7 : Nat → FieldType := fun k => match k with
  | _ => .int
abbrev wsJ70 : List Cond := u_ws RJ7 TJ7 0
theorem nmJ7 : ∀ a, a < 0 → ∀ b, b < 0 → a ≠ b → (TJ7 a).2.1 ≠ (TJ7 b).2.1 := by decide +kernel
theorem tyJ7_ok : ∀ k, k < 0 → parseFieldDescriptor (TJ7 k).2.2.1 = some (tyJ7 k) := by decide +kernel
abbrev cJ7_fill_d0a16 : ByteArray := prog_14_method_101_code
def yJ7_fill_d0a16 : MethodName := ⟨RJ7, "fill", "([JJ)V"⟩
abbrev cJ7_fill_53178 : ByteArray := prog_14_method_103_code
def yJ7_fill_53178 : MethodName := ⟨RJ7, "fill", "([II)V"⟩
def RL : String := "ReadOnceRecognizerLaw"
abbrev cL_law : ByteArray := code
def yL_law : MethodName := ⟨RL, "law", "([I)Z"⟩
abbrev vwCl : List vw_C := [(RX0, TX0, 2), (RX1, TX1, 3), (RX2, TX2, 2), (RX3, TX3, 5), (RX4, TX4, 3), (RX5, TX5, 6), (RX6, TX6, 6), (RX7, TX7, 11), (RX8, TX8, 39)]
end
section
/-! OUR LAYER. An abstract heap is a list of cells: an object (class number, fields), int[], long[], boolean[]; a reference is the cell's place in the list; places 1000 and 1001 stand for the two static arrays. tG: from this point of a method's code the machine comes to an end with Q. tEv: a method's contract in these words. -/
abbrev tC : Type := (Nat × List Value) ⊕ (List Int32 ⊕ (List Int64 ⊕ List Int32))
abbrev tHp : Type := List tC
abbrev tEn : Type := va_G × (ClassId × ClassId × ClassId) × (Nat × Nat)
def tad (E : tEn) (ads : List Nat) (k : Nat) : Nat := match ads[k]? with
  | some a => a
  | none => if k = 1000 then E.2.2.1 else E.2.2.2
def tv (E : tEn) (ads : List Nat) (v : Value) : Value := match v with
  | .ref k => .ref (tad E ads k)
  | w => w
theorem tv_cat (E : tEn) (ads : List Nat) (v : Value) : (tv E ads v).category = v.category := by cases v <;> rfl
def tce (E : tEn) (ads : List Nat) (c : tC) : va_E := match c with
  | .inl o => .inr (o.1, o.2.map (tv E ads))
  | .inr (.inl l) => .inl (E.2.1.1, l.length, .inl (fun j => l.getD j 0))
  | .inr (.inr (.inl l)) => .inl (E.2.1.2.1, l.length, .inr (.inl (fun j => l.getD j 0)))
  | .inr (.inr (.inr l)) => .inl (E.2.1.2.2, l.length, .inl (fun j => l.getD j 0))
def tw (E : tEn) (ads : List Nat) (h : tHp) : va_W := List.zipWith (fun a c => (a, tce E ads c)) ads h
theorem tw_get {E : tEn} {ads : List Nat} {h : tHp} {j : Nat} {c : tC} (hl : ads.length = h.length) (hc : h[j]? = some c) : (tw E ads h)[j]? = some (tad E ads j, tce E ads c) := by
  have hj : j < h.length := (List.getElem?_eq_some_iff.mp hc).1
  have ha : ads[j]? = some (ads[j]'(by omega)) := List.getElem?_eq_getElem (by omega)
  unfold tw
  rw [List.getElem?_zipWith, ha, hc]
  simp only [tad, ha]
theorem tw_set {E : tEn} {ads : List Nat} {h : tHp} {j : Nat} {c : tC} (hl : ads.length = h.length) (hj : j < h.length) : (tw E ads h).set j (tad E ads j, tce E ads c) = tw E ads (h.set j c) := by
  apply List.ext_getElem?
  intro i
  have hlen : (tw E ads h).length = h.length := by unfold tw; rw [List.length_zipWith]; omega
  by_cases hij : j = i
  · subst hij
    have h2 : (h.set j c)[j]? = some c := by rw [List.getElem?_set_self hj]
    rw [tw_get (by rw [List.length_set]; exact hl) h2, List.getElem?_set_self (by omega)]
  · rw [List.getElem?_set_ne hij]
    unfold tw
    rw [List.getElem?_zipWith, List.getElem?_zipWith, List.getElem?_set_ne hij]
def tR (E : tEn) (ads : List Nat) (h : tHp) (A : Nat → Prop) (H : Heap) : Prop := ads.length = h.length ∧ va_P E.1 vwCl (tw E ads h) H ∧ va_D A (tw E ads h)
def tVT : List Int64 := [2863311530, 3435973836, 4042322160, 4278255360, 4294901760]
def tGA : List Int32 := [301, 132, 57, 23, 10, 4, 1]
def tNest : Cond → Bool
  | .fieldLinkNest .. => true
  | .methodLinkNest .. => true
  | _ => false
def tSt (w : Cond) : Bool := goodWord w || tNest w
def tTB : List Cond := lw_tbl.filter tSt
theorem tmem {w : Cond} (h1 : w ∈ lw_tbl) (h2 : tSt w = true) : w ∈ tTB := List.mem_filter.mpr ⟨h1, h2⟩
def tU (E : tEn) (A : Nat → Prop) (U : State) : Prop :=
  va_K E.1 vwCl [(E.2.1.1, .int), (E.2.1.2.1, .long), (E.2.1.2.2, .boolean)] U ∧ (∀ w ∈ tTB, va_Nw w U) ∧
  (va_Z "ReadOnceRecognizer" "VARIABLE_TABLES" "[J" (.ref E.2.2.1) A U U.heap ∧ va_T .long E.2.2.1 5 (fun j => .long (tVT.getD j 0)) A U U.heap) ∧
  (va_Z "ReadOnceRecognizer$Catalog" "GAPS" "[I" (.ref E.2.2.2) A U U.heap ∧ va_T .int E.2.2.2 7 (fun j => .int (tGA.getD j 0)) A U U.heap)
theorem tWm {s U : State} {w : Cond} (hW : s.WarmedH U.vm) (hw : w ∈ tTB) (h : va_Nw w s) (args : Array Value) : w.before args U = true := by
  have h1 := (List.mem_filter.mp hw).2
  rcases Bool.or_eq_true_iff.mp h1 with h2 | h2
  · exact word_at hW (good_of_word h2) h
  · cases w <;> first
      | exact va_Nw.use rfl (va_Nw.warmF hW h)
      | exact va_Nw.use rfl (va_Nw.warmM hW h)
      | exact absurd h2 (by decide)
      | (simp [tNest] at h2; done)
theorem tU.hts {E : tEn} {A : Nat → Prop} {s : State} (h : tU E A s) (args : Array Value) : ∀ w ∈ tTB, w.before args s = true := fun w hw => tWm (State.WarmedH.refl s) hw (h.2.1 w hw) args
theorem tU.call {E : tEn} {A A1 : Nat → Prop} {s U : State} {H : Heap} {locs : List Loc} (h : tU E A s) (hS : va_S A s.heap H locs) (hA : ∀ q, A1 q → A q) (hU : U.heap = H) (hW : s.WarmedH U.vm) : tU E A1 U := by
  obtain ⟨h1, h2, ⟨h3, h4⟩, h5, h6⟩ := h
  have hk : ∀ a : Nat, a < s.heap.size → ¬ A a → U.heap[a]? = s.heap[a]? := fun a ha hn => by rw [hU]; exact hS.2.1 a ha hn
  exact ⟨va_K.moved hW.alike h1, fun w hw => tWm hW hw (h2 w hw) #[], ⟨((h3.kept hk).moved hW.alike).narrow hA, ((h4.kept hk).moved hW.alike).narrow hA⟩, ((h5.kept hk).moved hW.alike).narrow hA, ((h6.kept hk).moved hW.alike).narrow hA⟩
/-- what holds all along a method's run -/
def tCx (E : tEn) (own : String) (cc : ByteArray) (nL : Nat) (ret : Option FieldType) (ini : Bool) (d : Nat) (p : Program) (R : Room) (s : State) (m : MethodId) (meth : Method) (c : Code) (A : Nat → Prop) : Prop :=
  p.tables.exec = Jvm.exec ∧ c.code = cc ∧ c.maxLocals = nL ∧ meth.sig.returnType = ret ∧ meth.locks = false ∧ (ini = true → meth.name = "<init>") ∧ s.vm.findClass own = some m.cls ∧ R.frames = d ∧ R.locals = 64 * d ∧ tU E A s ∧ ∀ q, s.heap.size ≤ q → A q
def tQ (E : tEn) (A : Nat → Prop) (ads0 : List Nat) (Q : Option Value → tHp → Prop) : Array Value → State → Outcome → State → Prop := fun _ st oc t =>
  (∃ (r : Option Value) (h' : tHp) (ads' : List Nat), oc = .returned (r.map (tv E ads')) ∧ Q r h' ∧ ads0 <+: ads' ∧ tR E ads' h' A t.heap) ∧ va_F A st t
def tLm (E : tEn) (ads : List Nat) (L : List (Nat × Value)) : List (Nat × Value) := L.map (fun q => (q.1, tv E ads q.2))
def tG (l : Launch) (E : tEn) (own : String) (cc : ByteArray) (nL : Nat) (ret : Option FieldType) (ini : Bool) (d : Nat) (Q : Option Value → tHp → Prop) (k n : Nat) (pc : Nat) (L : List (Nat × Value)) (st : List Value) (h : tHp) : Prop :=
  ∀ (p : Program) (e : Env) (R : Room) (s : State) (m : MethodId) (args : Array Value) (below : List Frame) (meth : Method) (c : Code) (A : Nat → Prop) (ads0 : List Nat), tCx E own cc nL ret ini d p R s m meth c A →
    ∀ (ads : List Nat) (H : Heap) (locs : List Loc) (cells slots : Nat) (ls : Array Slot), cells + k ≤ R.cells → slots + n ≤ R.slots → ads0 <+: ads → tR E ads h A H → va_S A s.heap H locs → lv_has ls nL (tLm E ads L) →
      W p l e R s m args below meth c H locs cells slots (MQ below (tQ E A ads0 Q) args s R.cells R.slots A) (F0 m pc ls (st.map (tv E ads)))
def tEv (l : Launch) (E : tEn) (y : MethodName) (cc : ByteArray) (maxL : Nat) (ret : Option FieldType) (d k n : Nat) (av : List Value) (h : tHp) (Q : Option Value → tHp → Prop) : Prop :=
  ∀ (ads : List Nat) (sz : Nat), Met l y [Cond.code y cc maxL ret] { frames := d, cells := k, slots := n, locals := 64 * d }
    (va_Pc (av.map (tv E ads)) (fun U => U.heap.size = sz ∧ tU E (va_A (tw E ads h) sz) U ∧ tR E ads h (fun _ => True) U.heap))
    (tQ E (va_A (tw E ads h) sz) ads Q) k n (va_A (tw E ads h) sz)
theorem tLm_at {E : tEn} {ads : List Nat} {ls : Array Slot} {nL : Nat} {L : List (Nat × Value)} (h : lv_has ls nL (tLm E ads L)) (j : Nat) {i : Nat} {v : Value} (hj : L[j]? = some (i, v)) : ls[i]? = some (.val (tv E ads v)) :=
  lv_at h j (by unfold tLm; rw [List.getElem?_map, hj]; rfl)
theorem lv_args_tv (E : tEn) (ads : List Nat) : ∀ (vs : List Value) (i : Nat), lv_args i (vs.map (tv E ads)) = tLm E ads (lv_args i vs)
  | [], _ => rfl
  | v :: vs, i => by
    show (i, tv E ads v) :: lv_args (if (tv E ads v).category = 2 then i + 2 else i + 1) (vs.map (tv E ads)) = (i, tv E ads v) :: tLm E ads (lv_args (if v.category = 2 then i + 2 else i + 1) vs)
    rw [tv_cat, lv_args_tv E ads vs]
theorem lg_sl_len (E : tEn) (ads : List Nat) : ∀ vs : List Value, (lg_sl (vs.map (tv E ads))).length = (lg_sl vs).length
  | [] => rfl
  | v :: vs => by
    have h := lg_sl_len E ads vs
    unfold lg_sl at h ⊢
    rw [List.map_cons, List.flatMap_cons, List.flatMap_cons, List.length_append, List.length_append, h, tv_cat]
    split <;> rfl
theorem tEv.of {l : Launch} {E : tEn} {y : MethodName} {cc : ByteArray} {maxL : Nat} {ret : Option FieldType} {ini : Bool} {d k n : Nat} {av : List Value} {h : tHp} {Q : Option Value → tHp → Prop} {L : List (Nat × Value)} {own : String}
    (hy : plainName y.cls = true) (ho : y.cls = own) (hi : ini = true → y.name = "<init>") (hL : lv_args 0 av = L) (hn : (lg_sl av).length ≤ maxL) (hG : tG l E own cc maxL ret ini d Q k n 0 L [] h) : tEv l E y cc maxL ret d k n av h Q := by
  intro ads sz
  refine Met.ofW (cc := cc) (maxL := maxL) (ret := ret) hy rfl ?_
  intro p e s m args below meth c s₁ B hml hv
  obtain ⟨rfl, hsz, hU, hR⟩ := hv
  subst hsz; subst ho; subst hL
  have hl := lv_entry (av.map (tv E ads)) (n := maxL) (by rw [lg_sl_len]; exact hn)
  rw [lg_entry_eq]
  rw [lv_args_tv] at hl
  refine hG p e _ s m _ below meth c (va_A (tw E ads h) s.heap.size) ads ⟨B.exec, B.bytes, hml, B.returns, B.notSynchronized, fun h9 => ?_, findClass_of_methodNamed B.named, rfl, rfl, hU, fun q hq => Or.inr hq⟩ ads s.heap [] 0 0 _ (by show 0 + k ≤ k; omega) (by show 0 + n ≤ n; omega) (List.prefix_refl ads) ⟨hR.1, hR.2.1, hR.2.2.self⟩ va_S.rf hl
  have := (name_of_methodNamed B.named B.method).1
  rw [this]
  exact hi h9
end
section
section TRULES
variable {l : Launch} {E : tEn} {own : String} {cc : ByteArray} {nL : Nat} {ret : Option FieldType} {ini : Bool} {d : Nat} {Q : Option Value → tHp → Prop} {k n : Nat} {pc : Nat} {L : List (Nat × Value)} {st : List Value} {h : tHp}
theorem g_iadd {x y : Int32} {q : Nat} (hd : decode cc pc = .ok (.iadd, 1)) (hq : pc + 1 = q)  (kk : tG l E own cc nL ret ini d Q k n q L (.int (x + y) :: st) h) : tG l E own cc nL ret ini d Q k n pc L (.int y :: .int x :: st) h := by
  subst hq
  exact fun p e R s m args below meth c A ads0 X ads H locs cells slots ls h1 h2 h3 h4 h5 h6 => lv_iadd X.1 X.2.1 hd  (kk p e R s m args below meth c A ads0 X ads H locs cells slots ls h1 h2 h3 h4 h5 h6)
theorem g_isub {x y : Int32} {q : Nat} (hd : decode cc pc = .ok (.isub, 1)) (hq : pc + 1 = q)  (kk : tG l E own cc nL ret ini d Q k n q L (.int (x - y) :: st) h) : tG l E own cc nL ret ini d Q k n pc L (.int y :: .int x :: st) h := by
  subst hq
  exact fun p e R s m args below meth c A ads0 X ads H locs cells slots ls h1 h2 h3 h4 h5 h6 => lv_isub X.1 X.2.1 hd  (kk p e R s m args below meth c A ads0 X ads H locs cells slots ls h1 h2 h3 h4 h5 h6)
theorem g_imul {x y : Int32} {q : Nat} (hd : decode cc pc = .ok (.imul, 1)) (hq : pc + 1 = q)  (kk : tG l E own cc nL ret ini d Q k n q L (.int (x * y) :: st) h) : tG l E own cc nL ret ini d Q k n pc L (.int y :: .int x :: st) h := by
  subst hq
  exact fun p e R s m args below meth c A ads0 X ads H locs cells slots ls h1 h2 h3 h4 h5 h6 => lv_imul X.1 X.2.1 hd  (kk p e R s m args below meth c A ads0 X ads H locs cells slots ls h1 h2 h3 h4 h5 h6)
theorem g_iand {x y : Int32} {q : Nat} (hd : decode cc pc = .ok (.iand, 1)) (hq : pc + 1 = q)  (kk : tG l E own cc nL ret ini d Q k n q L (.int (x &&& y) :: st) h) : tG l E own cc nL ret ini d Q k n pc L (.int y :: .int x :: st) h := by
  subst hq
  exact fun p e R s m args below meth c A ads0 X ads H locs cells slots ls h1 h2 h3 h4 h5 h6 => lv_iand X.1 X.2.1 hd  (kk p e R s m args below meth c A ads0 X ads H locs cells slots ls h1 h2 h3 h4 h5 h6)
theorem g_ior {x y : Int32} {q : Nat} (hd : decode cc pc = .ok (.ior, 1)) (hq : pc + 1 = q)  (kk : tG l E own cc nL ret ini d Q k n q L (.int (x ||| y) :: st) h) : tG l E own cc nL ret ini d Q k n pc L (.int y :: .int x :: st) h := by
  subst hq
  exact fun p e R s m args below meth c A ads0 X ads H locs cells slots ls h1 h2 h3 h4 h5 h6 => lv_ior X.1 X.2.1 hd  (kk p e R s m args below meth c A ads0 X ads H locs cells slots ls h1 h2 h3 h4 h5 h6)
theorem g_ixor {x y : Int32} {q : Nat} (hd : decode cc pc = .ok (.ixor, 1)) (hq : pc + 1 = q)  (kk : tG l E own cc nL ret ini d Q k n q L (.int (x ^^^ y) :: st) h) : tG l E own cc nL ret ini d Q k n pc L (.int y :: .int x :: st) h := by
  subst hq
  exact fun p e R s m args below meth c A ads0 X ads H locs cells slots ls h1 h2 h3 h4 h5 h6 => lv_ixor X.1 X.2.1 hd  (kk p e R s m args below meth c A ads0 X ads H locs cells slots ls h1 h2 h3 h4 h5 h6)
theorem g_ishl {x y : Int32} {q : Nat} (hd : decode cc pc = .ok (.ishl, 1)) (hq : pc + 1 = q)  (kk : tG l E own cc nL ret ini d Q k n q L (.int (x <<< (y &&& 31)) :: st) h) : tG l E own cc nL ret ini d Q k n pc L (.int y :: .int x :: st) h := by
  subst hq
  exact fun p e R s m args below meth c A ads0 X ads H locs cells slots ls h1 h2 h3 h4 h5 h6 => lv_ishl X.1 X.2.1 hd  (kk p e R s m args below meth c A ads0 X ads H locs cells slots ls h1 h2 h3 h4 h5 h6)
theorem g_ishr {x y : Int32} {q : Nat} (hd : decode cc pc = .ok (.ishr, 1)) (hq : pc + 1 = q)  (kk : tG l E own cc nL ret ini d Q k n q L (.int (x >>> (y &&& 31)) :: st) h) : tG l E own cc nL ret ini d Q k n pc L (.int y :: .int x :: st) h := by
  subst hq
  exact fun p e R s m args below meth c A ads0 X ads H locs cells slots ls h1 h2 h3 h4 h5 h6 => lv_ishr X.1 X.2.1 hd  (kk p e R s m args below meth c A ads0 X ads H locs cells slots ls h1 h2 h3 h4 h5 h6)
theorem g_idiv {x y : Int32} {q : Nat} (hd : decode cc pc = .ok (.idiv, 1)) (hq : pc + 1 = q) (hne : ¬ y = 0) (kk : tG l E own cc nL ret ini d Q k n q L (.int (x / y) :: st) h) : tG l E own cc nL ret ini d Q k n pc L (.int y :: .int x :: st) h := by
  subst hq
  exact fun p e R s m args below meth c A ads0 X ads H locs cells slots ls h1 h2 h3 h4 h5 h6 => lv_idiv X.1 X.2.1 hd hne (kk p e R s m args below meth c A ads0 X ads H locs cells slots ls h1 h2 h3 h4 h5 h6)
theorem g_irem {x y : Int32} {q : Nat} (hd : decode cc pc = .ok (.irem, 1)) (hq : pc + 1 = q) (hne : ¬ y = 0) (kk : tG l E own cc nL ret ini d Q k n q L (.int (x - x / y * y) :: st) h) : tG l E own cc nL ret ini d Q k n pc L (.int y :: .int x :: st) h := by
  subst hq
  exact fun p e R s m args below meth c A ads0 X ads H locs cells slots ls h1 h2 h3 h4 h5 h6 => lv_irem X.1 X.2.1 hd hne (kk p e R s m args below meth c A ads0 X ads H locs cells slots ls h1 h2 h3 h4 h5 h6)
theorem g_ineg {x : Int32} {q : Nat} (hd : decode cc pc = .ok (.ineg, 1)) (hq : pc + 1 = q)  (kk : tG l E own cc nL ret ini d Q k n q L (.int (-x) :: st) h) : tG l E own cc nL ret ini d Q k n pc L (.int x :: st) h := by
  subst hq
  exact fun p e R s m args below meth c A ads0 X ads H locs cells slots ls h1 h2 h3 h4 h5 h6 => lv_ineg X.1 X.2.1 hd  (kk p e R s m args below meth c A ads0 X ads H locs cells slots ls h1 h2 h3 h4 h5 h6)
theorem g_ladd {x y : Int64} {q : Nat} (hd : decode cc pc = .ok (.ladd, 1)) (hq : pc + 1 = q)  (kk : tG l E own cc nL ret ini d Q k n q L (.long (x + y) :: st) h) : tG l E own cc nL ret ini d Q k n pc L (.long y :: .long x :: st) h := by
  subst hq
  exact fun p e R s m args below meth c A ads0 X ads H locs cells slots ls h1 h2 h3 h4 h5 h6 => lv_ladd X.1 X.2.1 hd  (kk p e R s m args below meth c A ads0 X ads H locs cells slots ls h1 h2 h3 h4 h5 h6)
theorem g_lsub {x y : Int64} {q : Nat} (hd : decode cc pc = .ok (.lsub, 1)) (hq : pc + 1 = q)  (kk : tG l E own cc nL ret ini d Q k n q L (.long (x - y) :: st) h) : tG l E own cc nL ret ini d Q k n pc L (.long y :: .long x :: st) h := by
  subst hq
  exact fun p e R s m args below meth c A ads0 X ads H locs cells slots ls h1 h2 h3 h4 h5 h6 => lv_lsub X.1 X.2.1 hd  (kk p e R s m args below meth c A ads0 X ads H locs cells slots ls h1 h2 h3 h4 h5 h6)
theorem g_land {x y : Int64} {q : Nat} (hd : decode cc pc = .ok (.land, 1)) (hq : pc + 1 = q)  (kk : tG l E own cc nL ret ini d Q k n q L (.long (x &&& y) :: st) h) : tG l E own cc nL ret ini d Q k n pc L (.long y :: .long x :: st) h := by
  subst hq
  exact fun p e R s m args below meth c A ads0 X ads H locs cells slots ls h1 h2 h3 h4 h5 h6 => lv_land X.1 X.2.1 hd  (kk p e R s m args below meth c A ads0 X ads H locs cells slots ls h1 h2 h3 h4 h5 h6)
theorem g_lor {x y : Int64} {q : Nat} (hd : decode cc pc = .ok (.lor, 1)) (hq : pc + 1 = q)  (kk : tG l E own cc nL ret ini d Q k n q L (.long (x ||| y) :: st) h) : tG l E own cc nL ret ini d Q k n pc L (.long y :: .long x :: st) h := by
  subst hq
  exact fun p e R s m args below meth c A ads0 X ads H locs cells slots ls h1 h2 h3 h4 h5 h6 => lv_lor X.1 X.2.1 hd  (kk p e R s m args below meth c A ads0 X ads H locs cells slots ls h1 h2 h3 h4 h5 h6)
theorem g_lxor {x y : Int64} {q : Nat} (hd : decode cc pc = .ok (.lxor, 1)) (hq : pc + 1 = q)  (kk : tG l E own cc nL ret ini d Q k n q L (.long (x ^^^ y) :: st) h) : tG l E own cc nL ret ini d Q k n pc L (.long y :: .long x :: st) h := by
  subst hq
  exact fun p e R s m args below meth c A ads0 X ads H locs cells slots ls h1 h2 h3 h4 h5 h6 => lv_lxor X.1 X.2.1 hd  (kk p e R s m args below meth c A ads0 X ads H locs cells slots ls h1 h2 h3 h4 h5 h6)
def tiushr (x y : Int32) : Int32 := (x.toUInt32 >>> (y.toUInt32 &&& Int32.toUInt32 31)).toInt32
def tlushr (x : Int64) (y : Int32) : Int64 := (x.toUInt64 >>> (y.toInt64.toUInt64 &&& Int64.toUInt64 63)).toInt64
def tlshl (x : Int64) (y : Int32) : Int64 := x <<< (y.toInt64 &&& 63)
def tlshr (x : Int64) (y : Int32) : Int64 := x >>> (y.toInt64 &&& 63)
theorem g_iushr {x y : Int32} {q : Nat} (hd : decode cc pc = .ok (.iushr, 1)) (hq : pc + 1 = q)  (kk : tG l E own cc nL ret ini d Q k n q L (.int (tiushr x y) :: st) h) : tG l E own cc nL ret ini d Q k n pc L (.int y :: .int x :: st) h := by
  subst hq
  exact fun p e R s m args below meth c A ads0 X ads H locs cells slots ls h1 h2 h3 h4 h5 h6 => lv_iushr X.1 X.2.1 hd rfl (kk p e R s m args below meth c A ads0 X ads H locs cells slots ls h1 h2 h3 h4 h5 h6)
theorem g_lushr {x : Int64} {y : Int32} {q : Nat} (hd : decode cc pc = .ok (.lushr, 1)) (hq : pc + 1 = q)  (kk : tG l E own cc nL ret ini d Q k n q L (.long (tlushr x y) :: st) h) : tG l E own cc nL ret ini d Q k n pc L (.int y :: .long x :: st) h := by
  subst hq
  exact fun p e R s m args below meth c A ads0 X ads H locs cells slots ls h1 h2 h3 h4 h5 h6 => lv_lushr X.1 X.2.1 hd rfl (kk p e R s m args below meth c A ads0 X ads H locs cells slots ls h1 h2 h3 h4 h5 h6)
theorem g_lshl {x : Int64} {y : Int32} {q : Nat} (hd : decode cc pc = .ok (.lshl, 1)) (hq : pc + 1 = q)  (kk : tG l E own cc nL ret ini d Q k n q L (.long (tlshl x y) :: st) h) : tG l E own cc nL ret ini d Q k n pc L (.int y :: .long x :: st) h := by
  subst hq
  exact fun p e R s m args below meth c A ads0 X ads H locs cells slots ls h1 h2 h3 h4 h5 h6 => lv_lshl X.1 X.2.1 hd rfl (kk p e R s m args below meth c A ads0 X ads H locs cells slots ls h1 h2 h3 h4 h5 h6)
theorem g_lshr {x : Int64} {y : Int32} {q : Nat} (hd : decode cc pc = .ok (.lshr, 1)) (hq : pc + 1 = q)  (kk : tG l E own cc nL ret ini d Q k n q L (.long (tlshr x y) :: st) h) : tG l E own cc nL ret ini d Q k n pc L (.int y :: .long x :: st) h := by
  subst hq
  exact fun p e R s m args below meth c A ads0 X ads H locs cells slots ls h1 h2 h3 h4 h5 h6 => lv_lshr X.1 X.2.1 hd rfl (kk p e R s m args below meth c A ads0 X ads H locs cells slots ls h1 h2 h3 h4 h5 h6)
theorem g_i2l {x : Int32} {q : Nat} (hd : decode cc pc = .ok (.i2l, 1)) (hq : pc + 1 = q)  (kk : tG l E own cc nL ret ini d Q k n q L (.long x.toInt64 :: st) h) : tG l E own cc nL ret ini d Q k n pc L (.int x :: st) h := by
  subst hq
  exact fun p e R s m args below meth c A ads0 X ads H locs cells slots ls h1 h2 h3 h4 h5 h6 => lv_i2l X.1 X.2.1 hd rfl (kk p e R s m args below meth c A ads0 X ads H locs cells slots ls h1 h2 h3 h4 h5 h6)
theorem g_l2i {x : Int64} {q : Nat} (hd : decode cc pc = .ok (.l2i, 1)) (hq : pc + 1 = q)  (kk : tG l E own cc nL ret ini d Q k n q L (.int x.toInt32 :: st) h) : tG l E own cc nL ret ini d Q k n pc L (.long x :: st) h := by
  subst hq
  exact fun p e R s m args below meth c A ads0 X ads H locs cells slots ls h1 h2 h3 h4 h5 h6 => lv_l2i X.1 X.2.1 hd rfl (kk p e R s m args below meth c A ads0 X ads H locs cells slots ls h1 h2 h3 h4 h5 h6)
theorem g_lcmp {x y : Int64} {q : Nat} (hd : decode cc pc = .ok (.lcmp, 1)) (hq : pc + 1 = q)  (kk : tG l E own cc nL ret ini d Q k n q L (.int (lg_cmp x y) :: st) h) : tG l E own cc nL ret ini d Q k n pc L (.long y :: .long x :: st) h := by
  subst hq
  exact fun p e R s m args below meth c A ads0 X ads H locs cells slots ls h1 h2 h3 h4 h5 h6 => W.lcmp X.1 X.2.1 hd  (kk p e R s m args below meth c A ads0 X ads H locs cells slots ls h1 h2 h3 h4 h5 h6)
theorem g_iconst {z : Int} {v : Int32} {q : Nat} (hd : decode cc pc = .ok (.iconst z, 1)) (hq : pc + 1 = q) (hv : Int32.ofInt z = v) (kk : tG l E own cc nL ret ini d Q k n q L (.int v :: st) h) : tG l E own cc nL ret ini d Q k n pc L (st) h := by
  subst hq
  exact fun p e R s m args below meth c A ads0 X ads H locs cells slots ls h1 h2 h3 h4 h5 h6 => lv_iconst X.1 X.2.1 hd hv (kk p e R s m args below meth c A ads0 X ads H locs cells slots ls h1 h2 h3 h4 h5 h6)
theorem g_bipush {z : Int} {v : Int32} {q : Nat} (hd : decode cc pc = .ok (.bipush z, 2)) (hq : pc + 2 = q) (hv : (Int8.ofInt z).toInt32 = v) (kk : tG l E own cc nL ret ini d Q k n q L (.int v :: st) h) : tG l E own cc nL ret ini d Q k n pc L (st) h := by
  subst hq
  exact fun p e R s m args below meth c A ads0 X ads H locs cells slots ls h1 h2 h3 h4 h5 h6 => lv_bipush X.1 X.2.1 hd hv (kk p e R s m args below meth c A ads0 X ads H locs cells slots ls h1 h2 h3 h4 h5 h6)
theorem g_sipush {z : Int} {v : Int32} {q : Nat} (hd : decode cc pc = .ok (.sipush z, 3)) (hq : pc + 3 = q) (hv : (Int16.ofInt z).toInt32 = v) (kk : tG l E own cc nL ret ini d Q k n q L (.int v :: st) h) : tG l E own cc nL ret ini d Q k n pc L (st) h := by
  subst hq
  exact fun p e R s m args below meth c A ads0 X ads H locs cells slots ls h1 h2 h3 h4 h5 h6 => lv_sipush X.1 X.2.1 hd hv (kk p e R s m args below meth c A ads0 X ads H locs cells slots ls h1 h2 h3 h4 h5 h6)
theorem g_lconst {z : Fin 2} {v : Int64} {q : Nat} (hd : decode cc pc = .ok (.lconst z, 1)) (hq : pc + 1 = q) (hv : Int64.ofNat (z : Nat) = v) (kk : tG l E own cc nL ret ini d Q k n q L (.long v :: st) h) : tG l E own cc nL ret ini d Q k n pc L (st) h := by
  subst hq
  exact fun p e R s m args below meth c A ads0 X ads H locs cells slots ls h1 h2 h3 h4 h5 h6 => lv_lconst X.1 X.2.1 hd hv (kk p e R s m args below meth c A ads0 X ads H locs cells slots ls h1 h2 h3 h4 h5 h6)
theorem g_aconst_null  {q : Nat} (hd : decode cc pc = .ok (.aconst_null, 1)) (hq : pc + 1 = q)  (kk : tG l E own cc nL ret ini d Q k n q L (.null :: st) h) : tG l E own cc nL ret ini d Q k n pc L (st) h := by
  subst hq
  exact fun p e R s m args below meth c A ads0 X ads H locs cells slots ls h1 h2 h3 h4 h5 h6 => lv_null X.1 X.2.1 hd  (kk p e R s m args below meth c A ads0 X ads H locs cells slots ls h1 h2 h3 h4 h5 h6)
theorem g_dup {v : Value} {q : Nat} (hd : decode cc pc = .ok (.dup, 1)) (hq : pc + 1 = q) (hv : v.category = 1) (kk : tG l E own cc nL ret ini d Q k n q L (v :: v :: st) h) : tG l E own cc nL ret ini d Q k n pc L (v :: st) h := by
  subst hq
  exact fun p e R s m args below meth c A ads0 X ads H locs cells slots ls h1 h2 h3 h4 h5 h6 => lv_dup X.1 X.2.1 hd (by rw [tv_cat]; exact hv) (kk p e R s m args below meth c A ads0 X ads H locs cells slots ls h1 h2 h3 h4 h5 h6)
theorem g_pop {v : Value} {q : Nat} (hd : decode cc pc = .ok (.pop, 1)) (hq : pc + 1 = q) (hv : v.category = 1) (kk : tG l E own cc nL ret ini d Q k n q L (st) h) : tG l E own cc nL ret ini d Q k n pc L (v :: st) h := by
  subst hq
  exact fun p e R s m args below meth c A ads0 X ads H locs cells slots ls h1 h2 h3 h4 h5 h6 => lv_pop X.1 X.2.1 hd (by rw [tv_cat]; exact hv) (kk p e R s m args below meth c A ads0 X ads H locs cells slots ls h1 h2 h3 h4 h5 h6)
theorem g_dup2 {v w : Value} {q : Nat} (hd : decode cc pc = .ok (.dup2, 1)) (hq : pc + 1 = q) (hv : v.category = 1) (hw : w.category = 1) (kk : tG l E own cc nL ret ini d Q k n q L (v :: w :: v :: w :: st) h) : tG l E own cc nL ret ini d Q k n pc L (v :: w :: st) h := by
  subst hq
  exact fun p e R s m args below meth c A ads0 X ads H locs cells slots ls h1 h2 h3 h4 h5 h6 => lv_dup2_11 X.1 X.2.1 hd (by rw [tv_cat]; exact hv) (by rw [tv_cat]; exact hw) (kk p e R s m args below meth c A ads0 X ads H locs cells slots ls h1 h2 h3 h4 h5 h6)
theorem g_iload_n (j : Nat) {kf : Fin 4} {x : Int32} {q : Nat} (hd : decode cc pc = .ok (.iload_n kf, 1)) (hq : pc + 1 = q) (hl : L[j]? = some (kf.val, .int x)) (kk : tG l E own cc nL ret ini d Q k n q L (.int x :: st) h) : tG l E own cc nL ret ini d Q k n pc L (st) h := by
  subst hq
  exact fun p e R s m args below meth c A ads0 X ads H locs cells slots ls h1 h2 h3 h4 h5 h6 => lv_iload_n X.1 X.2.1 hd rfl (tLm_at h6 j hl) (kk p e R s m args below meth c A ads0 X ads H locs cells slots ls h1 h2 h3 h4 h5 h6)
theorem g_iload (j : Nat) {i : Nat} {x : Int32} {q : Nat} (hd : decode cc pc = .ok (.iload i, 2)) (hq : pc + 2 = q) (hl : L[j]? = some (i, .int x)) (kk : tG l E own cc nL ret ini d Q k n q L (.int x :: st) h) : tG l E own cc nL ret ini d Q k n pc L (st) h := by
  subst hq
  exact fun p e R s m args below meth c A ads0 X ads H locs cells slots ls h1 h2 h3 h4 h5 h6 => lv_iload X.1 X.2.1 hd (tLm_at h6 j hl) (kk p e R s m args below meth c A ads0 X ads H locs cells slots ls h1 h2 h3 h4 h5 h6)
theorem g_lload_n (j : Nat) {kf : Fin 4} {x : Int64} {q : Nat} (hd : decode cc pc = .ok (.lload_n kf, 1)) (hq : pc + 1 = q) (hl : L[j]? = some (kf.val, .long x)) (kk : tG l E own cc nL ret ini d Q k n q L (.long x :: st) h) : tG l E own cc nL ret ini d Q k n pc L (st) h := by
  subst hq
  exact fun p e R s m args below meth c A ads0 X ads H locs cells slots ls h1 h2 h3 h4 h5 h6 => lv_lload_n X.1 X.2.1 hd rfl (tLm_at h6 j hl) (kk p e R s m args below meth c A ads0 X ads H locs cells slots ls h1 h2 h3 h4 h5 h6)
theorem g_lload (j : Nat) {i : Nat} {x : Int64} {q : Nat} (hd : decode cc pc = .ok (.lload i, 2)) (hq : pc + 2 = q) (hl : L[j]? = some (i, .long x)) (kk : tG l E own cc nL ret ini d Q k n q L (.long x :: st) h) : tG l E own cc nL ret ini d Q k n pc L (st) h := by
  subst hq
  exact fun p e R s m args below meth c A ads0 X ads H locs cells slots ls h1 h2 h3 h4 h5 h6 => lv_lload X.1 X.2.1 hd (tLm_at h6 j hl) (kk p e R s m args below meth c A ads0 X ads H locs cells slots ls h1 h2 h3 h4 h5 h6)
theorem g_aload_n (j : Nat) {kf : Fin 4} {x : Nat} {q : Nat} (hd : decode cc pc = .ok (.aload_n kf, 1)) (hq : pc + 1 = q) (hl : L[j]? = some (kf.val, .ref x)) (kk : tG l E own cc nL ret ini d Q k n q L (.ref x :: st) h) : tG l E own cc nL ret ini d Q k n pc L (st) h := by
  subst hq
  exact fun p e R s m args below meth c A ads0 X ads H locs cells slots ls h1 h2 h3 h4 h5 h6 => lv_aload_n X.1 X.2.1 hd rfl (tLm_at h6 j hl) (kk p e R s m args below meth c A ads0 X ads H locs cells slots ls h1 h2 h3 h4 h5 h6)
theorem g_aload (j : Nat) {i : Nat} {x : Nat} {q : Nat} (hd : decode cc pc = .ok (.aload i, 2)) (hq : pc + 2 = q) (hl : L[j]? = some (i, .ref x)) (kk : tG l E own cc nL ret ini d Q k n q L (.ref x :: st) h) : tG l E own cc nL ret ini d Q k n pc L (st) h := by
  subst hq
  exact fun p e R s m args below meth c A ads0 X ads H locs cells slots ls h1 h2 h3 h4 h5 h6 => lv_aload X.1 X.2.1 hd (tLm_at h6 j hl) (kk p e R s m args below meth c A ads0 X ads H locs cells slots ls h1 h2 h3 h4 h5 h6)
def tins (i : Nat) (v : Value) : List (Nat × Value) → List (Nat × Value)
  | [] => [(i, v)]
  | q :: L => bif Nat.blt i q.1 then (i, v) :: q :: L else q :: tins i v L
theorem tins_mem {i : Nat} {v : Value} : ∀ {L : List (Nat × Value)} {q : Nat × Value}, q ∈ tins i v L → q = (i, v) ∨ q ∈ L
  | [], q, h => Or.inl (List.mem_singleton.mp h)
  | r :: L, q, h => by
    unfold tins at h
    cases hb : Nat.blt i r.1 with
    | true => rw [hb] at h; exact (List.mem_cons.mp h).imp id id
    | false =>
      rw [hb] at h
      rcases List.mem_cons.mp h with h | h
      · exact Or.inr (h ▸ List.mem_cons_self)
      · exact (tins_mem h).imp id (List.mem_cons_of_mem _)
def tls (i : Nat) (v : Value) (L : List (Nat × Value)) : List (Nat × Value) := tins i v (L.filter (fun q => !(q.1 == i) && !(q.1 + 1 == i && q.2.category == 2)))
def tls2 (i : Nat) (v : Value) (L : List (Nat × Value)) : List (Nat × Value) := tins i v (L.filter (fun q => !(q.1 == i) && (!(q.1 == i + 1) && !(q.1 + 1 == i && q.2.category == 2))))
theorem tls_has {ads : List Nat} {ls : Array Slot} {i : Nat} {v : Value} (h : lv_has ls nL ((i, tv E ads v) :: (tLm E ads L).filter (fun q => !(q.1 == i) && !(q.1 + 1 == i && q.2.category == 2)))) : lv_has ls nL (tLm E ads (tls i v L)) := by
  refine ⟨h.1, h.2.1, fun q hq => h.2.2 q ?_⟩
  obtain ⟨r, hr, rfl⟩ := List.mem_map.mp hq
  rcases tins_mem hr with rfl | hr
  · exact List.mem_cons_self
  · obtain ⟨h1, h2⟩ := List.mem_filter.mp hr
    exact List.mem_cons_of_mem _ (List.mem_filter.mpr ⟨List.mem_map.mpr ⟨r, h1, rfl⟩, by rw [tv_cat]; exact h2⟩)
theorem tls2_has {ads : List Nat} {ls : Array Slot} {i : Nat} {v : Value} (h : lv_has ls nL ((i, tv E ads v) :: (tLm E ads L).filter (fun q => !(q.1 == i) && (!(q.1 == i + 1) && !(q.1 + 1 == i && q.2.category == 2))))) : lv_has ls nL (tLm E ads (tls2 i v L)) := by
  refine ⟨h.1, h.2.1, fun q hq => h.2.2 q ?_⟩
  obtain ⟨r, hr, rfl⟩ := List.mem_map.mp hq
  rcases tins_mem hr with rfl | hr
  · exact List.mem_cons_self
  · obtain ⟨h1, h2⟩ := List.mem_filter.mp hr
    exact List.mem_cons_of_mem _ (List.mem_filter.mpr ⟨List.mem_map.mpr ⟨r, h1, rfl⟩, by rw [tv_cat]; exact h2⟩)
theorem g_istore_n {kf : Fin 4} {x : Int32} {q : Nat} {L' : List (Nat × Value)} (hd : decode cc pc = .ok (.istore_n kf, 1)) (hq : pc + 1 = q) (hi : kf.val < nL) (hL : tls kf.val (.int x) L = L') (kk : tG l E own cc nL ret ini d Q k n q L' (st) h) : tG l E own cc nL ret ini d Q k n pc L (.int x :: st) h := by
  subst hq; subst hL
  exact fun p e R s m args below meth c A ads0 X ads H locs cells slots ls h1 h2 h3 h4 h5 h6 => lv_istore_n X.1 X.2.1 hd rfl h6 hi rfl (fun ls9 h9 => kk p e R s m args below meth c A ads0 X ads H locs cells slots ls9 h1 h2 h3 h4 h5 (tls_has h9))
theorem g_istore {i : Nat} {x : Int32} {q : Nat} {L' : List (Nat × Value)} (hd : decode cc pc = .ok (.istore i, 2)) (hq : pc + 2 = q) (hi : i < nL) (hL : tls i (.int x) L = L') (kk : tG l E own cc nL ret ini d Q k n q L' (st) h) : tG l E own cc nL ret ini d Q k n pc L (.int x :: st) h := by
  subst hq; subst hL
  exact fun p e R s m args below meth c A ads0 X ads H locs cells slots ls h1 h2 h3 h4 h5 h6 => lv_istore X.1 X.2.1 hd h6 hi rfl (fun ls9 h9 => kk p e R s m args below meth c A ads0 X ads H locs cells slots ls9 h1 h2 h3 h4 h5 (tls_has h9))
theorem g_lstore_n {kf : Fin 4} {x : Int64} {q : Nat} {L' : List (Nat × Value)} (hd : decode cc pc = .ok (.lstore_n kf, 1)) (hq : pc + 1 = q) (hi : kf.val + 1 < nL) (hL : tls2 kf.val (.long x) L = L') (kk : tG l E own cc nL ret ini d Q k n q L' (st) h) : tG l E own cc nL ret ini d Q k n pc L (.long x :: st) h := by
  subst hq; subst hL
  exact fun p e R s m args below meth c A ads0 X ads H locs cells slots ls h1 h2 h3 h4 h5 h6 => lv_lstore_n X.1 X.2.1 hd rfl h6 hi rfl (fun ls9 h9 => kk p e R s m args below meth c A ads0 X ads H locs cells slots ls9 h1 h2 h3 h4 h5 (tls2_has h9))
theorem g_lstore {i : Nat} {x : Int64} {q : Nat} {L' : List (Nat × Value)} (hd : decode cc pc = .ok (.lstore i, 2)) (hq : pc + 2 = q) (hi : i + 1 < nL) (hL : tls2 i (.long x) L = L') (kk : tG l E own cc nL ret ini d Q k n q L' (st) h) : tG l E own cc nL ret ini d Q k n pc L (.long x :: st) h := by
  subst hq; subst hL
  exact fun p e R s m args below meth c A ads0 X ads H locs cells slots ls h1 h2 h3 h4 h5 h6 => lv_lstore X.1 X.2.1 hd h6 hi rfl (fun ls9 h9 => kk p e R s m args below meth c A ads0 X ads H locs cells slots ls9 h1 h2 h3 h4 h5 (tls2_has h9))
theorem g_astore_n {kf : Fin 4} {x : Nat} {q : Nat} {L' : List (Nat × Value)} (hd : decode cc pc = .ok (.astore_n kf, 1)) (hq : pc + 1 = q) (hi : kf.val < nL) (hL : tls kf.val (.ref x) L = L') (kk : tG l E own cc nL ret ini d Q k n q L' (st) h) : tG l E own cc nL ret ini d Q k n pc L (.ref x :: st) h := by
  subst hq; subst hL
  exact fun p e R s m args below meth c A ads0 X ads H locs cells slots ls h1 h2 h3 h4 h5 h6 => lv_astore_n X.1 X.2.1 hd rfl h6 hi rfl (fun ls9 h9 => kk p e R s m args below meth c A ads0 X ads H locs cells slots ls9 h1 h2 h3 h4 h5 (tls_has h9))
theorem g_astore {i : Nat} {x : Nat} {q : Nat} {L' : List (Nat × Value)} (hd : decode cc pc = .ok (.astore i, 2)) (hq : pc + 2 = q) (hi : i < nL) (hL : tls i (.ref x) L = L') (kk : tG l E own cc nL ret ini d Q k n q L' (st) h) : tG l E own cc nL ret ini d Q k n pc L (.ref x :: st) h := by
  subst hq; subst hL
  exact fun p e R s m args below meth c A ads0 X ads H locs cells slots ls h1 h2 h3 h4 h5 h6 => lv_astore X.1 X.2.1 hd h6 hi rfl (fun ls9 h9 => kk p e R s m args below meth c A ads0 X ads H locs cells slots ls9 h1 h2 h3 h4 h5 (tls_has h9))
theorem g_iinc (j : Nat) {i : Nat} {z : Int} {x v : Int32} {q : Nat} {L' : List (Nat × Value)} (hd : decode cc pc = .ok (.iinc i z, 3)) (hq : pc + 3 = q) (hl : L[j]? = some (i, .int x)) (hv : x + Int32.ofInt z = v) (hi : i < nL) (hL : tls i (.int v) L = L') (kk : tG l E own cc nL ret ini d Q k n q L' (st) h) : tG l E own cc nL ret ini d Q k n pc L (st) h := by
  subst hq; subst hL
  exact fun p e R s m args below meth c A ads0 X ads H locs cells slots ls h1 h2 h3 h4 h5 h6 => lv_iinc (k := j) X.1 X.2.1 hd h6 (by unfold tLm; rw [List.getElem?_map, hl]; rfl) hv hi rfl (fun ls9 h9 => kk p e R s m args below meth c A ads0 X ads H locs cells slots ls9 h1 h2 h3 h4 h5 (tls_has h9))
theorem g_ls (is : List Nat) {L' : List (Nat × Value)} (hL : is.filterMap (fun i => L[i]?) = L') (kk : tG l E own cc nL ret ini d Q k n pc L' (st) h) : tG l E own cc nL ret ini d Q k n pc L (st) h := by
  subst hL
  exact fun p e R s m args below meth c A ads0 X ads H locs cells slots ls h1 h2 h3 h4 h5 h6 => kk p e R s m args below meth c A ads0 X ads H locs cells slots ls h1 h2 h3 h4 h5 ⟨h6.1, h6.2.1, fun q hq => by
    obtain ⟨r, hr, rfl⟩ := List.mem_map.mp hq
    obtain ⟨i, -, hi⟩ := List.mem_filterMap.mp hr
    exact h6.2.2 _ (List.mem_map.mpr ⟨r, List.mem_of_getElem? hi, rfl⟩)⟩
theorem g_if_eq {x : Int32} {off : Int} {t q : Nat} (hd : decode cc pc = .ok (.ifCond .eq off, 3)) (ht : (pc : Int) + off = (t : Int)) (hq : pc + 3 = q) (kt : x = 0 → tG l E own cc nL ret ini d Q k n t L (st) h) (kf : ¬ x = 0 → tG l E own cc nL ret ini d Q k n q L (st) h) : tG l E own cc nL ret ini d Q k n pc L (.int x :: st) h := by
  subst hq
  exact fun p e R s m args below meth c A ads0 X ads H locs cells slots ls h1 h2 h3 h4 h5 h6 => lv_if_eq X.1 X.2.1 hd ht (fun z => kt z p e R s m args below meth c A ads0 X ads H locs cells slots ls h1 h2 h3 h4 h5 h6) (fun z => kf z p e R s m args below meth c A ads0 X ads H locs cells slots ls h1 h2 h3 h4 h5 h6)
theorem g_icmp_eq {x y : Int32} {off : Int} {t q : Nat} (hd : decode cc pc = .ok (.if_icmp .eq off, 3)) (ht : (pc : Int) + off = (t : Int)) (hq : pc + 3 = q) (kt : x = y → tG l E own cc nL ret ini d Q k n t L (st) h) (kf : ¬ x = y → tG l E own cc nL ret ini d Q k n q L (st) h) : tG l E own cc nL ret ini d Q k n pc L (.int y :: .int x :: st) h := by
  subst hq
  exact fun p e R s m args below meth c A ads0 X ads H locs cells slots ls h1 h2 h3 h4 h5 h6 => lv_icmp_eq X.1 X.2.1 hd ht (fun z => kt z p e R s m args below meth c A ads0 X ads H locs cells slots ls h1 h2 h3 h4 h5 h6) (fun z => kf z p e R s m args below meth c A ads0 X ads H locs cells slots ls h1 h2 h3 h4 h5 h6)
theorem g_if_ne {x : Int32} {off : Int} {t q : Nat} (hd : decode cc pc = .ok (.ifCond .ne off, 3)) (ht : (pc : Int) + off = (t : Int)) (hq : pc + 3 = q) (kt : ¬ x = 0 → tG l E own cc nL ret ini d Q k n t L (st) h) (kf : x = 0 → tG l E own cc nL ret ini d Q k n q L (st) h) : tG l E own cc nL ret ini d Q k n pc L (.int x :: st) h := by
  subst hq
  exact fun p e R s m args below meth c A ads0 X ads H locs cells slots ls h1 h2 h3 h4 h5 h6 => lv_if_ne X.1 X.2.1 hd ht (fun z => kt z p e R s m args below meth c A ads0 X ads H locs cells slots ls h1 h2 h3 h4 h5 h6) (fun z => kf z p e R s m args below meth c A ads0 X ads H locs cells slots ls h1 h2 h3 h4 h5 h6)
theorem g_icmp_ne {x y : Int32} {off : Int} {t q : Nat} (hd : decode cc pc = .ok (.if_icmp .ne off, 3)) (ht : (pc : Int) + off = (t : Int)) (hq : pc + 3 = q) (kt : ¬ x = y → tG l E own cc nL ret ini d Q k n t L (st) h) (kf : x = y → tG l E own cc nL ret ini d Q k n q L (st) h) : tG l E own cc nL ret ini d Q k n pc L (.int y :: .int x :: st) h := by
  subst hq
  exact fun p e R s m args below meth c A ads0 X ads H locs cells slots ls h1 h2 h3 h4 h5 h6 => lv_icmp_ne X.1 X.2.1 hd ht (fun z => kt z p e R s m args below meth c A ads0 X ads H locs cells slots ls h1 h2 h3 h4 h5 h6) (fun z => kf z p e R s m args below meth c A ads0 X ads H locs cells slots ls h1 h2 h3 h4 h5 h6)
theorem g_if_lt {x : Int32} {off : Int} {t q : Nat} (hd : decode cc pc = .ok (.ifCond .lt off, 3)) (ht : (pc : Int) + off = (t : Int)) (hq : pc + 3 = q) (kt : x < 0 → tG l E own cc nL ret ini d Q k n t L (st) h) (kf : ¬ x < 0 → tG l E own cc nL ret ini d Q k n q L (st) h) : tG l E own cc nL ret ini d Q k n pc L (.int x :: st) h := by
  subst hq
  exact fun p e R s m args below meth c A ads0 X ads H locs cells slots ls h1 h2 h3 h4 h5 h6 => lv_if_lt X.1 X.2.1 hd ht (fun z => kt z p e R s m args below meth c A ads0 X ads H locs cells slots ls h1 h2 h3 h4 h5 h6) (fun z => kf z p e R s m args below meth c A ads0 X ads H locs cells slots ls h1 h2 h3 h4 h5 h6)
theorem g_icmp_lt {x y : Int32} {off : Int} {t q : Nat} (hd : decode cc pc = .ok (.if_icmp .lt off, 3)) (ht : (pc : Int) + off = (t : Int)) (hq : pc + 3 = q) (kt : x < y → tG l E own cc nL ret ini d Q k n t L (st) h) (kf : ¬ x < y → tG l E own cc nL ret ini d Q k n q L (st) h) : tG l E own cc nL ret ini d Q k n pc L (.int y :: .int x :: st) h := by
  subst hq
  exact fun p e R s m args below meth c A ads0 X ads H locs cells slots ls h1 h2 h3 h4 h5 h6 => lv_icmp_lt X.1 X.2.1 hd ht (fun z => kt z p e R s m args below meth c A ads0 X ads H locs cells slots ls h1 h2 h3 h4 h5 h6) (fun z => kf z p e R s m args below meth c A ads0 X ads H locs cells slots ls h1 h2 h3 h4 h5 h6)
theorem g_if_ge {x : Int32} {off : Int} {t q : Nat} (hd : decode cc pc = .ok (.ifCond .ge off, 3)) (ht : (pc : Int) + off = (t : Int)) (hq : pc + 3 = q) (kt : 0 ≤ x → tG l E own cc nL ret ini d Q k n t L (st) h) (kf : ¬ 0 ≤ x → tG l E own cc nL ret ini d Q k n q L (st) h) : tG l E own cc nL ret ini d Q k n pc L (.int x :: st) h := by
  subst hq
  exact fun p e R s m args below meth c A ads0 X ads H locs cells slots ls h1 h2 h3 h4 h5 h6 => lv_if_ge X.1 X.2.1 hd ht (fun z => kt z p e R s m args below meth c A ads0 X ads H locs cells slots ls h1 h2 h3 h4 h5 h6) (fun z => kf z p e R s m args below meth c A ads0 X ads H locs cells slots ls h1 h2 h3 h4 h5 h6)
theorem g_icmp_ge {x y : Int32} {off : Int} {t q : Nat} (hd : decode cc pc = .ok (.if_icmp .ge off, 3)) (ht : (pc : Int) + off = (t : Int)) (hq : pc + 3 = q) (kt : y ≤ x → tG l E own cc nL ret ini d Q k n t L (st) h) (kf : ¬ y ≤ x → tG l E own cc nL ret ini d Q k n q L (st) h) : tG l E own cc nL ret ini d Q k n pc L (.int y :: .int x :: st) h := by
  subst hq
  exact fun p e R s m args below meth c A ads0 X ads H locs cells slots ls h1 h2 h3 h4 h5 h6 => lv_icmp_ge X.1 X.2.1 hd ht (fun z => kt z p e R s m args below meth c A ads0 X ads H locs cells slots ls h1 h2 h3 h4 h5 h6) (fun z => kf z p e R s m args below meth c A ads0 X ads H locs cells slots ls h1 h2 h3 h4 h5 h6)
theorem g_if_gt {x : Int32} {off : Int} {t q : Nat} (hd : decode cc pc = .ok (.ifCond .gt off, 3)) (ht : (pc : Int) + off = (t : Int)) (hq : pc + 3 = q) (kt : 0 < x → tG l E own cc nL ret ini d Q k n t L (st) h) (kf : ¬ 0 < x → tG l E own cc nL ret ini d Q k n q L (st) h) : tG l E own cc nL ret ini d Q k n pc L (.int x :: st) h := by
  subst hq
  exact fun p e R s m args below meth c A ads0 X ads H locs cells slots ls h1 h2 h3 h4 h5 h6 => lv_if_gt X.1 X.2.1 hd ht (fun z => kt z p e R s m args below meth c A ads0 X ads H locs cells slots ls h1 h2 h3 h4 h5 h6) (fun z => kf z p e R s m args below meth c A ads0 X ads H locs cells slots ls h1 h2 h3 h4 h5 h6)
theorem g_icmp_gt {x y : Int32} {off : Int} {t q : Nat} (hd : decode cc pc = .ok (.if_icmp .gt off, 3)) (ht : (pc : Int) + off = (t : Int)) (hq : pc + 3 = q) (kt : y < x → tG l E own cc nL ret ini d Q k n t L (st) h) (kf : ¬ y < x → tG l E own cc nL ret ini d Q k n q L (st) h) : tG l E own cc nL ret ini d Q k n pc L (.int y :: .int x :: st) h := by
  subst hq
  exact fun p e R s m args below meth c A ads0 X ads H locs cells slots ls h1 h2 h3 h4 h5 h6 => lv_icmp_gt X.1 X.2.1 hd ht (fun z => kt z p e R s m args below meth c A ads0 X ads H locs cells slots ls h1 h2 h3 h4 h5 h6) (fun z => kf z p e R s m args below meth c A ads0 X ads H locs cells slots ls h1 h2 h3 h4 h5 h6)
theorem g_if_le {x : Int32} {off : Int} {t q : Nat} (hd : decode cc pc = .ok (.ifCond .le off, 3)) (ht : (pc : Int) + off = (t : Int)) (hq : pc + 3 = q) (kt : x ≤ 0 → tG l E own cc nL ret ini d Q k n t L (st) h) (kf : ¬ x ≤ 0 → tG l E own cc nL ret ini d Q k n q L (st) h) : tG l E own cc nL ret ini d Q k n pc L (.int x :: st) h := by
  subst hq
  exact fun p e R s m args below meth c A ads0 X ads H locs cells slots ls h1 h2 h3 h4 h5 h6 => lv_if_le X.1 X.2.1 hd ht (fun z => kt z p e R s m args below meth c A ads0 X ads H locs cells slots ls h1 h2 h3 h4 h5 h6) (fun z => kf z p e R s m args below meth c A ads0 X ads H locs cells slots ls h1 h2 h3 h4 h5 h6)
theorem g_icmp_le {x y : Int32} {off : Int} {t q : Nat} (hd : decode cc pc = .ok (.if_icmp .le off, 3)) (ht : (pc : Int) + off = (t : Int)) (hq : pc + 3 = q) (kt : x ≤ y → tG l E own cc nL ret ini d Q k n t L (st) h) (kf : ¬ x ≤ y → tG l E own cc nL ret ini d Q k n q L (st) h) : tG l E own cc nL ret ini d Q k n pc L (.int y :: .int x :: st) h := by
  subst hq
  exact fun p e R s m args below meth c A ads0 X ads H locs cells slots ls h1 h2 h3 h4 h5 h6 => lv_icmp_le X.1 X.2.1 hd ht (fun z => kt z p e R s m args below meth c A ads0 X ads H locs cells slots ls h1 h2 h3 h4 h5 h6) (fun z => kf z p e R s m args below meth c A ads0 X ads H locs cells slots ls h1 h2 h3 h4 h5 h6)
theorem g_goto {off : Int} {t : Nat} (hd : decode cc pc = .ok (.goto off, 3)) (ht : (pc : Int) + off = (t : Int)) (kk : tG l E own cc nL ret ini d Q k n t L (st) h) : tG l E own cc nL ret ini d Q k n pc L (st) h :=
  fun p e R s m args below meth c A ads0 X ads H locs cells slots ls h1 h2 h3 h4 h5 h6 => lv_goto X.1 X.2.1 hd ht (kk p e R s m args below meth c A ads0 X ads H locs cells slots ls h1 h2 h3 h4 h5 h6)
theorem g_ifnonnull {x : Nat} {off : Int} {t : Nat} (hd : decode cc pc = .ok (.ifnonnull off, 3)) (ht : (pc : Int) + off = (t : Int)) (kk : tG l E own cc nL ret ini d Q k n t L (st) h) : tG l E own cc nL ret ini d Q k n pc L (.ref x :: st) h :=
  fun p e R s m args below meth c A ads0 X ads H locs cells slots ls h1 h2 h3 h4 h5 h6 => lv_ifnonnull X.1 X.2.1 hd ht (kk p e R s m args below meth c A ads0 X ads H locs cells slots ls h1 h2 h3 h4 h5 h6)
theorem g_ifnonnullN {off : Int} {q : Nat} (hd : decode cc pc = .ok (.ifnonnull off, 3)) (hq : pc + 3 = q) (kk : tG l E own cc nL ret ini d Q k n q L (st) h) : tG l E own cc nL ret ini d Q k n pc L (.null :: st) h := by
  subst hq
  exact fun p e R s m args below meth c A ads0 X ads H locs cells slots ls h1 h2 h3 h4 h5 h6 => lv_ifnonnullN X.1 X.2.1 hd (kk p e R s m args below meth c A ads0 X ads H locs cells slots ls h1 h2 h3 h4 h5 h6)
theorem g_ldc {idx : Nat} {v : Int32} {q : Nat} (hw : Cond.constant own idx v ∈ lw_tbl) (hd : decode cc pc = .ok (.ldc idx, 2)) (hq : pc + 2 = q) (kk : tG l E own cc nL ret ini d Q k n q L (.int v :: st) h) : tG l E own cc nL ret ini d Q k n pc L (st) h := by
  subst hq
  exact fun p e R s m args below meth c A ads0 X ads H locs cells slots ls h1 h2 h3 h4 h5 h6 => lv_ldc X.1 X.2.1 X.2.2.2.2.2.2.1 (X.2.2.2.2.2.2.2.2.2.1.hts args _ (tmem hw rfl)) hd (kk p e R s m args below meth c A ads0 X ads H locs cells slots ls h1 h2 h3 h4 h5 h6)
theorem g_ldc_w {idx : Nat} {v : Int32} {q : Nat} (hw : Cond.constant own idx v ∈ lw_tbl) (hd : decode cc pc = .ok (.ldc_w idx, 3)) (hq : pc + 3 = q) (kk : tG l E own cc nL ret ini d Q k n q L (.int v :: st) h) : tG l E own cc nL ret ini d Q k n pc L (st) h := by
  subst hq
  exact fun p e R s m args below meth c A ads0 X ads H locs cells slots ls h1 h2 h3 h4 h5 h6 => lv_ldcw X.1 X.2.1 X.2.2.2.2.2.2.1 (X.2.2.2.2.2.2.2.2.2.1.hts args _ (tmem hw rfl)) hd (kk p e R s m args below meth c A ads0 X ads H locs cells slots ls h1 h2 h3 h4 h5 h6)
theorem g_ldc2_w {idx : Nat} {v : Int64} {q : Nat} (hw : Cond.constantLong own idx v ∈ lw_tbl) (hd : decode cc pc = .ok (.ldc2_w idx, 3)) (hq : pc + 3 = q) (kk : tG l E own cc nL ret ini d Q k n q L (.long v :: st) h) : tG l E own cc nL ret ini d Q k n pc L (st) h := by
  subst hq
  exact fun p e R s m args below meth c A ads0 X ads H locs cells slots ls h1 h2 h3 h4 h5 h6 => lv_ldc2 X.1 X.2.1 X.2.2.2.2.2.2.1 (X.2.2.2.2.2.2.2.2.2.1.hts args _ (tmem hw rfl)) hd (kk p e R s m args below meth c A ads0 X ads H locs cells slots ls h1 h2 h3 h4 h5 h6)
theorem g_ireturn {v : Int32} (hd : decode cc pc = .ok (.ireturn, 1)) (hr : ret = some .int) (hQ : Q (some (.int v)) h) : tG l E own cc nL ret ini d Q k n pc L ([.int v]) h := by
  intro p e R s m args below meth c A ads0 X ads H locs cells slots ls h1 h2 h3 h4 h5 h6
  have hlocks := X.2.2.2.2.1
  refine W.widen (k := R.cells) (n := R.slots) (by omega) (by omega) ?_
  exact W.iret X.1 X.2.1 (X.2.2.2.1.trans hr)  (fun t ht hW => ⟨⟨(some (.int v)), h, ads, rfl, hQ, h3, by rw [ht]; exact h4⟩, h5.F ht⟩) h5.2.2 hd
theorem g_zreturn {v : Int32} (hb : v = 0 ∨ v = 1) (hd : decode cc pc = .ok (.ireturn, 1)) (hr : ret = some .boolean) (hQ : Q (some (.int v)) h) : tG l E own cc nL ret ini d Q k n pc L ([.int v]) h := by
  intro p e R s m args below meth c A ads0 X ads H locs cells slots ls h1 h2 h3 h4 h5 h6
  have hlocks := X.2.2.2.2.1
  refine W.widen (k := R.cells) (n := R.slots) (by omega) (by omega) ?_
  exact W.zret (ty := .boolean) X.1 X.2.1 (X.2.2.2.1.trans hr) (by rcases hb with rfl | rfl <;> rfl) (fun t ht hW => ⟨⟨(some (.int v)), h, ads, rfl, hQ, h3, by rw [ht]; exact h4⟩, h5.F ht⟩) h5.2.2 hd
theorem g_lreturn {v : Int64} (hd : decode cc pc = .ok (.lreturn, 1)) (hr : ret = some .long) (hQ : Q (some (.long v)) h) : tG l E own cc nL ret ini d Q k n pc L ([.long v]) h := by
  intro p e R s m args below meth c A ads0 X ads H locs cells slots ls h1 h2 h3 h4 h5 h6
  have hlocks := X.2.2.2.2.1
  refine W.widen (k := R.cells) (n := R.slots) (by omega) (by omega) ?_
  exact W.lret X.1 X.2.1 (X.2.2.2.1.trans hr)  (fun t ht hW => ⟨⟨(some (.long v)), h, ads, rfl, hQ, h3, by rw [ht]; exact h4⟩, h5.F ht⟩) h5.2.2 hd
theorem g_return (hd : decode cc pc = .ok (.return_, 1)) (hr : ret = none) (hQ : Q none h) : tG l E own cc nL ret ini d Q k n pc L ([]) h := by
  intro p e R s m args below meth c A ads0 X ads H locs cells slots ls h1 h2 h3 h4 h5 h6
  have hlocks := X.2.2.2.2.1
  refine W.widen (k := R.cells) (n := R.slots) (by omega) (by omega) ?_
  exact W.vret X.1 X.2.1 (X.2.2.2.1.trans hr) (fun t ht hW => ⟨⟨none, h, ads, rfl, hQ, h3, by rw [ht]; exact h4⟩, h5.F ht⟩) h5.2.2 hd
theorem g_areturn {a : Nat} {nm : String} (hd : decode cc pc = .ok (.areturn, 1)) (hr : ret = some (.object nm)) (hQ : Q (some (.ref a)) h) : tG l E own cc nL ret ini d Q k n pc L ([.ref a]) h := by
  intro p e R s m args below meth c A ads0 X ads H locs cells slots ls h1 h2 h3 h4 h5 h6
  have hlocks := X.2.2.2.2.1
  refine W.widen (k := R.cells) (n := R.slots) (by omega) (by omega) ?_
  exact W.aret X.1 X.2.1 (X.2.2.2.1.trans hr) (Or.inl ⟨_, rfl⟩) (Or.inr ⟨_, rfl⟩) (fun t ht hW => ⟨⟨some (.ref a), h, ads, rfl, hQ, h3, by rw [ht]; exact h4⟩, h5.F ht⟩) h5.2.2 hd
end TRULES
end
section
section THEAP
variable {l : Launch} {E : tEn} {own : String} {cc : ByteArray} {nL : Nat} {ret : Option FieldType} {ini : Bool} {d : Nat} {Q : Option Value → tHp → Prop} {k n : Nat} {pc : Nat} {L : List (Nat × Value)} {st : List Value} {h : tHp}
/-- what the pool says of a field: in class own, entry idx is field j of class number ci -/
def tFL (own : String) (idx ci j : Nat) : Prop := ∃ (C : String) (T : u_T) (N : Nat), vwCl[ci]? = some (C, T, N) ∧ j < N ∧ (∀ w ∈ u_ws C T N, w ∈ tTB) ∧
  (Cond.fieldLink own idx (T j).1 (T j).2.1 (T j).2.2.1 ∈ lw_tbl ∨ ∃ host : String, Cond.fieldLinkNest own idx (T j).1 (T j).2.1 (T j).2.2.1 host ∈ lw_tbl)
theorem g_get {idx ci j a : Nat} {fs : List Value} {v : Value} {q : Nat} (hf : tFL own idx ci j) (hd : decode cc pc = .ok (.getfield idx, 3)) (hq : pc + 3 = q) (hc : h[a]? = some (.inl (ci, fs))) (hv : fs[j]? = some v)
    (kk : tG l E own cc nL ret ini d Q k n q L (v :: st) h) : tG l E own cc nL ret ini d Q k n pc L (.ref a :: st) h := by
  subst hq
  intro p e R s m args below meth c A ads0 X ads H locs cells slots ls h1 h2 h3 h4 h5 h6
  obtain ⟨C, T, N, e1, e2, e3, e4⟩ := hf
  have hts := X.2.2.2.2.2.2.2.2.2.1.hts args
  have hK := X.2.2.2.2.2.2.2.2.2.1.1
  have hw := tw_get (E := E) h4.1 hc
  have hv2 : (fs.map (tv E ads))[j]? = some (tv E ads v) := by rw [List.getElem?_map, hv]; rfl
  have K := kk p e R s m args below meth c A ads0 X ads H locs cells slots ls h1 h2 h3 h4 h5 h6
  rcases e4 with e4 | ⟨host, e4⟩
  · exact va_get (D := E.1) X.1 X.2.1 hts e3 X.2.2.2.2.2.2.1 hK h4.2.1 a hw e1 j e2 (hts _ (tmem e4 rfl)) (fun _ h9 => h9) hv2 hd K
  · exact va_getN (D := E.1) X.1 X.2.1 hts e3 X.2.2.2.2.2.2.1 hK h4.2.1 a hw e1 j e2 (hts _ (tmem e4 rfl)) (fun _ h9 => h9) hv2 hd K
def tFP (own : String) (idx ci j : Nat) (ty : FieldType) (fin : Bool) : Prop := ∃ (C : String) (T : u_T) (N : Nat) (ty0 : Nat → FieldType), vwCl[ci]? = some (C, T, N) ∧ j < N ∧ (∀ w ∈ u_ws C T N, w ∈ tTB) ∧
  (∀ k, k < N → parseFieldDescriptor (T k).2.2.1 = some (ty0 k)) ∧ (∀ a, a < N → ∀ b, b < N → a ≠ b → (T a).2.1 ≠ (T b).2.1) ∧ (T j).2.2.2 = fin ∧ parseFieldDescriptor (T j).2.2.1 = some ty ∧
  ((Cond.fieldLink own idx (T j).1 (T j).2.1 (T j).2.2.1 ∈ lw_tbl ∧ (fin = true → (T j).1 = own)) ∨ (fin = false ∧ ∃ host : String, Cond.fieldLinkNest own idx (T j).1 (T j).2.1 (T j).2.2.1 host ∈ lw_tbl))
theorem tw_put {ads : List Nat} {a ci j : Nat} {fs : List Value} {v : Value} (hl : ads.length = h.length) (hc : h[a]? = some (.inl (ci, fs))) : (tw E ads h).set a (tad E ads a, .inr (ci, (fs.map (tv E ads)).set j (tv E ads v))) = tw E ads (h.set a (.inl (ci, fs.set j v))) := by
  rw [← tw_set hl (List.getElem?_eq_some_iff.mp hc).1]
  show _ = (tw E ads h).set a (tad E ads a, .inr (ci, (fs.set j v).map (tv E ads)))
  rw [List.map_set]
theorem tR_set {ads : List Nat} {A : Nat → Prop} {a : Nat} {c : tC} {H1 : Heap} (hl : ads.length = h.length) (ha : a < h.length) (hP : va_P E.1 vwCl ((tw E ads h).set a (tad E ads a, tce E ads c)) H1) (hD : va_D A ((tw E ads h).set a (tad E ads a, tce E ads c))) : tR E ads (h.set a c) A H1 := by
  rw [tw_set hl ha] at hP hD
  exact ⟨by rw [List.length_set]; exact hl, hP, hD⟩
theorem g_put {idx ci j a : Nat} {fs : List Value} {v : Value} {ty : FieldType} {q : Nat} {h' : tHp} (hf : tFP own idx ci j ty false) (hd : decode cc pc = .ok (.putfield idx, 3)) (hq : pc + 3 = q) (hc : h[a]? = some (.inl (ci, fs))) (hj : j < fs.length) (hn : ∀ ads, narrow ty (tv E ads v) = tv E ads v ∧ fits ty (tv E ads v) = true) (hh : h.set a (.inl (ci, fs.set j v)) = h')
    (kk : tG l E own cc nL ret ini d Q k n q L st h') : tG l E own cc nL ret ini d Q k n pc L (v :: .ref a :: st) h := by
  subst hq; subst hh
  intro p e R s m args below meth c A ads0 X ads H locs cells slots ls h1 h2 h3 h4 h5 h6
  obtain ⟨C, T, N, ty0, e1, e2, e3, e4, e5, e6, e7, e8⟩ := hf
  have hts := X.2.2.2.2.2.2.2.2.2.1.hts args
  have hK := X.2.2.2.2.2.2.2.2.2.1.1
  have hw := tw_get (E := E) h4.1 hc
  have K : ∀ (H1 : Heap) (locs1 : List Loc), va_P E.1 vwCl ((tw E ads h).set a (tad E ads a, .inr (ci, (fs.map (tv E ads)).set j (tv E ads v)))) H1 → va_D A ((tw E ads h).set a (tad E ads a, .inr (ci, (fs.map (tv E ads)).set j (tv E ads v)))) → va_S A s.heap H1 locs1 → W p l e R s m args below meth c H1 locs1 cells slots (MQ below (tQ E A ads0 Q) args s R.cells R.slots A) (F0 m (pc + 3) ls (st.map (tv E ads))) := by
    intro H1 locs1 hP hD hS
    rw [tw_put h4.1 hc] at hP hD
    exact kk p e R s m args below meth c A ads0 X ads H1 locs1 cells slots ls h1 h2 h3 ⟨by rw [List.length_set]; exact h4.1, hP, hD⟩ hS h6
  rcases e8 with ⟨e8, -⟩ | ⟨-, host, e8⟩
  · exact va_put (D := E.1) X.1 X.2.1 hts e3 ty0 e4 e5 X.2.2.2.2.2.2.1 hK h4.2.1 h4.2.2 h5 a hw e1 j e2 (hts _ (tmem e8 rfl)) (fun _ h9 => h9) e6 e7 (hn ads).1 (hn ads).2 (by rw [List.length_map]; exact hj) hd K
  · exact va_putN (D := E.1) X.1 X.2.1 hts e3 ty0 e4 e5 X.2.2.2.2.2.2.1 hK h4.2.1 h4.2.2 h5 a hw e1 j e2 (hts _ (tmem e8 rfl)) (fun _ h9 => h9) e6 e7 (hn ads).1 (hn ads).2 (by rw [List.length_map]; exact hj) hd K
theorem g_putF {idx ci j a : Nat} {fs : List Value} {v : Value} {ty : FieldType} {q : Nat} {h' : tHp} (hini : ini = true) (hf : tFP own idx ci j ty true) (hd : decode cc pc = .ok (.putfield idx, 3)) (hq : pc + 3 = q) (hc : h[a]? = some (.inl (ci, fs))) (hj : j < fs.length) (hn : ∀ ads, narrow ty (tv E ads v) = tv E ads v ∧ fits ty (tv E ads v) = true) (hh : h.set a (.inl (ci, fs.set j v)) = h')
    (kk : tG l E own cc nL ret ini d Q k n q L st h') : tG l E own cc nL ret ini d Q k n pc L (v :: .ref a :: st) h := by
  subst hq; subst hh
  intro p e R s m args below meth c A ads0 X ads H locs cells slots ls h1 h2 h3 h4 h5 h6
  obtain ⟨C, T, N, ty0, e1, e2, e3, e4, e5, e6, e7, e8⟩ := hf
  have hts := X.2.2.2.2.2.2.2.2.2.1.hts args
  have hK := X.2.2.2.2.2.2.2.2.2.1.1
  have hw := tw_get (E := E) h4.1 hc
  have K : ∀ (H1 : Heap) (locs1 : List Loc), va_P E.1 vwCl ((tw E ads h).set a (tad E ads a, .inr (ci, (fs.map (tv E ads)).set j (tv E ads v)))) H1 → va_D A ((tw E ads h).set a (tad E ads a, .inr (ci, (fs.map (tv E ads)).set j (tv E ads v)))) → va_S A s.heap H1 locs1 → W p l e R s m args below meth c H1 locs1 cells slots (MQ below (tQ E A ads0 Q) args s R.cells R.slots A) (F0 m (pc + 3) ls (st.map (tv E ads))) := by
    intro H1 locs1 hP hD hS
    rw [tw_put h4.1 hc] at hP hD
    exact kk p e R s m args below meth c A ads0 X ads H1 locs1 cells slots ls h1 h2 h3 ⟨by rw [List.length_set]; exact h4.1, hP, hD⟩ hS h6
  rcases e8 with ⟨e8, e9⟩ | ⟨e8, -⟩
  · exact va_putF (D := E.1) X.1 X.2.1 hts e3 ty0 e4 e5 X.2.2.2.2.2.2.1 hK h4.2.1 h4.2.2 h5 a hw e1 j e2 (hts _ (tmem e8 rfl)) (fun _ h9 => h9) e6 (X.2.2.2.2.2.1 hini) (e9 rfl) e7 (hn ads).1 (hn ads).2 (by rw [List.length_map]; exact hj) hd K
  · cases e8
/-! arrays -/
def tld {α : Type} (xs : List α) (i : Int32) : Option α := if i < 0 then none else xs[i.toNatClampNeg]?
def tst {α : Type} (xs : List α) (i : Int32) (v : α) : Option (List α) := if i < 0 then none else if xs.length ≤ i.toNatClampNeg then none else some (xs.set i.toNatClampNeg v)
theorem tld_some {α : Type} {xs : List α} {i : Int32} {v : α} (z : α) (h : tld xs i = some v) : vp_in i xs.length ∧ xs.getD i.toNatClampNeg z = v := by
  unfold tld at h
  split at h
  · cases h
  · next h0 =>
    obtain ⟨h1, h2⟩ := List.getElem?_eq_some_iff.mp h
    refine ⟨fun h9 => h9.elim h0 (fun h9 => by omega), ?_⟩
    rw [List.getD_eq_getElem?_getD, h]; rfl
theorem tst_some {α : Type} {xs ys : List α} {i : Int32} {v : α} (h : tst xs i v = some ys) : vp_in i xs.length ∧ ys = xs.set i.toNatClampNeg v ∧ i.toNatClampNeg < xs.length := by
  unfold tst at h
  split at h
  · cases h
  · next h0 =>
    split at h
    · cases h
    · next h1 => exact ⟨fun h9 => h9.elim h0 h1, (Option.some.inj h).symm, by omega⟩
theorem upd_set {xs : List Int32} {j : Nat} {v : Int32} (hj : j < xs.length) : upd (fun i => xs.getD i 0) j v = fun i => (xs.set j v).getD i 0 := by
  funext i
  unfold upd
  dsimp only
  rw [List.getD_eq_getElem?_getD, List.getD_eq_getElem?_getD]
  by_cases hij : i = j
  · subst hij; rw [if_pos rfl, List.getElem?_set_self hj]; rfl
  · rw [if_neg hij, List.getElem?_set_ne (fun q => hij q.symm)]
theorem updL_set {xs : List Int64} {j : Nat} {v : Int64} (hj : j < xs.length) : vp_updL (fun i => xs.getD i 0) j v = fun i => (xs.set j v).getD i 0 := by
  funext i
  unfold vp_updL
  dsimp only
  rw [List.getD_eq_getElem?_getD, List.getD_eq_getElem?_getD]
  by_cases hij : i = j
  · subst hij; rw [if_pos rfl, List.getElem?_set_self hj]; rfl
  · rw [if_neg hij, List.getElem?_set_ne (fun q => hij q.symm)]
theorem g_iaload {a : Nat} {xs : List Int32} {i v : Int32} {q : Nat} (hd : decode cc pc = .ok (.iaload, 1)) (hq : pc + 1 = q) (hc : h[a]? = some (.inr (.inl xs))) (hv : tld xs i = some v)
    (kk : tG l E own cc nL ret ini d Q k n q L (.int v :: st) h) : tG l E own cc nL ret ini d Q k n pc L (.int i :: .ref a :: st) h := by
  subst hq
  intro p e R s m args below meth c A ads0 X ads H locs cells slots ls h1 h2 h3 h4 h5 h6
  obtain ⟨hi, hv2⟩ := tld_some 0 hv
  have K := kk p e R s m args below meth c A ads0 X ads H locs cells slots ls h1 h2 h3 h4 h5 h6
  refine va_iald (D := E.1) X.1 X.2.1 X.2.2.2.2.2.2.2.2.2.1.1 h4.2.1 a 0 (tw_get (E := E) h4.1 hc) rfl hi hd ?_
  rw [hv2]; exact K
theorem g_laload {a : Nat} {xs : List Int64} {i : Int32} {v : Int64} {q : Nat} (hd : decode cc pc = .ok (.laload, 1)) (hq : pc + 1 = q) (hc : h[a]? = some (.inr (.inr (.inl xs)))) (hv : tld xs i = some v)
    (kk : tG l E own cc nL ret ini d Q k n q L (.long v :: st) h) : tG l E own cc nL ret ini d Q k n pc L (.int i :: .ref a :: st) h := by
  subst hq
  intro p e R s m args below meth c A ads0 X ads H locs cells slots ls h1 h2 h3 h4 h5 h6
  obtain ⟨hi, hv2⟩ := tld_some 0 hv
  have K := kk p e R s m args below meth c A ads0 X ads H locs cells slots ls h1 h2 h3 h4 h5 h6
  refine va_lald (D := E.1) X.1 X.2.1 X.2.2.2.2.2.2.2.2.2.1.1 h4.2.1 a 1 (tw_get (E := E) h4.1 hc) rfl hi hd ?_
  rw [hv2]; exact K
theorem g_baload {a : Nat} {xs : List Int32} {i v : Int32} {q : Nat} (hd : decode cc pc = .ok (.baload, 1)) (hq : pc + 1 = q) (hc : h[a]? = some (.inr (.inr (.inr xs)))) (hv : tld xs i = some v)
    (kk : tG l E own cc nL ret ini d Q k n q L (.int v :: st) h) : tG l E own cc nL ret ini d Q k n pc L (.int i :: .ref a :: st) h := by
  subst hq
  intro p e R s m args below meth c A ads0 X ads H locs cells slots ls h1 h2 h3 h4 h5 h6
  obtain ⟨hi, hv2⟩ := tld_some 0 hv
  have K := kk p e R s m args below meth c A ads0 X ads H locs cells slots ls h1 h2 h3 h4 h5 h6
  refine va_zald (D := E.1) X.1 X.2.1 X.2.2.2.2.2.2.2.2.2.1.1 h4.2.1 a 2 (tw_get (E := E) h4.1 hc) rfl hi hd ?_
  rw [hv2]; exact K
theorem g_iastore {a : Nat} {xs ys : List Int32} {i x : Int32} {q : Nat} {h' : tHp} (hd : decode cc pc = .ok (.iastore, 1)) (hq : pc + 1 = q) (hc : h[a]? = some (.inr (.inl xs))) (hv : tst xs i x = some ys) (hh : h.set a (.inr (.inl ys)) = h')
    (kk : tG l E own cc nL ret ini d Q k n q L st h') : tG l E own cc nL ret ini d Q k n pc L (.int x :: .int i :: .ref a :: st) h := by
  subst hq; subst hh
  intro p e R s m args below meth c A ads0 X ads H locs cells slots ls h1 h2 h3 h4 h5 h6
  obtain ⟨hi, rfl, hj⟩ := tst_some hv
  refine va_iast (D := E.1) X.1 X.2.1 X.2.2.2.2.2.2.2.2.2.1.1 h4.2.1 h4.2.2 h5 a 0 (tw_get (E := E) h4.1 hc) rfl hi hd (fun H1 locs1 hP hD hS => ?_)
  rw [upd_set hj, ← List.length_set (as := xs) (i := i.toNatClampNeg) (a := x)] at hP hD
  exact kk p e R s m args below meth c A ads0 X ads H1 locs1 cells slots ls h1 h2 h3 (tR_set (c := .inr (.inl (xs.set i.toNatClampNeg x))) h4.1 (List.getElem?_eq_some_iff.mp hc).1 hP hD) hS h6
theorem g_lastore {a : Nat} {xs ys : List Int64} {i : Int32} {x : Int64} {q : Nat} {h' : tHp} (hd : decode cc pc = .ok (.lastore, 1)) (hq : pc + 1 = q) (hc : h[a]? = some (.inr (.inr (.inl xs)))) (hv : tst xs i x = some ys) (hh : h.set a (.inr (.inr (.inl ys))) = h')
    (kk : tG l E own cc nL ret ini d Q k n q L st h') : tG l E own cc nL ret ini d Q k n pc L (.long x :: .int i :: .ref a :: st) h := by
  subst hq; subst hh
  intro p e R s m args below meth c A ads0 X ads H locs cells slots ls h1 h2 h3 h4 h5 h6
  obtain ⟨hi, rfl, hj⟩ := tst_some hv
  refine va_last (D := E.1) X.1 X.2.1 X.2.2.2.2.2.2.2.2.2.1.1 h4.2.1 h4.2.2 h5 a 1 (tw_get (E := E) h4.1 hc) rfl hi hd (fun H1 locs1 hP hD hS => ?_)
  rw [updL_set hj, ← List.length_set (as := xs) (i := i.toNatClampNeg) (a := x)] at hP hD
  exact kk p e R s m args below meth c A ads0 X ads H1 locs1 cells slots ls h1 h2 h3 (tR_set (c := .inr (.inr (.inl (xs.set i.toNatClampNeg x)))) h4.1 (List.getElem?_eq_some_iff.mp hc).1 hP hD) hS h6
theorem g_bastore {a : Nat} {xs ys : List Int32} {i x : Int32} {q : Nat} {h' : tHp} (hd : decode cc pc = .ok (.bastore, 1)) (hq : pc + 1 = q) (hc : h[a]? = some (.inr (.inr (.inr xs)))) (hv : tst xs i (vp_nar .boolean x) = some ys) (hh : h.set a (.inr (.inr (.inr ys))) = h')
    (kk : tG l E own cc nL ret ini d Q k n q L st h') : tG l E own cc nL ret ini d Q k n pc L (.int x :: .int i :: .ref a :: st) h := by
  subst hq; subst hh
  intro p e R s m args below meth c A ads0 X ads H locs cells slots ls h1 h2 h3 h4 h5 h6
  obtain ⟨hi, rfl, hj⟩ := tst_some hv
  refine va_zast (D := E.1) X.1 X.2.1 X.2.2.2.2.2.2.2.2.2.1.1 h4.2.1 h4.2.2 h5 a 2 (tw_get (E := E) h4.1 hc) rfl hi hd (fun H1 locs1 hP hD hS => ?_)
  rw [upd_set hj, ← List.length_set (as := xs) (i := i.toNatClampNeg) (a := vp_nar .boolean x)] at hP hD
  exact kk p e R s m args below meth c A ads0 X ads H1 locs1 cells slots ls h1 h2 h3 (tR_set (c := .inr (.inr (.inr (xs.set i.toNatClampNeg (vp_nar .boolean x))))) h4.1 (List.getElem?_eq_some_iff.mp hc).1 hP hD) hS h6
theorem g_alenI {a : Nat} {xs : List Int32} {v : Int32} {q : Nat} (hd : decode cc pc = .ok (.arraylength, 1)) (hq : pc + 1 = q) (hc : h[a]? = some (.inr (.inl xs))) (hv : Int32.ofNat xs.length = v)
    (kk : tG l E own cc nL ret ini d Q k n q L (.int v :: st) h) : tG l E own cc nL ret ini d Q k n pc L (.ref a :: st) h := by
  subst hq
  intro p e R s m args below meth c A ads0 X ads H locs cells slots ls h1 h2 h3 h4 h5 h6
  exact va_alen (D := E.1) X.1 X.2.1 X.2.2.2.2.2.2.2.2.2.1.1 h4.2.1 a 0 (tw_get (E := E) h4.1 hc) rfl hv hd (kk p e R s m args below meth c A ads0 X ads H locs cells slots ls h1 h2 h3 h4 h5 h6)
theorem g_alenJ {a : Nat} {xs : List Int64} {v : Int32} {q : Nat} (hd : decode cc pc = .ok (.arraylength, 1)) (hq : pc + 1 = q) (hc : h[a]? = some (.inr (.inr (.inl xs)))) (hv : Int32.ofNat xs.length = v)
    (kk : tG l E own cc nL ret ini d Q k n q L (.int v :: st) h) : tG l E own cc nL ret ini d Q k n pc L (.ref a :: st) h := by
  subst hq
  intro p e R s m args below meth c A ads0 X ads H locs cells slots ls h1 h2 h3 h4 h5 h6
  exact va_alen (D := E.1) X.1 X.2.1 X.2.2.2.2.2.2.2.2.2.1.1 h4.2.1 a 1 (tw_get (E := E) h4.1 hc) rfl hv hd (kk p e R s m args below meth c A ads0 X ads H locs cells slots ls h1 h2 h3 h4 h5 h6)
/-! the static arrays -/
theorem tad_far {ads : List Nat} (j : Nat) (hl : ads.length = h.length) (hs : h.length ≤ j) : tad E ads j = if j = 1000 then E.2.2.1 else E.2.2.2 := by
  unfold tad
  rw [List.getElem?_eq_none (by omega)]
def tSL (own : String) (idx : Nat) (C nm ds : String) : Prop := Cond.fieldLink own idx C nm ds ∈ lw_tbl ∨ ∃ host : String, Cond.fieldLinkNest own idx C nm ds host ∈ lw_tbl
theorem g_getsV {idx : Nat} {q : Nat} (hf : tSL own idx "ReadOnceRecognizer" "VARIABLE_TABLES" "[J") (hd : decode cc pc = .ok (.getstatic idx, 3)) (hq : pc + 3 = q) (hs : h.length ≤ 1000)
    (kk : tG l E own cc nL ret ini d Q k n q L (.ref 1000 :: st) h) : tG l E own cc nL ret ini d Q k n pc L st h := by
  subst hq
  intro p e R s m args below meth c A ads0 X ads H locs cells slots ls h1 h2 h3 h4 h5 h6
  have hts := X.2.2.2.2.2.2.2.2.2.1.hts args
  have K := kk p e R s m args below meth c A ads0 X ads H locs cells slots ls h1 h2 h3 h4 h5 h6
  have e9 : tv E ads (.ref 1000) = .ref E.2.2.1 := by show Value.ref (tad E ads 1000) = _; rw [tad_far 1000 h4.1 hs]; rfl
  rw [List.map_cons, e9] at K
  have hZ := X.2.2.2.2.2.2.2.2.2.1.2.2.1.1
  rcases hf with hf | ⟨host, hf⟩
  · exact va_gets X.1 X.2.1 hZ h5 X.2.2.2.2.2.2.1 (hts _ (tmem hf rfl)) (fun _ h9 => h9) hd K
  · exact va_getsN X.1 X.2.1 hZ h5 X.2.2.2.2.2.2.1 (hts _ (tmem hf rfl)) (fun _ h9 => h9) hd K
theorem g_getsG {idx : Nat} {q : Nat} (hf : tSL own idx "ReadOnceRecognizer$Catalog" "GAPS" "[I") (hd : decode cc pc = .ok (.getstatic idx, 3)) (hq : pc + 3 = q) (hs : h.length ≤ 1001)
    (kk : tG l E own cc nL ret ini d Q k n q L (.ref 1001 :: st) h) : tG l E own cc nL ret ini d Q k n pc L st h := by
  subst hq
  intro p e R s m args below meth c A ads0 X ads H locs cells slots ls h1 h2 h3 h4 h5 h6
  have hts := X.2.2.2.2.2.2.2.2.2.1.hts args
  have K := kk p e R s m args below meth c A ads0 X ads H locs cells slots ls h1 h2 h3 h4 h5 h6
  have e9 : tv E ads (.ref 1001) = .ref E.2.2.2 := by show Value.ref (tad E ads 1001) = _; rw [tad_far 1001 h4.1 hs]; rfl
  rw [List.map_cons, e9] at K
  have hZ := X.2.2.2.2.2.2.2.2.2.1.2.2.2.1
  rcases hf with hf | ⟨host, hf⟩
  · exact va_gets X.1 X.2.1 hZ h5 X.2.2.2.2.2.2.1 (hts _ (tmem hf rfl)) (fun _ h9 => h9) hd K
  · exact va_getsN X.1 X.2.1 hZ h5 X.2.2.2.2.2.2.1 (hts _ (tmem hf rfl)) (fun _ h9 => h9) hd K
theorem g_laloadV {i : Int32} {v : Int64} {q : Nat} (hd : decode cc pc = .ok (.laload, 1)) (hq : pc + 1 = q) (hs : h.length ≤ 1000) (hv : tld tVT i = some v)
    (kk : tG l E own cc nL ret ini d Q k n q L (.long v :: st) h) : tG l E own cc nL ret ini d Q k n pc L (.int i :: .ref 1000 :: st) h := by
  subst hq
  intro p e R s m args below meth c A ads0 X ads H locs cells slots ls h1 h2 h3 h4 h5 h6
  have K := kk p e R s m args below meth c A ads0 X ads H locs cells slots ls h1 h2 h3 h4 h5 h6
  have e9 : tv E ads (.ref 1000) = .ref E.2.2.1 := by show Value.ref (tad E ads 1000) = _; rw [tad_far 1000 h4.1 hs]; rfl
  rw [List.map_cons, List.map_cons, e9]
  obtain ⟨hi, hv2⟩ := tld_some 0 hv
  exact va_tl X.1 X.2.1 X.2.2.2.2.2.2.2.2.2.1.2.2.1.2 h5 hi (by rw [hv2]; rfl) hd K
theorem g_ialoadG {i v : Int32} {q : Nat} (hd : decode cc pc = .ok (.iaload, 1)) (hq : pc + 1 = q) (hs : h.length ≤ 1001) (hv : tld tGA i = some v)
    (kk : tG l E own cc nL ret ini d Q k n q L (.int v :: st) h) : tG l E own cc nL ret ini d Q k n pc L (.int i :: .ref 1001 :: st) h := by
  subst hq
  intro p e R s m args below meth c A ads0 X ads H locs cells slots ls h1 h2 h3 h4 h5 h6
  have K := kk p e R s m args below meth c A ads0 X ads H locs cells slots ls h1 h2 h3 h4 h5 h6
  have e9 : tv E ads (.ref 1001) = .ref E.2.2.2 := by show Value.ref (tad E ads 1001) = _; rw [tad_far 1001 h4.1 hs]; rfl
  rw [List.map_cons, List.map_cons, e9]
  obtain ⟨hi, hv2⟩ := tld_some 0 hv
  exact va_ti X.1 X.2.1 X.2.2.2.2.2.2.2.2.2.1.2.2.2.2 h5 hi (by rw [hv2]; rfl) hd K
theorem g_alenG {q : Nat} (hd : decode cc pc = .ok (.arraylength, 1)) (hq : pc + 1 = q) (hs : h.length ≤ 1001)
    (kk : tG l E own cc nL ret ini d Q k n q L (.int 7 :: st) h) : tG l E own cc nL ret ini d Q k n pc L (.ref 1001 :: st) h := by
  subst hq
  intro p e R s m args below meth c A ads0 X ads H locs cells slots ls h1 h2 h3 h4 h5 h6
  have K := kk p e R s m args below meth c A ads0 X ads H locs cells slots ls h1 h2 h3 h4 h5 h6
  have e9 : tv E ads (.ref 1001) = .ref E.2.2.2 := by show Value.ref (tad E ads 1001) = _; rw [tad_far 1001 h4.1 hs]; rfl
  rw [List.map_cons, e9]
  exact va_tlen X.1 X.2.1 X.2.2.2.2.2.2.2.2.2.1.2.2.2.2 h5 rfl hd K
end THEAP
end
section
section TCALLS
variable {l : Launch} {E : tEn} {own : String} {cc : ByteArray} {nL : Nat} {ret : Option FieldType} {ini : Bool} {d : Nat} {Q : Option Value → tHp → Prop} {k n : Nat} {pc : Nat} {L : List (Nat × Value)} {st : List Value} {h : tHp}
def tokv (n : Nat) (v : Value) : Bool := match v with
  | .ref k => Nat.blt k n
  | _ => true
def tokc (n : Nat) (c : tC) : Bool := match c with
  | .inl o => o.2.all (tokv n)
  | _ => true
def tokH (h : tHp) : Bool := h.all (tokc h.length)
def tokL (n : Nat) (L : List (Nat × Value)) : Bool := L.all (fun q => tokv n q.2)
def tokS (n : Nat) (st : List Value) : Bool := st.all (tokv n)
theorem tv_pre {ads ads' : List Nat} (hp : ads <+: ads') {v : Value} (hv : tokv ads.length v = true) : tv E ads' v = tv E ads v := by
  cases v with
  | ref k =>
    have hk : k < ads.length := Nat.le_of_ble_eq_true hv
    obtain ⟨t, rfl⟩ := hp
    show Value.ref (tad E (ads ++ t) k) = Value.ref (tad E ads k)
    unfold tad
    rw [List.getElem?_append_left hk]
  | _ => rfl
theorem tS_pre {ads ads' : List Nat} (hp : ads <+: ads') {vs : List Value} (hv : tokS ads.length vs = true) : vs.map (tv E ads') = vs.map (tv E ads) :=
  List.map_congr_left fun v h9 => tv_pre hp (List.all_eq_true.mp hv v h9)
theorem tLm_pre {ads ads' : List Nat} (hp : ads <+: ads') {L : List (Nat × Value)} (hv : tokL ads.length L = true) : tLm E ads' L = tLm E ads L :=
  List.map_congr_left fun v h9 => by rw [tv_pre hp (List.all_eq_true.mp hv v h9)]
theorem tce_pre {ads ads' : List Nat} (hp : ads <+: ads') {c : tC} (hv : tokc ads.length c = true) : tce E ads' c = tce E ads c := by
  rcases c with o | c | c | c
  · show Sum.inr (o.1, o.2.map (tv E ads')) = Sum.inr (o.1, o.2.map (tv E ads))
    rw [tS_pre hp hv]
  · rfl
  · rfl
  · rfl
theorem tw_push {ads : List Nat} {q : Nat} {c : tC} (hl : ads.length = h.length) (hok : tokH h = true) : tw E (ads ++ [q]) (h ++ [c]) = tw E ads h ++ [(q, tce E (ads ++ [q]) c)] := by
  unfold tw
  rw [List.zipWith_append hl]
  congr 1
  apply List.ext_getElem?
  intro i
  rw [List.getElem?_zipWith, List.getElem?_zipWith]
  cases ha : ads[i]? with
  | none => rfl
  | some a =>
    cases hc : h[i]? with
    | none => rfl
    | some c' =>
      have := List.all_eq_true.mp hok c' (List.mem_of_getElem? hc)
      simp only [tce_pre (E := E) (List.prefix_append ads [q]) (by rw [hl]; exact this)]
theorem tad_push {ads : List Nat} {q a : Nat} (ha : ads.length = a) : tad E (ads ++ [q]) a = q := by
  unfold tad
  rw [← ha, List.getElem?_concat_length]
/-- what the pool says of a class that is made -/
def tFN (own : String) (idx ci N : Nat) (fs : List Value) : Prop := ∃ (C : String) (T : u_T) (ty0 : Nat → FieldType), vwCl[ci]? = some (C, T, N) ∧ (∀ w ∈ u_ws C T N, w ∈ tTB) ∧ (∀ k, k < N → parseFieldDescriptor (T k).2.2.1 = some (ty0 k)) ∧
  (Cond.classLink own idx C ∈ lw_tbl ∧ Cond.instantiable C N ∈ lw_tbl ∧ Cond.initialized C ∈ lw_tbl) ∧ (∀ j, j < N → defaultValue (ty0 j) = vp_V fs j) ∧ ∀ (E : tEn) (ads : List Nat), fs.map (tv E ads) = fs
theorem g_new {idx ci N a k' n' : Nat} {fs : List Value} {q : Nat} {h' : tHp} (hf : tFN own idx ci N fs) (hd : decode cc pc = .ok (.new idx, 3)) (hq : pc + 3 = q) (hok : (tokH h && (tokL h.length L && tokS h.length st)) = true) (hh : h ++ [.inl (ci, fs)] = h') (ha : h.length = a) (hk : k' + 1 = k) (hn : n' + N = n)
    (kk : tG l E own cc nL ret ini d Q k' n' q L (.ref a :: st) h') : tG l E own cc nL ret ini d Q k n pc L st h := by
  subst hq; subst hh; subst hk; subst hn
  intro p e R s m args below meth c A ads0 X ads H locs cells slots ls h1 h2 h3 h4 h5 h6
  obtain ⟨C, T, ty0, e1, e2, e3, ⟨e4, e5, e6⟩, e7, e8⟩ := hf
  rw [Bool.and_eq_true, Bool.and_eq_true] at hok
  obtain ⟨o1, o2, o3⟩ := hok
  have hts := X.2.2.2.2.2.2.2.2.2.1.hts args
  have hK := X.2.2.2.2.2.2.2.2.2.1.1
  refine va_new (D := E.1) X.1 X.2.1 hts e2 ty0 e3 X.2.2.2.2.2.2.1 (hts _ (tmem e4 rfl)) (hts _ (tmem e5 rfl)) (hts _ (tmem e6 rfl)) hK h4.2.1 h4.2.2 h5 X.2.2.2.2.2.2.2.2.2.2 e1 e7 (by omega) (by omega) hd (fun q9 H1 hP hD hS => ?_)
  have hpre : ads <+: ads ++ [q9] := List.prefix_append ads [q9]
  have ew : tw E ads h ++ [(q9, .inr (ci, fs))] = tw E (ads ++ [q9]) (h ++ [.inl (ci, fs)]) := by
    rw [tw_push h4.1 o1]
    show _ = _ ++ ([(q9, .inr (ci, fs.map (tv E (ads ++ [q9]))))] : va_W)
    rw [e8]
  rw [ew] at hP hD
  have K := kk p e R s m args below meth c A ads0 X (ads ++ [q9]) H1 locs (cells + 1) (slots + N) ls (by omega) (by omega) (h3.trans hpre) ⟨by rw [List.length_append, List.length_append, h4.1]; rfl, hP, hD⟩ hS (by rw [tLm_pre hpre (by rw [h4.1]; exact o2)]; exact h6)
  have e9 : (Value.ref a :: st).map (tv E (ads ++ [q9])) = .ref q9 :: st.map (tv E ads) := by
    rw [List.map_cons, tS_pre hpre (by rw [h4.1]; exact o3)]
    show Value.ref (tad E (ads ++ [q9]) a) :: _ = _
    rw [tad_push (h4.1.trans ha)]
  rw [e9] at K
  exact K
theorem t_arrEq {E : tEn} {s : State} {cA : ClassId} {t0 : Nat} {cB : ClassId} {ty : FieldType} {tys : List (ClassId × FieldType)} (hK : va_K E.1 vwCl (tys ++ [(cA, ty)]) s) (h0 : tys[t0]? = some (cB, ty)) (hty : ty = .int ∨ ty = .long ∨ ty = .boolean) : cA = cB := by
  have a1 := (hK.2 tys.length (cA, ty) (by rw [List.getElem?_concat_length])).2
  have a2 := (hK.2 t0 (cB, ty) (by rw [List.getElem?_append_left (List.getElem?_eq_some_iff.mp h0).1]; exact h0)).2
  rcases hty with rfl | rfl | rfl <;> exact Option.some.inj (Eq.trans (Eq.symm a1) a2)
theorem rep_getD {α : Type} (N j : Nat) (z : α) : (List.replicate N z).getD j z = z := by
  rw [List.getD_eq_getElem?_getD, List.getElem?_replicate]
  split <;> rfl
theorem g_newarrI {z : Int32} {N a k' n' : Nat} {q : Nat} {h' : tHp} (hd : decode cc pc = .ok (.newarray .int, 2)) (hq : pc + 2 = q) (hz : ¬ z < 0) (hN : z.toNatClampNeg = N) (hB : N * componentBytes .int ≤ 536870912) (hok : (tokH h && (tokL h.length L && tokS h.length st)) = true) (hh : h ++ [.inr (.inl (List.replicate N 0))] = h') (ha : h.length = a) (hk : k' + 1 = k) (hn : n' + N = n) (hw : Cond.arrayClass .int ∈ lw_tbl)
    (kk : tG l E own cc nL ret ini d Q k' n' q L (.ref a :: st) h') : tG l E own cc nL ret ini d Q k n pc L (.int z :: st) h := by
  subst hq; subst hh; subst hk; subst hn
  intro p e R s m args below meth c A ads0 X ads H locs cells slots ls h1 h2 h3 h4 h5 h6
  rw [Bool.and_eq_true, Bool.and_eq_true] at hok
  obtain ⟨o1, o2, o3⟩ := hok
  have hts := X.2.2.2.2.2.2.2.2.2.1.hts args
  have hK := X.2.2.2.2.2.2.2.2.2.1.1
  refine va_newa (D := E.1) (a0 := (N, .inl (fun j => (List.replicate N 0).getD j 0))) X.1 X.2.1 (atype := .int) (hts _ (tmem hw rfl)) (ty := .int) rfl hK h4.2.1 h4.2.2 h5 X.2.2.2.2.2.2.2.2.2.2 (fun cA => by rw [vp_cell_i]; congr 1; funext j; rw [rep_getD]; rfl) hz hN hB (by omega) (by omega) hd (fun q9 cA H1 hK1 hP hD hS => ?_)
  have ecA := t_arrEq (t0 := 0) hK1 rfl (Or.inl rfl)
  subst ecA
  have hpre : ads <+: ads ++ [q9] := List.prefix_append ads [q9]
  have ew : tw E ads h ++ [(q9, .inl (E.2.1.1, N, .inl (fun j => (List.replicate N 0).getD j 0)))] = tw E (ads ++ [q9]) (h ++ [.inr (.inl (List.replicate N 0))]) := by
    rw [tw_push h4.1 o1]
    show _ = _ ++ ([(q9, .inl (E.2.1.1, (List.replicate N (0 : Int32)).length, .inl (fun j => (List.replicate N 0).getD j 0)))] : va_W)
    rw [List.length_replicate]
  rw [ew] at hP hD
  have K := kk p e R s m args below meth c A ads0 X (ads ++ [q9]) H1 locs (cells + 1) (slots + N) ls (by omega) (by omega) (h3.trans hpre) ⟨by rw [List.length_append, List.length_append, h4.1]; rfl, hP, hD⟩ hS (by rw [tLm_pre hpre (by rw [h4.1]; exact o2)]; exact h6)
  have e9 : (Value.ref a :: st).map (tv E (ads ++ [q9])) = .ref q9 :: st.map (tv E ads) := by
    rw [List.map_cons, tS_pre hpre (by rw [h4.1]; exact o3)]
    show Value.ref (tad E (ads ++ [q9]) a) :: _ = _
    rw [tad_push (h4.1.trans ha)]
  rw [e9] at K
  exact K
theorem g_newarrJ {z : Int32} {N a k' n' : Nat} {q : Nat} {h' : tHp} (hd : decode cc pc = .ok (.newarray .long, 2)) (hq : pc + 2 = q) (hz : ¬ z < 0) (hN : z.toNatClampNeg = N) (hB : N * componentBytes .long ≤ 536870912) (hok : (tokH h && (tokL h.length L && tokS h.length st)) = true) (hh : h ++ [.inr (.inr (.inl (List.replicate N 0)))] = h') (ha : h.length = a) (hk : k' + 1 = k) (hn : n' + N = n) (hw : Cond.arrayClass .long ∈ lw_tbl)
    (kk : tG l E own cc nL ret ini d Q k' n' q L (.ref a :: st) h') : tG l E own cc nL ret ini d Q k n pc L (.int z :: st) h := by
  subst hq; subst hh; subst hk; subst hn
  intro p e R s m args below meth c A ads0 X ads H locs cells slots ls h1 h2 h3 h4 h5 h6
  rw [Bool.and_eq_true, Bool.and_eq_true] at hok
  obtain ⟨o1, o2, o3⟩ := hok
  have hts := X.2.2.2.2.2.2.2.2.2.1.hts args
  have hK := X.2.2.2.2.2.2.2.2.2.1.1
  refine va_newa (D := E.1) (a0 := (N, .inr (.inl (fun j => (List.replicate N 0).getD j 0)))) X.1 X.2.1 (atype := .long) (hts _ (tmem hw rfl)) (ty := .long) rfl hK h4.2.1 h4.2.2 h5 X.2.2.2.2.2.2.2.2.2.2 (fun cA => by rw [vp_cell_l]; congr 1; funext j; rw [rep_getD]; rfl) hz hN hB (by omega) (by omega) hd (fun q9 cA H1 hK1 hP hD hS => ?_)
  have ecA := t_arrEq (t0 := 1) hK1 rfl (Or.inr (Or.inl rfl))
  subst ecA
  have hpre : ads <+: ads ++ [q9] := List.prefix_append ads [q9]
  have ew : tw E ads h ++ [(q9, .inl (E.2.1.2.1, N, .inr (.inl (fun j => (List.replicate N 0).getD j 0))))] = tw E (ads ++ [q9]) (h ++ [.inr (.inr (.inl (List.replicate N 0)))]) := by
    rw [tw_push h4.1 o1]
    show _ = _ ++ ([(q9, .inl (E.2.1.2.1, (List.replicate N (0 : Int64)).length, .inr (.inl (fun j => (List.replicate N 0).getD j 0))))] : va_W)
    rw [List.length_replicate]
  rw [ew] at hP hD
  have K := kk p e R s m args below meth c A ads0 X (ads ++ [q9]) H1 locs (cells + 1) (slots + N) ls (by omega) (by omega) (h3.trans hpre) ⟨by rw [List.length_append, List.length_append, h4.1]; rfl, hP, hD⟩ hS (by rw [tLm_pre hpre (by rw [h4.1]; exact o2)]; exact h6)
  have e9 : (Value.ref a :: st).map (tv E (ads ++ [q9])) = .ref q9 :: st.map (tv E ads) := by
    rw [List.map_cons, tS_pre hpre (by rw [h4.1]; exact o3)]
    show Value.ref (tad E (ads ++ [q9]) a) :: _ = _
    rw [tad_push (h4.1.trans ha)]
  rw [e9] at K
  exact K
theorem g_newarrZ {z : Int32} {N a k' n' : Nat} {q : Nat} {h' : tHp} (hd : decode cc pc = .ok (.newarray .boolean, 2)) (hq : pc + 2 = q) (hz : ¬ z < 0) (hN : z.toNatClampNeg = N) (hB : N * componentBytes .boolean ≤ 536870912) (hok : (tokH h && (tokL h.length L && tokS h.length st)) = true) (hh : h ++ [.inr (.inr (.inr (List.replicate N 0)))] = h') (ha : h.length = a) (hk : k' + 1 = k) (hn : n' + N = n) (hw : Cond.arrayClass .boolean ∈ lw_tbl)
    (kk : tG l E own cc nL ret ini d Q k' n' q L (.ref a :: st) h') : tG l E own cc nL ret ini d Q k n pc L (.int z :: st) h := by
  subst hq; subst hh; subst hk; subst hn
  intro p e R s m args below meth c A ads0 X ads H locs cells slots ls h1 h2 h3 h4 h5 h6
  rw [Bool.and_eq_true, Bool.and_eq_true] at hok
  obtain ⟨o1, o2, o3⟩ := hok
  have hts := X.2.2.2.2.2.2.2.2.2.1.hts args
  have hK := X.2.2.2.2.2.2.2.2.2.1.1
  refine va_newa (D := E.1) (a0 := (N, .inl (fun j => (List.replicate N 0).getD j 0))) X.1 X.2.1 (atype := .boolean) (hts _ (tmem hw rfl)) (ty := .boolean) rfl hK h4.2.1 h4.2.2 h5 X.2.2.2.2.2.2.2.2.2.2 (fun cA => by rw [vp_cell_i]; congr 1; funext j; rw [rep_getD]; rfl) hz hN hB (by omega) (by omega) hd (fun q9 cA H1 hK1 hP hD hS => ?_)
  have ecA := t_arrEq (t0 := 2) hK1 rfl (Or.inr (Or.inr rfl))
  subst ecA
  have hpre : ads <+: ads ++ [q9] := List.prefix_append ads [q9]
  have ew : tw E ads h ++ [(q9, .inl (E.2.1.2.2, N, .inl (fun j => (List.replicate N 0).getD j 0)))] = tw E (ads ++ [q9]) (h ++ [.inr (.inr (.inr (List.replicate N 0)))]) := by
    rw [tw_push h4.1 o1]
    show _ = _ ++ ([(q9, .inl (E.2.1.2.2, (List.replicate N (0 : Int32)).length, .inl (fun j => (List.replicate N 0).getD j 0)))] : va_W)
    rw [List.length_replicate]
  rw [ew] at hP hD
  have K := kk p e R s m args below meth c A ads0 X (ads ++ [q9]) H1 locs (cells + 1) (slots + N) ls (by omega) (by omega) (h3.trans hpre) ⟨by rw [List.length_append, List.length_append, h4.1]; rfl, hP, hD⟩ hS (by rw [tLm_pre hpre (by rw [h4.1]; exact o2)]; exact h6)
  have e9 : (Value.ref a :: st).map (tv E (ads ++ [q9])) = .ref q9 :: st.map (tv E ads) := by
    rw [List.map_cons, tS_pre hpre (by rw [h4.1]; exact o3)]
    show Value.ref (tad E (ads ++ [q9]) a) :: _ = _
    rw [tad_push (h4.1.trans ha)]
  rw [e9] at K
  exact K
theorem g_objInit {idx a : Nat} {q : Nat} (hl : Cond.methodLink own idx objectInit ∈ lw_tbl) (hi : Cond.instanceMethod objectInit ∈ lw_tbl) (hcd : Cond.code objectInit ⟨#[0xb1]⟩ 1 none ∈ lw_tbl) (hd : decode cc pc = .ok (.invokespecial idx, 3)) (hq : pc + 3 = q) (hdd : 1 ≤ d) (hst : (st.map fun v => v.category).sum ≤ 8)
    (kk : tG l E own cc nL ret ini d Q k n q L st h) : tG l E own cc nL ret ini d Q k n pc L (.ref a :: st) h := by
  subst hq
  intro p e R s m args below meth c A ads0 X ads H locs cells slots ls h1 h2 h3 h4 h5 h6
  have hts := X.2.2.2.2.2.2.2.2.2.1.hts args
  have K := kk p e R s m args below meth c A ads0 X ads H locs cells slots ls h1 h2 h3 h4 h5 h6
  have ec : ((st.map (tv E ads)).map fun v => v.category).sum ≤ 8 := by
    rw [List.map_map]
    have : (fun v => v.category) ∘ (tv E ads) = fun v : Value => v.category := funext fun v => tv_cat E ads v
    rw [this]; exact hst
  refine W.objInit X.1 X.2.1 X.2.2.2.2.2.2.1 (hts _ (tmem hl rfl)) (hts _ (tmem hi rfl)) (hts _ (tmem hcd rfl)) rfl (by rw [X.2.2.1]; exact h6.1) rfl hd (by rw [X.2.2.2.2.2.2.2.1]; exact hdd) ?_ K
  have e1 := X.2.2.2.2.2.2.2.2.1
  show 2 * 0 + _ + 12 ≤ _
  rw [e1]; omega
end TCALLS
end
section
section TCALL2
variable {l : Launch} {E : tEn} {own : String} {cc : ByteArray} {nL : Nat} {ret : Option FieldType} {ini : Bool} {d : Nat} {Q : Option Value → tHp → Prop} {k n : Nat} {pc : Nat} {L : List (Nat × Value)} {st : List Value} {h : tHp}
/-- what the tables say of a method that is called -/
def tM (y : MethodName) (cy : ByteArray) (maxL : Nat) (ry : Option FieldType) (na : Nat) : Prop := Cond.code y cy maxL ry ∈ lw_tbl ∧ (y.cls ≠ "java/lang/invoke/MethodHandle" ∧ y.cls ≠ "java/lang/invoke/VarHandle" ∧ (parseMethodDescriptor y.desc).map (fun d => d.parameters.length) = some na) ∧ Cond.initialized y.cls ∈ lw_tbl ∧ maxL ≤ 40
def tML (own : String) (idx : Nat) (y : MethodName) : Prop := Cond.methodLink own idx y ∈ lw_tbl ∨ ∃ host : String, Cond.methodLinkNest own idx y host ∈ lw_tbl
theorem tM_good {y : MethodName} {cy : ByteArray} {maxL : Nat} {ry : Option FieldType} {na : Nat} (h : tM y cy maxL ry na) : GoodIn tTB [Cond.code y cy maxL ry] := by
  intro w hw
  rcases List.mem_singleton.mp hw with rfl
  exact ⟨tmem h.1 rfl, Or.inl rfl⟩
theorem t_sumcat {ads : List Nat} {vs : List Value} (hst : (vs.map fun v => v.category).sum ≤ 8) : ((vs.map (tv E ads)).map fun v => v.category).sum ≤ 8 := by
  rw [List.map_map]
  have : (fun v => v.category) ∘ (tv E ads) = fun v : Value => v.category := funext fun v => tv_cat E ads v
  rw [this]; exact hst
theorem t_goon {p : Program} {e : Env} {R : Room} {s : State} {m : MethodId} {args a9 : Array Value} {below : List Frame} {meth : Method} {c : Code} {A : Nat → Prop} {ads0 ads : List Nat} {H : Heap} {locs : List Loc} {cells slots k' n' k2 n2 q : Nat} {ls : Array Slot} {g : JFrame} {r0 : Option Value} {h1 : tHp} {st1 : List Value}
    (X : tCx E own cc nL ret ini d p R s m meth c A) (b1 : cells + k ≤ R.cells) (b2 : slots + n ≤ R.slots) (b3 : ads0 <+: ads) (b4 : tR E ads h A H) (b5 : va_S A s.heap H locs) (b6 : lv_has ls nL (tLm E ads L))
    (hk : k2 + k' = k) (hn : n2 + n' = n) (hlen : h1.length = h.length ∨ (tokL h.length L && tokS h.length st) = true) (hst1 : r0.toList ++ st = st1) (hg : { g with pc := g.pc + 3, stack := [] } = F0 m q ls [])
    (hr : va_Run p l e R s m args below meth c H locs cells slots k' n' g (st.map (tv E ads)) (tQ E (va_A (tw E ads h) H.size) ads (fun r h' => r = r0 ∧ h' = h1) a9) (va_A (tw E ads h) H.size))
    (kk : tG l E own cc nL ret ini d Q k2 n2 q L st1 h1) : W p l e R s m args below meth c H locs cells slots (MQ below (tQ E A ads0 Q) args s R.cells R.slots A) g := by
  subst hst1; subst hk; subst hn
  have hF : ∀ q, va_A (tw E ads h) H.size q → A q := by
    intro q hq
    rcases hq with ⟨i, e9, h9⟩ | h9
    · exact b4.2.2.2 i (q, e9) h9
    · exact X.2.2.2.2.2.2.2.2.2.2 q (Nat.le_trans b5.1 h9)
  intro T hT XS
  obtain ⟨v, st₀, t, T', LL, h0, X', hL, e1, e2, ⟨⟨r, h', ads', hv, ⟨rfl, rfl⟩, hpre, hR1⟩, hz, hkp⟩, stp⟩ := hr T hT XS
  have hv : v = r.map (tv E ads') := by injection hv
  subst hv
  rw [h0] at hz hkp
  have eA : tLm E ads' L = tLm E ads L ∧ st.map (tv E ads') = st.map (tv E ads) := by
    rcases hlen with hlen | hlen
    · have : ads = ads' := hpre.eq_of_length (by rw [b4.1, hR1.1, hlen])
      subst this; exact ⟨rfl, rfl⟩
    · rw [Bool.and_eq_true] at hlen
      exact ⟨tLm_pre hpre (by rw [b4.1]; exact hlen.1), tS_pre hpre (by rw [b4.1]; exact hlen.2)⟩
  have hS1 : va_S A s.heap T'.heap (locs ++ LL) := ⟨Nat.le_trans b5.1 (by rw [e1]; exact hz), fun q h1 h2 => by rw [e1, hkp q (Nat.lt_of_lt_of_le h1 b5.1) (fun z => h2 (hF q z))]; exact b5.2.1 q h1 h2, fun q hq => by
      rcases List.mem_append.mp hq with h9 | h9
      · exact b5.2.2 q h9
      · exact hF _ (hL q h9)⟩
  have hR2 : tR E ads' h' A T'.heap := ⟨hR1.1, by rw [e1]; exact hR1.2.1, hR1.2.2.weaken (fun i x _ h9 => hF x.1 h9)⟩
  have K := kk p e R s m args below meth c A ads0 X ads' T'.heap (locs ++ LL) (cells + k') (slots + n') ls (by omega) (by omega) (b3.trans hpre) hR2 hS1 (by rw [eA.1]; exact b6)
  have e3 : { g with pc := g.pc + 3, stack := (r.map (tv E ads')).toList ++ st.map (tv E ads) } = F0 m q ls ((r.toList ++ st).map (tv E ads')) := by
    have e4 : (r.toList ++ st).map (tv E ads') = (r.map (tv E ads')).toList ++ st.map (tv E ads) := by
      rw [List.map_append, eA.2]; cases r <;> rfl
    rw [e4]
    obtain ⟨g1, g2, g3, g4, g5⟩ := g
    simp only [F0, JFrame.mk.injEq] at hg ⊢
    exact ⟨hg.1, hg.2.1, hg.2.2.1, trivial, hg.2.2.2.2⟩
  rw [← e3] at K
  obtain ⟨t2, a1, b1'⟩ := K T' rfl X'
  exact ⟨t2, stp t2 a1, b1'⟩
theorem t_pre {s : State} {A : Nat → Prop} {H : Heap} {locs : List Loc} {ads : List Nat} {as : List Value} (hU : tU E A s) (hA : ∀ q, s.heap.size ≤ q → A q) (b4 : tR E ads h A H) (b5 : va_S A s.heap H locs) :
    PreS s H (va_Pc (as.map (tv E ads)) (fun U => U.heap.size = H.size ∧ tU E (va_A (tw E ads h) H.size) U ∧ tR E ads h (fun _ => True) U.heap)) (as.map (tv E ads)) := by
  have hF : ∀ q, va_A (tw E ads h) H.size q → A q := by
    intro q hq
    rcases hq with ⟨i, e9, h9⟩ | h9
    · exact b4.2.2.2 i (q, e9) h9
    · exact hA q (Nat.le_trans b5.1 h9)
  refine ⟨fun a U g mk q => ?_, fun U hUh hW => ⟨rfl, by rw [hUh], hU.call b5 hF hUh hW, b4.1, by rw [hUh]; exact b4.2.1, b4.2.2.weaken (fun _ _ _ _ => trivial)⟩⟩
  obtain ⟨q0, q1, q2, q3⟩ := q
  refine ⟨q0, q1, ?_, q3⟩
  obtain ⟨c1, c2, ⟨c3, c4⟩, c5, c6⟩ := q2
  exact ⟨va_K.moved (u := U) (U := U.calling g mk a) (Vm.Alike.refl U.vm) c1, fun w hw => tWm (U := U.calling g mk a) (State.WarmedH.refl U) hw (c2 w hw) #[], ⟨c3.moved (U := U.calling g mk a) (Vm.Alike.refl U.vm), c4.moved (U := U.calling g mk a) (Vm.Alike.refl U.vm)⟩, c5.moved (U := U.calling g mk a) (Vm.Alike.refl U.vm), c6.moved (U := U.calling g mk a) (Vm.Alike.refl U.vm)⟩
theorem g_callS {idx : Nat} {y : MethodName} {cy : ByteArray} {maxL na d' k' n' k2 n2 q : Nat} {ry : Option FieldType} {as st0 st1 : List Value} {r0 : Option Value} {h1 : tHp} (hM : tM y cy maxL ry na) (hml : tML own idx y) (hs : Cond.static y ∈ lw_tbl) (hd : decode cc pc = .ok (.invokestatic idx, 3)) (hq : pc + 3 = q)
    (hev : tEv l E y cy maxL ry d' k' n' as h (fun r h' => r = r0 ∧ h' = h1)) (hst : as.reverse ++ st = st0) (hna : as.length = na) (hcat : (st.map fun v => v.category).sum ≤ 8) (hdd : d' + 1 ≤ d) (hk : k2 + k' = k) (hn : n2 + n' = n) (hlen : h1.length = h.length ∨ (tokL h.length L && tokS h.length st) = true) (hst1 : r0.toList ++ st = st1)
    (kk : tG l E own cc nL ret ini d Q k2 n2 q L st1 h1) : tG l E own cc nL ret ini d Q k n pc L st0 h := by
  subst hq; subst hst
  intro p e R s m args below meth c A ads0 X ads H locs cells slots ls b1 b2 b3 b4 b5 b6
  have hts := X.2.2.2.2.2.2.2.2.2.1.hts args
  have hRm : d' + 1 ≤ R.frames ∧ 8 + (maxL + 11) + 64 * d' ≤ R.locals := by
    have e1 := X.2.2.2.2.2.2.2.1
    have e2 := X.2.2.2.2.2.2.2.2.1
    have e3 := hM.2.2.2
    rw [e1, e2]; omega
  have hpre := t_pre (E := E) (as := as) X.2.2.2.2.2.2.2.2.2.1 X.2.2.2.2.2.2.2.2.2.2 b4 b5
  have hst9 : ((as.reverse ++ st).map (tv E ads)) = (as.map (tv E ads)).reverse ++ st.map (tv E ads) := by rw [List.map_append, List.map_reverse]
  refine t_goon (a9 := (as.map (tv E ads)).toArray) (k' := k') (n' := n') (st := st) X b1 b2 b3 b4 b5 b6 hk hn hlen hst1 rfl ?_ kk
  rcases hml with hml | ⟨host, hml⟩
  · exact va_runS (rest := st.map (tv E ads)) (As := as.map (tv E ads)) ⟨X.1, X.2.1, X.2.2.1, X.2.2.2.2.2.2.1, hts⟩ (hev ads H.size) ⟨callB_of na hts (tM_good hM) rfl rfl rfl (hts _ (tmem hM.2.2.1 rfl)) (hts _ (tmem hml rfl)) hM.2.1 hRm, hts _ (tmem hs rfl)⟩ hpre rfl (by rw [List.length_map]; exact hna) b6.1 hst9 (lv_room (t_sumcat hcat)) hd ⟨by omega, by omega⟩
  · exact va_runSN (rest := st.map (tv E ads)) (As := as.map (tv E ads)) (host := host) ⟨X.1, X.2.1, X.2.2.1, X.2.2.2.2.2.2.1, hts⟩ (hev ads H.size) ⟨va_cnB na hts (tM_good hM) rfl rfl rfl (X.2.2.2.2.2.2.2.2.2.1.2.1 _ (tmem hml rfl)) (hts _ (tmem hM.2.2.1 rfl)) hM.2.1 hRm, hts _ (tmem hs rfl), trivial⟩ hpre rfl (by rw [List.length_map]; exact hna) b6.1 hst9 (lv_room (t_sumcat hcat)) hd ⟨by omega, by omega⟩
theorem g_callV {idx ci a : Nat} {fs : List Value} {y : MethodName} {cy : ByteArray} {maxL na d' k' n' k2 n2 q : Nat} {ry : Option FieldType} {as st0 st1 : List Value} {r0 : Option Value} {h1 : tHp} {T : u_T} {N : Nat} (hM : tM y cy maxL ry na) (hml : tML own idx y) (hs : Cond.instanceMethod y ∈ lw_tbl ∧ Cond.selects y.cls y y ∈ lw_tbl) (hc : h[a]? = some (.inl (ci, fs))) (hci : vwCl[ci]? = some (y.cls, T, N)) (hd : decode cc pc = .ok (.invokevirtual idx, 3)) (hq : pc + 3 = q)
    (hev : tEv l E y cy maxL ry d' k' n' (.ref a :: as) h (fun r h' => r = r0 ∧ h' = h1)) (hst : as.reverse ++ .ref a :: st = st0) (hna : as.length = na) (hcat : (st.map fun v => v.category).sum ≤ 8) (hdd : d' + 1 ≤ d) (hk : k2 + k' = k) (hn : n2 + n' = n) (hlen : h1.length = h.length ∨ (tokL h.length L && tokS h.length st) = true) (hst1 : r0.toList ++ st = st1)
    (kk : tG l E own cc nL ret ini d Q k2 n2 q L st1 h1) : tG l E own cc nL ret ini d Q k n pc L st0 h := by
  subst hq; subst hst
  intro p e R s m args below meth c A ads0 X ads H locs cells slots ls b1 b2 b3 b4 b5 b6
  have hts := X.2.2.2.2.2.2.2.2.2.1.hts args
  have hRm : d' + 1 ≤ R.frames ∧ 8 + (maxL + 11) + 64 * d' ≤ R.locals := by
    have e1 := X.2.2.2.2.2.2.2.1
    have e2 := X.2.2.2.2.2.2.2.2.1
    have e3 := hM.2.2.2
    rw [e1, e2]; omega
  have hpre := t_pre (E := E) (as := .ref a :: as) X.2.2.2.2.2.2.2.2.2.1 X.2.2.2.2.2.2.2.2.2.2 b4 b5
  have hst9 : ((as.reverse ++ .ref a :: st).map (tv E ads)) = (as.map (tv E ads)).reverse ++ .ref (tad E ads a) :: st.map (tv E ads) := by rw [List.map_append, List.map_reverse]; rfl
  have hrecv := va_recv X.2.2.2.2.2.2.2.2.2.1.1 b4.2.1 hci (tw_get (E := E) b4.1 hc)
  refine t_goon (a9 := ((Value.ref a :: as).map (tv E ads)).toArray) (k' := k') (n' := n') (st := st) X b1 b2 b3 b4 b5 b6 hk hn hlen hst1 rfl ?_ kk
  rcases hml with hml | ⟨host, hml⟩
  · exact va_runV (C := y.cls) (b := tad E ads a) (rest := st.map (tv E ads)) (As := as.map (tv E ads)) ⟨X.1, X.2.1, X.2.2.1, X.2.2.2.2.2.2.1, hts⟩ (hev ads H.size) ⟨callB_of na hts (tM_good hM) rfl rfl rfl (hts _ (tmem hM.2.2.1 rfl)) (hts _ (tmem hml rfl)) hM.2.1 hRm, hts _ (tmem hs.1 rfl), hts _ (tmem hs.2 rfl)⟩ ⟨hpre.1, hrecv, hpre.2⟩ rfl (by rw [List.length_map]; exact hna) b6.1 hst9 (lv_room (t_sumcat hcat)) hd ⟨by omega, by omega⟩
  · exact va_runVN (C := y.cls) (b := tad E ads a) (rest := st.map (tv E ads)) (As := as.map (tv E ads)) (host := host) ⟨X.1, X.2.1, X.2.2.1, X.2.2.2.2.2.2.1, hts⟩ (hev ads H.size) ⟨va_cnB na hts (tM_good hM) rfl rfl rfl (X.2.2.2.2.2.2.2.2.2.1.2.1 _ (tmem hml rfl)) (hts _ (tmem hM.2.2.1 rfl)) hM.2.1 hRm, hts _ (tmem hs.1 rfl), hts _ (tmem hs.2 rfl)⟩ ⟨hpre.1, hrecv, hpre.2⟩ rfl (by rw [List.length_map]; exact hna) b6.1 hst9 (lv_room (t_sumcat hcat)) hd ⟨by omega, by omega⟩
theorem g_callI {idx a : Nat} {y : MethodName} {cy : ByteArray} {maxL na d' k' n' k2 n2 q : Nat} {as st0 st1 : List Value} {r0 : Option Value} {h1 : tHp} (hM : tM y cy maxL none na) (hml : tML own idx y) (hs : Cond.instanceMethod y ∈ lw_tbl) (hy : y.name = "<init>") (hd : decode cc pc = .ok (.invokespecial idx, 3)) (hq : pc + 3 = q)
    (hev : tEv l E y cy maxL none d' k' n' (.ref a :: as) h (fun r h' => r = r0 ∧ h' = h1)) (hst : as.reverse ++ .ref a :: st = st0) (hna : as.length = na) (hcat : (st.map fun v => v.category).sum ≤ 8) (hdd : d' + 1 ≤ d) (hk : k2 + k' = k) (hn : n2 + n' = n) (hlen : h1.length = h.length ∨ (tokL h.length L && tokS h.length st) = true) (hst1 : r0.toList ++ st = st1)
    (kk : tG l E own cc nL ret ini d Q k2 n2 q L st1 h1) : tG l E own cc nL ret ini d Q k n pc L st0 h := by
  subst hq; subst hst
  intro p e R s m args below meth c A ads0 X ads H locs cells slots ls b1 b2 b3 b4 b5 b6
  have hts := X.2.2.2.2.2.2.2.2.2.1.hts args
  have hRm : d' + 1 ≤ R.frames ∧ 8 + (maxL + 11) + 64 * d' ≤ R.locals := by
    have e1 := X.2.2.2.2.2.2.2.1
    have e2 := X.2.2.2.2.2.2.2.2.1
    have e3 := hM.2.2.2
    rw [e1, e2]; omega
  have hpre := t_pre (E := E) (as := .ref a :: as) X.2.2.2.2.2.2.2.2.2.1 X.2.2.2.2.2.2.2.2.2.2 b4 b5
  have hst9 : ((as.reverse ++ .ref a :: st).map (tv E ads)) = (as.map (tv E ads)).reverse ++ .ref (tad E ads a) :: st.map (tv E ads) := by rw [List.map_append, List.map_reverse]; rfl
  refine t_goon (a9 := ((Value.ref a :: as).map (tv E ads)).toArray) (k' := k') (n' := n') (st := st) X b1 b2 b3 b4 b5 b6 hk hn hlen hst1 rfl ?_ kk
  rcases hml with hml | ⟨host, hml⟩
  · exact va_runI (b := tad E ads a) (rest := st.map (tv E ads)) (As := as.map (tv E ads)) ⟨X.1, X.2.1, X.2.2.1, X.2.2.2.2.2.2.1, hts⟩ (hev ads H.size) ⟨callB_of na hts (tM_good hM) rfl rfl rfl (hts _ (tmem hM.2.2.1 rfl)) (hts _ (tmem hml rfl)) hM.2.1 hRm, hy, hts _ (tmem hs rfl)⟩ hpre rfl (by rw [List.length_map]; exact hna) b6.1 hst9 (lv_room (t_sumcat hcat)) hd ⟨by omega, by omega⟩
  · exact va_runIN (b := tad E ads a) (rest := st.map (tv E ads)) (As := as.map (tv E ads)) (host := host) ⟨X.1, X.2.1, X.2.2.1, X.2.2.2.2.2.2.1, hts⟩ (hev ads H.size) ⟨va_cnB na hts (tM_good hM) rfl rfl rfl (X.2.2.2.2.2.2.2.2.2.1.2.1 _ (tmem hml rfl)) (hts _ (tmem hM.2.2.1 rfl)) hM.2.1 hRm, hy, hts _ (tmem hs rfl)⟩ hpre rfl (by rw [List.length_map]; exact hna) b6.1 hst9 (lv_room (t_sumcat hcat)) hd ⟨by omega, by omega⟩
end TCALL2
end
