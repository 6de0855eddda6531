section
-- ===== PART A: goes FIRST, ahead of the names: the tables' words, and 'selects' of the private methods out of them =====
/-- a private method of a class that the tables say can be made, by its rows of tables_1 -/
def lw_okq (q : MethodName × Nat) : Prop := (q.1.cls ≠ "java/lang/invoke/MethodHandle" ∧ q.1.cls ≠ "java/lang/invoke/VarHandle") ∧ Cond.instantiable q.1.cls q.2 ∈ tables_1 ∧ Cond.privateMethod q.1 ∈ tables_1 ∧ Cond.instanceMethod q.1 ∈ tables_1
theorem lw_p0 : lw_okq (⟨"SortedPages$Text", "readToken", "()V"⟩, 9) := ⟨⟨by decide +kernel, by decide +kernel⟩, List.mem_of_getElem? (i := 153) (by decide +kernel), List.mem_of_getElem? (i := 268) (by decide +kernel), List.mem_of_getElem? (i := 269) (by decide +kernel)⟩
theorem lw_p1 : lw_okq (⟨"SortedPages$Text", "at", "(I)I"⟩, 9) := ⟨⟨by decide +kernel, by decide +kernel⟩, List.mem_of_getElem? (i := 153) (by decide +kernel), List.mem_of_getElem? (i := 272) (by decide +kernel), List.mem_of_getElem? (i := 273) (by decide +kernel)⟩
theorem lw_p2 : lw_okq (⟨"SortedPages$Text", "readFigures", "()V"⟩, 9) := ⟨⟨by decide +kernel, by decide +kernel⟩, List.mem_of_getElem? (i := 153) (by decide +kernel), List.mem_of_getElem? (i := 282) (by decide +kernel), List.mem_of_getElem? (i := 283) (by decide +kernel)⟩
theorem lw_p3 : lw_okq (⟨"SortedPages$Text", "isWord", "(Ljava/lang/String;)Z"⟩, 9) := ⟨⟨by decide +kernel, by decide +kernel⟩, List.mem_of_getElem? (i := 153) (by decide +kernel), List.mem_of_getElem? (i := 292) (by decide +kernel), List.mem_of_getElem? (i := 293) (by decide +kernel)⟩
theorem lw_p4 : lw_okq (⟨"SortedPages$Text", "readKey", "()Z"⟩, 9) := ⟨⟨by decide +kernel, by decide +kernel⟩, List.mem_of_getElem? (i := 153) (by decide +kernel), List.mem_of_getElem? (i := 344) (by decide +kernel), List.mem_of_getElem? (i := 345) (by decide +kernel)⟩
theorem lw_p5 : lw_okq (⟨"SortedPages$Text", "readNumber", "(III)Z"⟩, 9) := ⟨⟨by decide +kernel, by decide +kernel⟩, List.mem_of_getElem? (i := 153) (by decide +kernel), List.mem_of_getElem? (i := 356) (by decide +kernel), List.mem_of_getElem? (i := 357) (by decide +kernel)⟩
theorem lw_p6 : lw_okq (⟨"SortedPages$Text", "readStop", "()Z"⟩, 9) := ⟨⟨by decide +kernel, by decide +kernel⟩, List.mem_of_getElem? (i := 153) (by decide +kernel), List.mem_of_getElem? (i := 361) (by decide +kernel), List.mem_of_getElem? (i := 362) (by decide +kernel)⟩
theorem lw_p7 : lw_okq (⟨"SortedPages$Changer", "insertUpward", "(II)V"⟩, 7) := ⟨⟨by decide +kernel, by decide +kernel⟩, List.mem_of_getElem? (i := 80) (by decide +kernel), List.mem_of_getElem? (i := 462) (by decide +kernel), List.mem_of_getElem? (i := 463) (by decide +kernel)⟩
theorem lw_p8 : lw_okq (⟨"SortedPages$Changer", "split", "(LSortedPages$Page;)I"⟩, 7) := ⟨⟨by decide +kernel, by decide +kernel⟩, List.mem_of_getElem? (i := 80) (by decide +kernel), List.mem_of_getElem? (i := 479) (by decide +kernel), List.mem_of_getElem? (i := 480) (by decide +kernel)⟩
theorem lw_p9 : lw_okq (⟨"SortedPages$Changer", "readSeparator", "(I)V"⟩, 7) := ⟨⟨by decide +kernel, by decide +kernel⟩, List.mem_of_getElem? (i := 80) (by decide +kernel), List.mem_of_getElem? (i := 498) (by decide +kernel), List.mem_of_getElem? (i := 499) (by decide +kernel)⟩
theorem lw_p10 : lw_okq (⟨"SortedPages$Changer", "deal", "(ILSortedPages$Page;LSortedPages$Page;)V"⟩, 7) := ⟨⟨by decide +kernel, by decide +kernel⟩, List.mem_of_getElem? (i := 80) (by decide +kernel), List.mem_of_getElem? (i := 516) (by decide +kernel), List.mem_of_getElem? (i := 517) (by decide +kernel)⟩
theorem lw_p11 : lw_okq (⟨"SortedPages$Changer", "raiseRoot", "(I)V"⟩, 7) := ⟨⟨by decide +kernel, by decide +kernel⟩, List.mem_of_getElem? (i := 80) (by decide +kernel), List.mem_of_getElem? (i := 530) (by decide +kernel), List.mem_of_getElem? (i := 531) (by decide +kernel)⟩
theorem lw_p12 : lw_okq (⟨"SortedPages$Changer", "mend", "(I)Z"⟩, 7) := ⟨⟨by decide +kernel, by decide +kernel⟩, List.mem_of_getElem? (i := 80) (by decide +kernel), List.mem_of_getElem? (i := 542) (by decide +kernel), List.mem_of_getElem? (i := 543) (by decide +kernel)⟩
theorem lw_p13 : lw_okq (⟨"SortedPages$Changer", "gather", "(LSortedPages$Page;ILSortedPages$Page;LSortedPages$Page;)V"⟩, 7) := ⟨⟨by decide +kernel, by decide +kernel⟩, List.mem_of_getElem? (i := 80) (by decide +kernel), List.mem_of_getElem? (i := 547) (by decide +kernel), List.mem_of_getElem? (i := 548) (by decide +kernel)⟩
theorem lw_p14 : lw_okq (⟨"SortedPages$Changer", "join", "(LSortedPages$Page;LSortedPages$Page;)V"⟩, 7) := ⟨⟨by decide +kernel, by decide +kernel⟩, List.mem_of_getElem? (i := 80) (by decide +kernel), List.mem_of_getElem? (i := 551) (by decide +kernel), List.mem_of_getElem? (i := 552) (by decide +kernel)⟩
theorem lw_p15 : lw_okq (⟨"SortedPages$Changer", "shareAnew", "(LSortedPages$Page;ILSortedPages$Page;LSortedPages$Page;)V"⟩, 7) := ⟨⟨by decide +kernel, by decide +kernel⟩, List.mem_of_getElem? (i := 80) (by decide +kernel), List.mem_of_getElem? (i := 559) (by decide +kernel), List.mem_of_getElem? (i := 560) (by decide +kernel)⟩
def lw_privs_1 : List (MethodName × Nat) := [(⟨"SortedPages$Text", "readToken", "()V"⟩, 9), (⟨"SortedPages$Text", "at", "(I)I"⟩, 9), (⟨"SortedPages$Text", "readFigures", "()V"⟩, 9), (⟨"SortedPages$Text", "isWord", "(Ljava/lang/String;)Z"⟩, 9), (⟨"SortedPages$Text", "readKey", "()Z"⟩, 9), (⟨"SortedPages$Text", "readNumber", "(III)Z"⟩, 9), (⟨"SortedPages$Text", "readStop", "()Z"⟩, 9), (⟨"SortedPages$Changer", "insertUpward", "(II)V"⟩, 7), (⟨"SortedPages$Changer", "split", "(LSortedPages$Page;)I"⟩, 7), (⟨"SortedPages$Changer", "readSeparator", "(I)V"⟩, 7), (⟨"SortedPages$Changer", "deal", "(ILSortedPages$Page;LSortedPages$Page;)V"⟩, 7), (⟨"SortedPages$Changer", "raiseRoot", "(I)V"⟩, 7), (⟨"SortedPages$Changer", "mend", "(I)Z"⟩, 7), (⟨"SortedPages$Changer", "gather", "(LSortedPages$Page;ILSortedPages$Page;LSortedPages$Page;)V"⟩, 7), (⟨"SortedPages$Changer", "join", "(LSortedPages$Page;LSortedPages$Page;)V"⟩, 7), (⟨"SortedPages$Changer", "shareAnew", "(LSortedPages$Page;ILSortedPages$Page;LSortedPages$Page;)V"⟩, 7)]
theorem lw_r1 : ∀ q ∈ lw_privs_1, lw_okq q := List.forall_mem_cons.mpr ⟨lw_p0, List.forall_mem_cons.mpr ⟨lw_p1, List.forall_mem_cons.mpr ⟨lw_p2, List.forall_mem_cons.mpr ⟨lw_p3, List.forall_mem_cons.mpr ⟨lw_p4, List.forall_mem_cons.mpr ⟨lw_p5, List.forall_mem_cons.mpr ⟨lw_p6, List.forall_mem_cons.mpr ⟨lw_p7, List.forall_mem_cons.mpr ⟨lw_p8, List.forall_mem_cons.mpr ⟨lw_p9, List.forall_mem_cons.mpr ⟨lw_p10, List.forall_mem_cons.mpr ⟨lw_p11, List.forall_mem_cons.mpr ⟨lw_p12, List.forall_mem_cons.mpr ⟨lw_p13, List.forall_mem_cons.mpr ⟨lw_p14, List.forall_mem_cons.mpr ⟨lw_p15, fun _ h => absurd h List.not_mem_nil⟩⟩⟩⟩⟩⟩⟩⟩⟩⟩⟩⟩⟩⟩⟩⟩
theorem lw_p16 : lw_okq (⟨"SortedPages$Changer", "lowerRoot", "()V"⟩, 7) := ⟨⟨by decide +kernel, by decide +kernel⟩, List.mem_of_getElem? (i := 80) (by decide +kernel), List.mem_of_getElem? (i := 567) (by decide +kernel), List.mem_of_getElem? (i := 568) (by decide +kernel)⟩
theorem lw_p17 : lw_okq (⟨"SortedPages$Changer", "fillLeaves", "(III)I"⟩, 7) := ⟨⟨by decide +kernel, by decide +kernel⟩, List.mem_of_getElem? (i := 80) (by decide +kernel), List.mem_of_getElem? (i := 575) (by decide +kernel), List.mem_of_getElem? (i := 576) (by decide +kernel)⟩
theorem lw_p18 : lw_okq (⟨"SortedPages$Changer", "shareWithLast", "(I)V"⟩, 7) := ⟨⟨by decide +kernel, by decide +kernel⟩, List.mem_of_getElem? (i := 80) (by decide +kernel), List.mem_of_getElem? (i := 584) (by decide +kernel), List.mem_of_getElem? (i := 585) (by decide +kernel)⟩
theorem lw_p19 : lw_okq (⟨"SortedPages$Changer", "coverLeaves", "(I)V"⟩, 7) := ⟨⟨by decide +kernel, by decide +kernel⟩, List.mem_of_getElem? (i := 80) (by decide +kernel), List.mem_of_getElem? (i := 588) (by decide +kernel), List.mem_of_getElem? (i := 589) (by decide +kernel)⟩
theorem lw_p20 : lw_okq (⟨"SortedPages$Checker", "walk", "(IIII)I"⟩, 5) := ⟨⟨by decide +kernel, by decide +kernel⟩, List.mem_of_getElem? (i := 128) (by decide +kernel), List.mem_of_getElem? (i := 682) (by decide +kernel), List.mem_of_getElem? (i := 683) (by decide +kernel)⟩
theorem lw_p21 : lw_okq (⟨"SortedPages$Checker", "comeTo", "(I)V"⟩, 5) := ⟨⟨by decide +kernel, by decide +kernel⟩, List.mem_of_getElem? (i := 128) (by decide +kernel), List.mem_of_getElem? (i := 687) (by decide +kernel), List.mem_of_getElem? (i := 688) (by decide +kernel)⟩
theorem lw_p22 : lw_okq (⟨"SortedPages$Checker", "whyWrong", "(LSortedPages$Page;III)I"⟩, 5) := ⟨⟨by decide +kernel, by decide +kernel⟩, List.mem_of_getElem? (i := 128) (by decide +kernel), List.mem_of_getElem? (i := 691) (by decide +kernel), List.mem_of_getElem? (i := 692) (by decide +kernel)⟩
theorem lw_p23 : lw_okq (⟨"SortedPages$Checker", "isLast", "(I)Z"⟩, 5) := ⟨⟨by decide +kernel, by decide +kernel⟩, List.mem_of_getElem? (i := 128) (by decide +kernel), List.mem_of_getElem? (i := 696) (by decide +kernel), List.mem_of_getElem? (i := 697) (by decide +kernel)⟩
theorem lw_p24 : lw_okq (⟨"SortedPages$Checker", "rises", "(LSortedPages$Page;)Z"⟩, 5) := ⟨⟨by decide +kernel, by decide +kernel⟩, List.mem_of_getElem? (i := 128) (by decide +kernel), List.mem_of_getElem? (i := 707) (by decide +kernel), List.mem_of_getElem? (i := 708) (by decide +kernel)⟩
theorem lw_p25 : lw_okq (⟨"SortedPages$Checker", "isBetween", "(LSortedPages$Page;II)Z"⟩, 5) := ⟨⟨by decide +kernel, by decide +kernel⟩, List.mem_of_getElem? (i := 128) (by decide +kernel), List.mem_of_getElem? (i := 713) (by decide +kernel), List.mem_of_getElem? (i := 714) (by decide +kernel)⟩
theorem lw_p26 : lw_okq (⟨"SortedPages$Checker", "hasWrongChild", "(LSortedPages$Page;)Z"⟩, 5) := ⟨⟨by decide +kernel, by decide +kernel⟩, List.mem_of_getElem? (i := 128) (by decide +kernel), List.mem_of_getElem? (i := 717) (by decide +kernel), List.mem_of_getElem? (i := 718) (by decide +kernel)⟩
theorem lw_p27 : lw_okq (⟨"SortedPages$Checker", "noteLeaf", "(I)V"⟩, 5) := ⟨⟨by decide +kernel, by decide +kernel⟩, List.mem_of_getElem? (i := 128) (by decide +kernel), List.mem_of_getElem? (i := 722) (by decide +kernel), List.mem_of_getElem? (i := 723) (by decide +kernel)⟩
theorem lw_p28 : lw_okq (⟨"SortedPages$Checker", "walkChildren", "(IIII)I"⟩, 5) := ⟨⟨by decide +kernel, by decide +kernel⟩, List.mem_of_getElem? (i := 128) (by decide +kernel), List.mem_of_getElem? (i := 726) (by decide +kernel), List.mem_of_getElem? (i := 727) (by decide +kernel)⟩
theorem lw_p29 : lw_okq (⟨"SortedPages$Checker", "wrongNext", "()I"⟩, 5) := ⟨⟨by decide +kernel, by decide +kernel⟩, List.mem_of_getElem? (i := 128) (by decide +kernel), List.mem_of_getElem? (i := 730) (by decide +kernel), List.mem_of_getElem? (i := 731) (by decide +kernel)⟩
theorem lw_p30 : lw_okq (⟨"SortedPages$Checker", "strayPage", "()I"⟩, 5) := ⟨⟨by decide +kernel, by decide +kernel⟩, List.mem_of_getElem? (i := 128) (by decide +kernel), List.mem_of_getElem? (i := 735) (by decide +kernel), List.mem_of_getElem? (i := 736) (by decide +kernel)⟩
theorem lw_p31 : lw_okq (⟨"SortedPagesModel", "spells", "(II)V"⟩, 35) := ⟨⟨by decide +kernel, by decide +kernel⟩, List.mem_of_getElem? (i := 790) (by decide +kernel), List.mem_of_getElem? (i := 912) (by decide +kernel), List.mem_of_getElem? (i := 913) (by decide +kernel)⟩
def lw_privs_2 : List (MethodName × Nat) := [(⟨"SortedPages$Changer", "lowerRoot", "()V"⟩, 7), (⟨"SortedPages$Changer", "fillLeaves", "(III)I"⟩, 7), (⟨"SortedPages$Changer", "shareWithLast", "(I)V"⟩, 7), (⟨"SortedPages$Changer", "coverLeaves", "(I)V"⟩, 7), (⟨"SortedPages$Checker", "walk", "(IIII)I"⟩, 5), (⟨"SortedPages$Checker", "comeTo", "(I)V"⟩, 5), (⟨"SortedPages$Checker", "whyWrong", "(LSortedPages$Page;III)I"⟩, 5), (⟨"SortedPages$Checker", "isLast", "(I)Z"⟩, 5), (⟨"SortedPages$Checker", "rises", "(LSortedPages$Page;)Z"⟩, 5), (⟨"SortedPages$Checker", "isBetween", "(LSortedPages$Page;II)Z"⟩, 5), (⟨"SortedPages$Checker", "hasWrongChild", "(LSortedPages$Page;)Z"⟩, 5), (⟨"SortedPages$Checker", "noteLeaf", "(I)V"⟩, 5), (⟨"SortedPages$Checker", "walkChildren", "(IIII)I"⟩, 5), (⟨"SortedPages$Checker", "wrongNext", "()I"⟩, 5), (⟨"SortedPages$Checker", "strayPage", "()I"⟩, 5), (⟨"SortedPagesModel", "spells", "(II)V"⟩, 35)]
theorem lw_r2 : ∀ q ∈ lw_privs_2, lw_okq q := List.forall_mem_cons.mpr ⟨lw_p16, List.forall_mem_cons.mpr ⟨lw_p17, List.forall_mem_cons.mpr ⟨lw_p18, List.forall_mem_cons.mpr ⟨lw_p19, List.forall_mem_cons.mpr ⟨lw_p20, List.forall_mem_cons.mpr ⟨lw_p21, List.forall_mem_cons.mpr ⟨lw_p22, List.forall_mem_cons.mpr ⟨lw_p23, List.forall_mem_cons.mpr ⟨lw_p24, List.forall_mem_cons.mpr ⟨lw_p25, List.forall_mem_cons.mpr ⟨lw_p26, List.forall_mem_cons.mpr ⟨lw_p27, List.forall_mem_cons.mpr ⟨lw_p28, List.forall_mem_cons.mpr ⟨lw_p29, List.forall_mem_cons.mpr ⟨lw_p30, List.forall_mem_cons.mpr ⟨lw_p31, fun _ h => absurd h List.not_mem_nil⟩⟩⟩⟩⟩⟩⟩⟩⟩⟩⟩⟩⟩⟩⟩⟩
theorem lw_p32 : lw_okq (⟨"SortedPagesModel", "putKey", "(I)I"⟩, 35) := ⟨⟨by decide +kernel, by decide +kernel⟩, List.mem_of_getElem? (i := 790) (by decide +kernel), List.mem_of_getElem? (i := 916) (by decide +kernel), List.mem_of_getElem? (i := 917) (by decide +kernel)⟩
theorem lw_p33 : lw_okq (⟨"SortedPagesModel", "goesDown", "()V"⟩, 35) := ⟨⟨by decide +kernel, by decide +kernel⟩, List.mem_of_getElem? (i := 790) (by decide +kernel), List.mem_of_getElem? (i := 920) (by decide +kernel), List.mem_of_getElem? (i := 921) (by decide +kernel)⟩
theorem lw_p34 : lw_okq (⟨"SortedPagesModel", "at", "(II)I"⟩, 35) := ⟨⟨by decide +kernel, by decide +kernel⟩, List.mem_of_getElem? (i := 790) (by decide +kernel), List.mem_of_getElem? (i := 924) (by decide +kernel), List.mem_of_getElem? (i := 925) (by decide +kernel)⟩
theorem lw_p35 : lw_okq (⟨"SortedPagesModel", "against", "(II)I"⟩, 35) := ⟨⟨by decide +kernel, by decide +kernel⟩, List.mem_of_getElem? (i := 790) (by decide +kernel), List.mem_of_getElem? (i := 928) (by decide +kernel), List.mem_of_getElem? (i := 929) (by decide +kernel)⟩
theorem lw_p36 : lw_okq (⟨"SortedPagesModel", "childOf", "(II)I"⟩, 35) := ⟨⟨by decide +kernel, by decide +kernel⟩, List.mem_of_getElem? (i := 790) (by decide +kernel), List.mem_of_getElem? (i := 932) (by decide +kernel), List.mem_of_getElem? (i := 933) (by decide +kernel)⟩
theorem lw_p37 : lw_okq (⟨"SortedPagesModel", "startOf", "(II)I"⟩, 35) := ⟨⟨by decide +kernel, by decide +kernel⟩, List.mem_of_getElem? (i := 790) (by decide +kernel), List.mem_of_getElem? (i := 936) (by decide +kernel), List.mem_of_getElem? (i := 937) (by decide +kernel)⟩
theorem lw_p38 : lw_okq (⟨"SortedPagesModel", "placeIn", "(I)I"⟩, 35) := ⟨⟨by decide +kernel, by decide +kernel⟩, List.mem_of_getElem? (i := 790) (by decide +kernel), List.mem_of_getElem? (i := 940) (by decide +kernel), List.mem_of_getElem? (i := 941) (by decide +kernel)⟩
theorem lw_p39 : lw_okq (⟨"SortedPagesModel", "isAt", "(II)Z"⟩, 35) := ⟨⟨by decide +kernel, by decide +kernel⟩, List.mem_of_getElem? (i := 790) (by decide +kernel), List.mem_of_getElem? (i := 944) (by decide +kernel), List.mem_of_getElem? (i := 945) (by decide +kernel)⟩
theorem lw_p40 : lw_okq (⟨"SortedPagesModel", "tellAt", "(II)I"⟩, 35) := ⟨⟨by decide +kernel, by decide +kernel⟩, List.mem_of_getElem? (i := 790) (by decide +kernel), List.mem_of_getElem? (i := 948) (by decide +kernel), List.mem_of_getElem? (i := 949) (by decide +kernel)⟩
theorem lw_p41 : lw_okq (⟨"SortedPagesModel", "freeMany", "()I"⟩, 35) := ⟨⟨by decide +kernel, by decide +kernel⟩, List.mem_of_getElem? (i := 790) (by decide +kernel), List.mem_of_getElem? (i := 952) (by decide +kernel), List.mem_of_getElem? (i := 953) (by decide +kernel)⟩
theorem lw_p42 : lw_okq (⟨"SortedPagesModel", "comeOut", "(I)V"⟩, 35) := ⟨⟨by decide +kernel, by decide +kernel⟩, List.mem_of_getElem? (i := 790) (by decide +kernel), List.mem_of_getElem? (i := 956) (by decide +kernel), List.mem_of_getElem? (i := 957) (by decide +kernel)⟩
theorem lw_p43 : lw_okq (⟨"SortedPagesModel", "comesIn", "(I[III)V"⟩, 35) := ⟨⟨by decide +kernel, by decide +kernel⟩, List.mem_of_getElem? (i := 790) (by decide +kernel), List.mem_of_getElem? (i := 960) (by decide +kernel), List.mem_of_getElem? (i := 961) (by decide +kernel)⟩
theorem lw_p44 : lw_okq (⟨"SortedPagesModel", "copies", "(II)V"⟩, 35) := ⟨⟨by decide +kernel, by decide +kernel⟩, List.mem_of_getElem? (i := 790) (by decide +kernel), List.mem_of_getElem? (i := 964) (by decide +kernel), List.mem_of_getElem? (i := 965) (by decide +kernel)⟩
theorem lw_p45 : lw_okq (⟨"SortedPagesModel", "bytesOf", "(II)I"⟩, 35) := ⟨⟨by decide +kernel, by decide +kernel⟩, List.mem_of_getElem? (i := 790) (by decide +kernel), List.mem_of_getElem? (i := 968) (by decide +kernel), List.mem_of_getElem? (i := 969) (by decide +kernel)⟩
theorem lw_p46 : lw_okq (⟨"SortedPagesModel", "lowestFree", "()I"⟩, 35) := ⟨⟨by decide +kernel, by decide +kernel⟩, List.mem_of_getElem? (i := 790) (by decide +kernel), List.mem_of_getElem? (i := 972) (by decide +kernel), List.mem_of_getElem? (i := 973) (by decide +kernel)⟩
theorem lw_p47 : lw_okq (⟨"SortedPagesModel", "share", "(IIIII)V"⟩, 35) := ⟨⟨by decide +kernel, by decide +kernel⟩, List.mem_of_getElem? (i := 790) (by decide +kernel), List.mem_of_getElem? (i := 976) (by decide +kernel), List.mem_of_getElem? (i := 977) (by decide +kernel)⟩
def lw_privs_3 : List (MethodName × Nat) := [(⟨"SortedPagesModel", "putKey", "(I)I"⟩, 35), (⟨"SortedPagesModel", "goesDown", "()V"⟩, 35), (⟨"SortedPagesModel", "at", "(II)I"⟩, 35), (⟨"SortedPagesModel", "against", "(II)I"⟩, 35), (⟨"SortedPagesModel", "childOf", "(II)I"⟩, 35), (⟨"SortedPagesModel", "startOf", "(II)I"⟩, 35), (⟨"SortedPagesModel", "placeIn", "(I)I"⟩, 35), (⟨"SortedPagesModel", "isAt", "(II)Z"⟩, 35), (⟨"SortedPagesModel", "tellAt", "(II)I"⟩, 35), (⟨"SortedPagesModel", "freeMany", "()I"⟩, 35), (⟨"SortedPagesModel", "comeOut", "(I)V"⟩, 35), (⟨"SortedPagesModel", "comesIn", "(I[III)V"⟩, 35), (⟨"SortedPagesModel", "copies", "(II)V"⟩, 35), (⟨"SortedPagesModel", "bytesOf", "(II)I"⟩, 35), (⟨"SortedPagesModel", "lowestFree", "()I"⟩, 35), (⟨"SortedPagesModel", "share", "(IIIII)V"⟩, 35)]
theorem lw_r3 : ∀ q ∈ lw_privs_3, lw_okq q := List.forall_mem_cons.mpr ⟨lw_p32, List.forall_mem_cons.mpr ⟨lw_p33, List.forall_mem_cons.mpr ⟨lw_p34, List.forall_mem_cons.mpr ⟨lw_p35, List.forall_mem_cons.mpr ⟨lw_p36, List.forall_mem_cons.mpr ⟨lw_p37, List.forall_mem_cons.mpr ⟨lw_p38, List.forall_mem_cons.mpr ⟨lw_p39, List.forall_mem_cons.mpr ⟨lw_p40, List.forall_mem_cons.mpr ⟨lw_p41, List.forall_mem_cons.mpr ⟨lw_p42, List.forall_mem_cons.mpr ⟨lw_p43, List.forall_mem_cons.mpr ⟨lw_p44, List.forall_mem_cons.mpr ⟨lw_p45, List.forall_mem_cons.mpr ⟨lw_p46, List.forall_mem_cons.mpr ⟨lw_p47, fun _ h => absurd h List.not_mem_nil⟩⟩⟩⟩⟩⟩⟩⟩⟩⟩⟩⟩⟩⟩⟩⟩
theorem lw_p48 : lw_okq (⟨"SortedPagesModel", "half", "()I"⟩, 35) := ⟨⟨by decide +kernel, by decide +kernel⟩, List.mem_of_getElem? (i := 790) (by decide +kernel), List.mem_of_getElem? (i := 980) (by decide +kernel), List.mem_of_getElem? (i := 981) (by decide +kernel)⟩
theorem lw_p49 : lw_okq (⟨"SortedPagesModel", "setUp", "(II)V"⟩, 35) := ⟨⟨by decide +kernel, by decide +kernel⟩, List.mem_of_getElem? (i := 790) (by decide +kernel), List.mem_of_getElem? (i := 984) (by decide +kernel), List.mem_of_getElem? (i := 985) (by decide +kernel)⟩
theorem lw_p50 : lw_okq (⟨"SortedPagesModel", "shortest", "(I)I"⟩, 35) := ⟨⟨by decide +kernel, by decide +kernel⟩, List.mem_of_getElem? (i := 790) (by decide +kernel), List.mem_of_getElem? (i := 988) (by decide +kernel), List.mem_of_getElem? (i := 989) (by decide +kernel)⟩
theorem lw_p51 : lw_okq (⟨"SortedPagesModel", "goesUp", "(II)V"⟩, 35) := ⟨⟨by decide +kernel, by decide +kernel⟩, List.mem_of_getElem? (i := 790) (by decide +kernel), List.mem_of_getElem? (i := 992) (by decide +kernel), List.mem_of_getElem? (i := 993) (by decide +kernel)⟩
theorem lw_p52 : lw_okq (⟨"SortedPagesModel", "goBack", "(IIIII)V"⟩, 35) := ⟨⟨by decide +kernel, by decide +kernel⟩, List.mem_of_getElem? (i := 790) (by decide +kernel), List.mem_of_getElem? (i := 996) (by decide +kernel), List.mem_of_getElem? (i := 997) (by decide +kernel)⟩
theorem lw_p53 : lw_okq (⟨"SortedPagesModel", "clears", "(I)V"⟩, 35) := ⟨⟨by decide +kernel, by decide +kernel⟩, List.mem_of_getElem? (i := 790) (by decide +kernel), List.mem_of_getElem? (i := 1000) (by decide +kernel), List.mem_of_getElem? (i := 1001) (by decide +kernel)⟩
theorem lw_p54 : lw_okq (⟨"SortedPagesModel", "newRoot", "(II)V"⟩, 35) := ⟨⟨by decide +kernel, by decide +kernel⟩, List.mem_of_getElem? (i := 790) (by decide +kernel), List.mem_of_getElem? (i := 1004) (by decide +kernel), List.mem_of_getElem? (i := 1005) (by decide +kernel)⟩
theorem lw_p55 : lw_okq (⟨"SortedPagesModel", "takeKey", "()I"⟩, 35) := ⟨⟨by decide +kernel, by decide +kernel⟩, List.mem_of_getElem? (i := 790) (by decide +kernel), List.mem_of_getElem? (i := 1012) (by decide +kernel), List.mem_of_getElem? (i := 1013) (by decide +kernel)⟩
theorem lw_p56 : lw_okq (⟨"SortedPagesModel", "goesOut", "(I)V"⟩, 35) := ⟨⟨by decide +kernel, by decide +kernel⟩, List.mem_of_getElem? (i := 790) (by decide +kernel), List.mem_of_getElem? (i := 1016) (by decide +kernel), List.mem_of_getElem? (i := 1017) (by decide +kernel)⟩
theorem lw_p57 : lw_okq (⟨"SortedPagesModel", "usedOf", "(I)I"⟩, 35) := ⟨⟨by decide +kernel, by decide +kernel⟩, List.mem_of_getElem? (i := 790) (by decide +kernel), List.mem_of_getElem? (i := 1020) (by decide +kernel), List.mem_of_getElem? (i := 1021) (by decide +kernel)⟩
theorem lw_p58 : lw_okq (⟨"SortedPagesModel", "mends", "(I)Z"⟩, 35) := ⟨⟨by decide +kernel, by decide +kernel⟩, List.mem_of_getElem? (i := 790) (by decide +kernel), List.mem_of_getElem? (i := 1024) (by decide +kernel), List.mem_of_getElem? (i := 1025) (by decide +kernel)⟩
theorem lw_p59 : lw_okq (⟨"SortedPagesModel", "loads", "(III)I"⟩, 35) := ⟨⟨by decide +kernel, by decide +kernel⟩, List.mem_of_getElem? (i := 790) (by decide +kernel), List.mem_of_getElem? (i := 1035) (by decide +kernel), List.mem_of_getElem? (i := 1036) (by decide +kernel)⟩
theorem lw_p60 : lw_okq (⟨"SortedPagesModel", "loadsInner", "(I)V"⟩, 35) := ⟨⟨by decide +kernel, by decide +kernel⟩, List.mem_of_getElem? (i := 790) (by decide +kernel), List.mem_of_getElem? (i := 1039) (by decide +kernel), List.mem_of_getElem? (i := 1040) (by decide +kernel)⟩
theorem lw_p61 : lw_okq (⟨"SortedPagesModel", "valueOf", "()I"⟩, 35) := ⟨⟨by decide +kernel, by decide +kernel⟩, List.mem_of_getElem? (i := 790) (by decide +kernel), List.mem_of_getElem? (i := 1047) (by decide +kernel), List.mem_of_getElem? (i := 1048) (by decide +kernel)⟩
theorem lw_p62 : lw_okq (⟨"SortedPagesModel", "firstLeaf", "()I"⟩, 35) := ⟨⟨by decide +kernel, by decide +kernel⟩, List.mem_of_getElem? (i := 790) (by decide +kernel), List.mem_of_getElem? (i := 1055) (by decide +kernel), List.mem_of_getElem? (i := 1056) (by decide +kernel)⟩
theorem lw_p63 : lw_okq (⟨"SortedPagesModel", "beginsSo", "(II)Z"⟩, 35) := ⟨⟨by decide +kernel, by decide +kernel⟩, List.mem_of_getElem? (i := 790) (by decide +kernel), List.mem_of_getElem? (i := 1059) (by decide +kernel), List.mem_of_getElem? (i := 1060) (by decide +kernel)⟩
def lw_privs_4 : List (MethodName × Nat) := [(⟨"SortedPagesModel", "half", "()I"⟩, 35), (⟨"SortedPagesModel", "setUp", "(II)V"⟩, 35), (⟨"SortedPagesModel", "shortest", "(I)I"⟩, 35), (⟨"SortedPagesModel", "goesUp", "(II)V"⟩, 35), (⟨"SortedPagesModel", "goBack", "(IIIII)V"⟩, 35), (⟨"SortedPagesModel", "clears", "(I)V"⟩, 35), (⟨"SortedPagesModel", "newRoot", "(II)V"⟩, 35), (⟨"SortedPagesModel", "takeKey", "()I"⟩, 35), (⟨"SortedPagesModel", "goesOut", "(I)V"⟩, 35), (⟨"SortedPagesModel", "usedOf", "(I)I"⟩, 35), (⟨"SortedPagesModel", "mends", "(I)Z"⟩, 35), (⟨"SortedPagesModel", "loads", "(III)I"⟩, 35), (⟨"SortedPagesModel", "loadsInner", "(I)V"⟩, 35), (⟨"SortedPagesModel", "valueOf", "()I"⟩, 35), (⟨"SortedPagesModel", "firstLeaf", "()I"⟩, 35), (⟨"SortedPagesModel", "beginsSo", "(II)Z"⟩, 35)]
theorem lw_r4 : ∀ q ∈ lw_privs_4, lw_okq q := List.forall_mem_cons.mpr ⟨lw_p48, List.forall_mem_cons.mpr ⟨lw_p49, List.forall_mem_cons.mpr ⟨lw_p50, List.forall_mem_cons.mpr ⟨lw_p51, List.forall_mem_cons.mpr ⟨lw_p52, List.forall_mem_cons.mpr ⟨lw_p53, List.forall_mem_cons.mpr ⟨lw_p54, List.forall_mem_cons.mpr ⟨lw_p55, List.forall_mem_cons.mpr ⟨lw_p56, List.forall_mem_cons.mpr ⟨lw_p57, List.forall_mem_cons.mpr ⟨lw_p58, List.forall_mem_cons.mpr ⟨lw_p59, List.forall_mem_cons.mpr ⟨lw_p60, List.forall_mem_cons.mpr ⟨lw_p61, List.forall_mem_cons.mpr ⟨lw_p62, List.forall_mem_cons.mpr ⟨lw_p63, fun _ h => absurd h List.not_mem_nil⟩⟩⟩⟩⟩⟩⟩⟩⟩⟩⟩⟩⟩⟩⟩⟩
theorem lw_p64 : lw_okq (⟨"SortedPagesModel", "nextLeaf", "(I)I"⟩, 35) := ⟨⟨by decide +kernel, by decide +kernel⟩, List.mem_of_getElem? (i := 790) (by decide +kernel), List.mem_of_getElem? (i := 1063) (by decide +kernel), List.mem_of_getElem? (i := 1064) (by decide +kernel)⟩
theorem lw_p65 : lw_okq (⟨"SortedPagesModel", "keys", "()I"⟩, 35) := ⟨⟨by decide +kernel, by decide +kernel⟩, List.mem_of_getElem? (i := 790) (by decide +kernel), List.mem_of_getElem? (i := 1075) (by decide +kernel), List.mem_of_getElem? (i := 1076) (by decide +kernel)⟩
theorem lw_p66 : lw_okq (⟨"SortedPagesModel", "whereIs", "(I)I"⟩, 35) := ⟨⟨by decide +kernel, by decide +kernel⟩, List.mem_of_getElem? (i := 790) (by decide +kernel), List.mem_of_getElem? (i := 1079) (by decide +kernel), List.mem_of_getElem? (i := 1080) (by decide +kernel)⟩
theorem lw_p67 : lw_okq (⟨"SortedPagesModel", "wrongDown", "()I"⟩, 35) := ⟨⟨by decide +kernel, by decide +kernel⟩, List.mem_of_getElem? (i := 790) (by decide +kernel), List.mem_of_getElem? (i := 1102) (by decide +kernel), List.mem_of_getElem? (i := 1103) (by decide +kernel)⟩
theorem lw_p68 : lw_okq (⟨"SortedPagesModel", "waits", "(IIII)V"⟩, 35) := ⟨⟨by decide +kernel, by decide +kernel⟩, List.mem_of_getElem? (i := 790) (by decide +kernel), List.mem_of_getElem? (i := 1106) (by decide +kernel), List.mem_of_getElem? (i := 1107) (by decide +kernel)⟩
theorem lw_p69 : lw_okq (⟨"SortedPagesModel", "why", "(IIII)I"⟩, 35) := ⟨⟨by decide +kernel, by decide +kernel⟩, List.mem_of_getElem? (i := 790) (by decide +kernel), List.mem_of_getElem? (i := 1110) (by decide +kernel), List.mem_of_getElem? (i := 1111) (by decide +kernel)⟩
theorem lw_p70 : lw_okq (⟨"SortedPagesModel", "as", "(II)I"⟩, 35) := ⟨⟨by decide +kernel, by decide +kernel⟩, List.mem_of_getElem? (i := 790) (by decide +kernel), List.mem_of_getElem? (i := 1114) (by decide +kernel), List.mem_of_getElem? (i := 1115) (by decide +kernel)⟩
theorem lw_p71 : lw_okq (⟨"SortedPagesModel", "isRead", "(II)Z"⟩, 35) := ⟨⟨by decide +kernel, by decide +kernel⟩, List.mem_of_getElem? (i := 790) (by decide +kernel), List.mem_of_getElem? (i := 1118) (by decide +kernel), List.mem_of_getElem? (i := 1119) (by decide +kernel)⟩
theorem lw_p72 : lw_okq (⟨"SortedPagesModel", "rises", "(I)Z"⟩, 35) := ⟨⟨by decide +kernel, by decide +kernel⟩, List.mem_of_getElem? (i := 790) (by decide +kernel), List.mem_of_getElem? (i := 1122) (by decide +kernel), List.mem_of_getElem? (i := 1123) (by decide +kernel)⟩
theorem lw_p73 : lw_okq (⟨"SortedPagesModel", "compares", "(II)I"⟩, 35) := ⟨⟨by decide +kernel, by decide +kernel⟩, List.mem_of_getElem? (i := 790) (by decide +kernel), List.mem_of_getElem? (i := 1126) (by decide +kernel), List.mem_of_getElem? (i := 1127) (by decide +kernel)⟩
theorem lw_p74 : lw_okq (⟨"SortedPagesModel", "isWithin", "(III)Z"⟩, 35) := ⟨⟨by decide +kernel, by decide +kernel⟩, List.mem_of_getElem? (i := 790) (by decide +kernel), List.mem_of_getElem? (i := 1130) (by decide +kernel), List.mem_of_getElem? (i := 1131) (by decide +kernel)⟩
theorem lw_p75 : lw_okq (⟨"SortedPagesModel", "hasChildren", "(I)Z"⟩, 35) := ⟨⟨by decide +kernel, by decide +kernel⟩, List.mem_of_getElem? (i := 790) (by decide +kernel), List.mem_of_getElem? (i := 1134) (by decide +kernel), List.mem_of_getElem? (i := 1135) (by decide +kernel)⟩
theorem lw_p76 : lw_okq (⟨"SortedPagesModel", "childAs", "(II)I"⟩, 35) := ⟨⟨by decide +kernel, by decide +kernel⟩, List.mem_of_getElem? (i := 790) (by decide +kernel), List.mem_of_getElem? (i := 1138) (by decide +kernel), List.mem_of_getElem? (i := 1139) (by decide +kernel)⟩
theorem lw_p77 : lw_okq (⟨"SortedPagesModel", "childrenWait", "(IIII)V"⟩, 35) := ⟨⟨by decide +kernel, by decide +kernel⟩, List.mem_of_getElem? (i := 790) (by decide +kernel), List.mem_of_getElem? (i := 1142) (by decide +kernel), List.mem_of_getElem? (i := 1143) (by decide +kernel)⟩
theorem lw_p78 : lw_okq (⟨"SortedPagesModel", "startAs", "(II)I"⟩, 35) := ⟨⟨by decide +kernel, by decide +kernel⟩, List.mem_of_getElem? (i := 790) (by decide +kernel), List.mem_of_getElem? (i := 1146) (by decide +kernel), List.mem_of_getElem? (i := 1147) (by decide +kernel)⟩
theorem lw_p79 : lw_okq (⟨"SortedPagesModel", "wrongNext", "()I"⟩, 35) := ⟨⟨by decide +kernel, by decide +kernel⟩, List.mem_of_getElem? (i := 790) (by decide +kernel), List.mem_of_getElem? (i := 1150) (by decide +kernel), List.mem_of_getElem? (i := 1151) (by decide +kernel)⟩
def lw_privs_5 : List (MethodName × Nat) := [(⟨"SortedPagesModel", "nextLeaf", "(I)I"⟩, 35), (⟨"SortedPagesModel", "keys", "()I"⟩, 35), (⟨"SortedPagesModel", "whereIs", "(I)I"⟩, 35), (⟨"SortedPagesModel", "wrongDown", "()I"⟩, 35), (⟨"SortedPagesModel", "waits", "(IIII)V"⟩, 35), (⟨"SortedPagesModel", "why", "(IIII)I"⟩, 35), (⟨"SortedPagesModel", "as", "(II)I"⟩, 35), (⟨"SortedPagesModel", "isRead", "(II)Z"⟩, 35), (⟨"SortedPagesModel", "rises", "(I)Z"⟩, 35), (⟨"SortedPagesModel", "compares", "(II)I"⟩, 35), (⟨"SortedPagesModel", "isWithin", "(III)Z"⟩, 35), (⟨"SortedPagesModel", "hasChildren", "(I)Z"⟩, 35), (⟨"SortedPagesModel", "childAs", "(II)I"⟩, 35), (⟨"SortedPagesModel", "childrenWait", "(IIII)V"⟩, 35), (⟨"SortedPagesModel", "startAs", "(II)I"⟩, 35), (⟨"SortedPagesModel", "wrongNext", "()I"⟩, 35)]
theorem lw_r5 : ∀ q ∈ lw_privs_5, lw_okq q := List.forall_mem_cons.mpr ⟨lw_p64, List.forall_mem_cons.mpr ⟨lw_p65, List.forall_mem_cons.mpr ⟨lw_p66, List.forall_mem_cons.mpr ⟨lw_p67, List.forall_mem_cons.mpr ⟨lw_p68, List.forall_mem_cons.mpr ⟨lw_p69, List.forall_mem_cons.mpr ⟨lw_p70, List.forall_mem_cons.mpr ⟨lw_p71, List.forall_mem_cons.mpr ⟨lw_p72, List.forall_mem_cons.mpr ⟨lw_p73, List.forall_mem_cons.mpr ⟨lw_p74, List.forall_mem_cons.mpr ⟨lw_p75, List.forall_mem_cons.mpr ⟨lw_p76, List.forall_mem_cons.mpr ⟨lw_p77, List.forall_mem_cons.mpr ⟨lw_p78, List.forall_mem_cons.mpr ⟨lw_p79, fun _ h => absurd h List.not_mem_nil⟩⟩⟩⟩⟩⟩⟩⟩⟩⟩⟩⟩⟩⟩⟩⟩
theorem lw_p80 : lw_okq (⟨"SortedPagesModel", "wrongFree", "()I"⟩, 35) := ⟨⟨by decide +kernel, by decide +kernel⟩, List.mem_of_getElem? (i := 790) (by decide +kernel), List.mem_of_getElem? (i := 1154) (by decide +kernel), List.mem_of_getElem? (i := 1155) (by decide +kernel)⟩
theorem lw_p81 : lw_okq (⟨"SortedPagesModel", "usedAll", "()I"⟩, 35) := ⟨⟨by decide +kernel, by decide +kernel⟩, List.mem_of_getElem? (i := 790) (by decide +kernel), List.mem_of_getElem? (i := 1162) (by decide +kernel), List.mem_of_getElem? (i := 1163) (by decide +kernel)⟩
theorem lw_p82 : lw_okq (⟨"SortedPagesModel", "sorted", "(I)I"⟩, 35) := ⟨⟨by decide +kernel, by decide +kernel⟩, List.mem_of_getElem? (i := 790) (by decide +kernel), List.mem_of_getElem? (i := 1166) (by decide +kernel), List.mem_of_getElem? (i := 1167) (by decide +kernel)⟩
theorem lw_p83 : lw_okq (⟨"SortedPagesModel", "separators", "()I"⟩, 35) := ⟨⟨by decide +kernel, by decide +kernel⟩, List.mem_of_getElem? (i := 790) (by decide +kernel), List.mem_of_getElem? (i := 1170) (by decide +kernel), List.mem_of_getElem? (i := 1171) (by decide +kernel)⟩
theorem lw_p84 : lw_okq (⟨"SortedPagesModel", "skip", "()V"⟩, 35) := ⟨⟨by decide +kernel, by decide +kernel⟩, List.mem_of_getElem? (i := 790) (by decide +kernel), List.mem_of_getElem? (i := 1204) (by decide +kernel), List.mem_of_getElem? (i := 1205) (by decide +kernel)⟩
theorem lw_p85 : lw_okq (⟨"SortedPagesModel", "here", "()I"⟩, 35) := ⟨⟨by decide +kernel, by decide +kernel⟩, List.mem_of_getElem? (i := 790) (by decide +kernel), List.mem_of_getElem? (i := 1208) (by decide +kernel), List.mem_of_getElem? (i := 1209) (by decide +kernel)⟩
theorem lw_p86 : lw_okq (⟨"SortedPagesModel", "readsCommand", "()I"⟩, 35) := ⟨⟨by decide +kernel, by decide +kernel⟩, List.mem_of_getElem? (i := 790) (by decide +kernel), List.mem_of_getElem? (i := 1212) (by decide +kernel), List.mem_of_getElem? (i := 1213) (by decide +kernel)⟩
theorem lw_p87 : lw_okq (⟨"SortedPagesModel", "commandHere", "()I"⟩, 35) := ⟨⟨by decide +kernel, by decide +kernel⟩, List.mem_of_getElem? (i := 790) (by decide +kernel), List.mem_of_getElem? (i := 1216) (by decide +kernel), List.mem_of_getElem? (i := 1217) (by decide +kernel)⟩
theorem lw_p88 : lw_okq (⟨"SortedPagesModel", "lettersHere", "()I"⟩, 35) := ⟨⟨by decide +kernel, by decide +kernel⟩, List.mem_of_getElem? (i := 790) (by decide +kernel), List.mem_of_getElem? (i := 1220) (by decide +kernel), List.mem_of_getElem? (i := 1221) (by decide +kernel)⟩
theorem lw_p89 : lw_okq (⟨"SortedPagesModel", "letterAt", "(I)I"⟩, 35) := ⟨⟨by decide +kernel, by decide +kernel⟩, List.mem_of_getElem? (i := 790) (by decide +kernel), List.mem_of_getElem? (i := 1224) (by decide +kernel), List.mem_of_getElem? (i := 1225) (by decide +kernel)⟩
theorem lw_p90 : lw_okq (⟨"SortedPagesModel", "readsRest", "(I)Z"⟩, 35) := ⟨⟨by decide +kernel, by decide +kernel⟩, List.mem_of_getElem? (i := 790) (by decide +kernel), List.mem_of_getElem? (i := 1228) (by decide +kernel), List.mem_of_getElem? (i := 1229) (by decide +kernel)⟩
theorem lw_p91 : lw_okq (⟨"SortedPagesModel", "readsLoad", "()Z"⟩, 35) := ⟨⟨by decide +kernel, by decide +kernel⟩, List.mem_of_getElem? (i := 790) (by decide +kernel), List.mem_of_getElem? (i := 1232) (by decide +kernel), List.mem_of_getElem? (i := 1233) (by decide +kernel)⟩
theorem lw_p92 : lw_okq (⟨"SortedPagesModel", "number", "(II)Z"⟩, 35) := ⟨⟨by decide +kernel, by decide +kernel⟩, List.mem_of_getElem? (i := 790) (by decide +kernel), List.mem_of_getElem? (i := 1236) (by decide +kernel), List.mem_of_getElem? (i := 1237) (by decide +kernel)⟩
theorem lw_p93 : lw_okq (⟨"SortedPagesModel", "readsKey", "()Z"⟩, 35) := ⟨⟨by decide +kernel, by decide +kernel⟩, List.mem_of_getElem? (i := 790) (by decide +kernel), List.mem_of_getElem? (i := 1240) (by decide +kernel), List.mem_of_getElem? (i := 1241) (by decide +kernel)⟩
theorem lw_p94 : lw_okq (⟨"SortedPagesModel", "ends", "()Z"⟩, 35) := ⟨⟨by decide +kernel, by decide +kernel⟩, List.mem_of_getElem? (i := 790) (by decide +kernel), List.mem_of_getElem? (i := 1244) (by decide +kernel), List.mem_of_getElem? (i := 1245) (by decide +kernel)⟩
theorem lw_p95 : lw_okq (⟨"SortedPagesModel", "does", "(I)Z"⟩, 35) := ⟨⟨by decide +kernel, by decide +kernel⟩, List.mem_of_getElem? (i := 790) (by decide +kernel), List.mem_of_getElem? (i := 1248) (by decide +kernel), List.mem_of_getElem? (i := 1249) (by decide +kernel)⟩
def lw_privs_6 : List (MethodName × Nat) := [(⟨"SortedPagesModel", "wrongFree", "()I"⟩, 35), (⟨"SortedPagesModel", "usedAll", "()I"⟩, 35), (⟨"SortedPagesModel", "sorted", "(I)I"⟩, 35), (⟨"SortedPagesModel", "separators", "()I"⟩, 35), (⟨"SortedPagesModel", "skip", "()V"⟩, 35), (⟨"SortedPagesModel", "here", "()I"⟩, 35), (⟨"SortedPagesModel", "readsCommand", "()I"⟩, 35), (⟨"SortedPagesModel", "commandHere", "()I"⟩, 35), (⟨"SortedPagesModel", "lettersHere", "()I"⟩, 35), (⟨"SortedPagesModel", "letterAt", "(I)I"⟩, 35), (⟨"SortedPagesModel", "readsRest", "(I)Z"⟩, 35), (⟨"SortedPagesModel", "readsLoad", "()Z"⟩, 35), (⟨"SortedPagesModel", "number", "(II)Z"⟩, 35), (⟨"SortedPagesModel", "readsKey", "()Z"⟩, 35), (⟨"SortedPagesModel", "ends", "()Z"⟩, 35), (⟨"SortedPagesModel", "does", "(I)Z"⟩, 35)]
theorem lw_r6 : ∀ q ∈ lw_privs_6, lw_okq q := List.forall_mem_cons.mpr ⟨lw_p80, List.forall_mem_cons.mpr ⟨lw_p81, List.forall_mem_cons.mpr ⟨lw_p82, List.forall_mem_cons.mpr ⟨lw_p83, List.forall_mem_cons.mpr ⟨lw_p84, List.forall_mem_cons.mpr ⟨lw_p85, List.forall_mem_cons.mpr ⟨lw_p86, List.forall_mem_cons.mpr ⟨lw_p87, List.forall_mem_cons.mpr ⟨lw_p88, List.forall_mem_cons.mpr ⟨lw_p89, List.forall_mem_cons.mpr ⟨lw_p90, List.forall_mem_cons.mpr ⟨lw_p91, List.forall_mem_cons.mpr ⟨lw_p92, List.forall_mem_cons.mpr ⟨lw_p93, List.forall_mem_cons.mpr ⟨lw_p94, List.forall_mem_cons.mpr ⟨lw_p95, fun _ h => absurd h List.not_mem_nil⟩⟩⟩⟩⟩⟩⟩⟩⟩⟩⟩⟩⟩⟩⟩⟩
def lw_privs : List (MethodName × Nat) := lw_privs_1 ++ (lw_privs_2 ++ (lw_privs_3 ++ (lw_privs_4 ++ (lw_privs_5 ++ (lw_privs_6)))))
def lw_tbl : List Cond := k2_sels lw_privs ++ tables_1
theorem lw_privs_ok : ∀ q ∈ lw_privs, lw_okq q := by
  show ∀ q ∈ lw_privs_1 ++ (lw_privs_2 ++ (lw_privs_3 ++ (lw_privs_4 ++ (lw_privs_5 ++ (lw_privs_6))))), lw_okq q
  exact List.forall_mem_append.mpr ⟨lw_r1, List.forall_mem_append.mpr ⟨lw_r2, List.forall_mem_append.mpr ⟨lw_r3, List.forall_mem_append.mpr ⟨lw_r4, List.forall_mem_append.mpr ⟨lw_r5, lw_r6⟩⟩⟩⟩⟩
end
section
/-! ===== BEGIN words of one list among another's, by their places ===== -/
theorem goodIn_r {big : List Cond} (ws : List Cond) (ps : List Nat) (hp : ws = ps.filterMap (fun i => big[i]?)) (h : ws.all goodWord = true) : GoodIn big ws := by
  intro w hw
  have h1 := List.all_eq_true.mp h w hw
  rw [hp] at hw
  obtain ⟨i, -, hi⟩ := List.mem_filterMap.mp hw
  have hm : w ∈ big := by first | exact List.mem_of_getElem? hi | exact List.getElem?_mem hi
  exact ⟨hm, good_of_word h1⟩
theorem goodIn_app {big a b : List Cond} (ha : GoodIn big a) (hb : GoodIn big b) : GoodIn big (a ++ b) := fun w h => (List.mem_append.mp h).elim (ha w) (hb w)
theorem goodIn_ca {big a b : List Cond} {c : Cond} (ha : GoodIn big (c :: a)) (hb : GoodIn big b) : GoodIn big (c :: (a ++ b)) := fun w h => (List.mem_cons.mp h).elim (fun e => ha w (List.mem_cons.mpr (Or.inl e))) (fun h => (List.mem_append.mp h).elim (fun h => ha w (List.mem_cons.mpr (Or.inr h))) (hb w))
theorem goodIn_sub {big ws : List Cond} (hm : ∀ w ∈ ws, w ∈ big) (h : ws.all goodWord = true) : GoodIn big ws := fun w hw => ⟨hm w hw, good_of_word (List.all_eq_true.mp h w hw)⟩
/-! ===== END ===== -/

/-! ===== BEGIN printed: names, fields, word lists, decode rows ===== -/
def RX0 : String := "SortedPages$Changer"
def TX0 : u_T := fun k => match k with
  | 0 => ("SortedPages$Changer", "tree", "LSortedPages$Tree;", true)
  | 1 => ("SortedPages$Changer", "wide", "LSortedPages$Page;", true)
  | 2 => ("SortedPages$Changer", "separator", "LSortedPages$Key;", true)
  | 3 => ("SortedPages$Changer", "lastLeft", "LSortedPages$Key;", true)
  | 4 => ("SortedPages$Changer", "splits", "I", false)
  | 5 => ("SortedPages$Changer", "joins", "I", false)
  | _ => ("SortedPages$Changer", "shares", "I", false)
def tyX0 : Nat → FieldType := fun k => match k with
  | 0 => .object "SortedPages$Tree"
  | 1 => .object "SortedPages$Page"
  | 2 => .object "SortedPages$Key"
  | 3 => .object "SortedPages$Key"
  | 4 => .int
  | 5 => .int
  | _ => .int
abbrev wsX00 : List Cond := u_ws RX0 TX0 7
theorem nmX0 : ∀ a, a < 7 → ∀ b, b < 7 → a ≠ b → (TX0 a).2.1 ≠ (TX0 b).2.1 := by decide +kernel
theorem tyX0_ok : ∀ k, k < 7 → parseFieldDescriptor (TX0 k).2.2.1 = some (tyX0 k) := by decide +kernel
abbrev cX0_init : ByteArray := prog_2_method_1_code
def yX0_init : MethodName := ⟨RX0, "<init>", "(LSortedPages$Tree;)V"⟩
abbrev cX0_putKey : ByteArray := prog_2_method_2_code
def yX0_putKey : MethodName := ⟨RX0, "putKey", "(LSortedPages$Key;I)I"⟩
abbrev cX0_insertUpward : ByteArray := prog_2_method_3_code
def yX0_insertUpward : MethodName := ⟨RX0, "insertUpward", "(II)V"⟩
abbrev cX0_split : ByteArray := prog_2_method_4_code
def yX0_split : MethodName := ⟨RX0, "split", "(LSortedPages$Page;)I"⟩
abbrev cX0_raiseRoot : ByteArray := prog_2_method_5_code
def yX0_raiseRoot : MethodName := ⟨RX0, "raiseRoot", "(I)V"⟩
abbrev cX0_readSeparator : ByteArray := prog_2_method_6_code
def yX0_readSeparator : MethodName := ⟨RX0, "readSeparator", "(I)V"⟩
abbrev cX0_deal : ByteArray := prog_2_method_7_code
def yX0_deal : MethodName := ⟨RX0, "deal", "(ILSortedPages$Page;LSortedPages$Page;)V"⟩
abbrev cX0_takeKey : ByteArray := prog_2_method_8_code
def yX0_takeKey : MethodName := ⟨RX0, "takeKey", "(LSortedPages$Key;)I"⟩
abbrev cX0_mend : ByteArray := prog_2_method_9_code
def yX0_mend : MethodName := ⟨RX0, "mend", "(I)Z"⟩
abbrev cX0_gather : ByteArray := prog_2_method_10_code
def yX0_gather : MethodName := ⟨RX0, "gather", "(LSortedPages$Page;ILSortedPages$Page;LSortedPages$Page;)V"⟩
abbrev cX0_join : ByteArray := prog_2_method_11_code
def yX0_join : MethodName := ⟨RX0, "join", "(LSortedPages$Page;LSortedPages$Page;)V"⟩
abbrev cX0_shareAnew : ByteArray := prog_2_method_12_code
def yX0_shareAnew : MethodName := ⟨RX0, "shareAnew", "(LSortedPages$Page;ILSortedPages$Page;LSortedPages$Page;)V"⟩
abbrev cX0_lowerRoot : ByteArray := prog_2_method_13_code
def yX0_lowerRoot : MethodName := ⟨RX0, "lowerRoot", "()V"⟩
abbrev cX0_loadRow : ByteArray := prog_2_method_14_code
def yX0_loadRow : MethodName := ⟨RX0, "loadRow", "(III)V"⟩
abbrev cX0_fillLeaves : ByteArray := prog_2_method_15_code
def yX0_fillLeaves : MethodName := ⟨RX0, "fillLeaves", "(III)I"⟩
abbrev cX0_shareWithLast : ByteArray := prog_2_method_16_code
def yX0_shareWithLast : MethodName := ⟨RX0, "shareWithLast", "(I)V"⟩
abbrev cX0_coverLeaves : ByteArray := prog_2_method_17_code
def yX0_coverLeaves : MethodName := ⟨RX0, "coverLeaves", "(I)V"⟩
def RX1 : String := "SortedPages$Checker"
def TX1 : u_T := fun k => match k with
  | 0 => ("SortedPages$Checker", "tree", "LSortedPages$Tree;", true)
  | 1 => ("SortedPages$Checker", "seen", "[Z", true)
  | 2 => ("SortedPages$Checker", "leaves", "[I", true)
  | 3 => ("SortedPages$Checker", "key", "LSortedPages$Key;", true)
  | _ => ("SortedPages$Checker", "leafCount", "I", false)
def tyX1 : Nat → FieldType := fun k => match k with
  | 0 => .object "SortedPages$Tree"
  | 1 => .array .boolean
  | 2 => .array .int
  | 3 => .object "SortedPages$Key"
  | _ => .int
abbrev wsX10 : List Cond := u_ws RX1 TX1 5
theorem nmX1 : ∀ a, a < 5 → ∀ b, b < 5 → a ≠ b → (TX1 a).2.1 ≠ (TX1 b).2.1 := by decide +kernel
theorem tyX1_ok : ∀ k, k < 5 → parseFieldDescriptor (TX1 k).2.2.1 = some (tyX1 k) := by decide +kernel
abbrev cX1_init : ByteArray := prog_3_method_1_code
def yX1_init : MethodName := ⟨RX1, "<init>", "(LSortedPages$Tree;)V"⟩
abbrev cX1_firstWrong : ByteArray := prog_3_method_2_code
def yX1_firstWrong : MethodName := ⟨RX1, "firstWrong", "()I"⟩
abbrev cX1_walk : ByteArray := prog_3_method_3_code
def yX1_walk : MethodName := ⟨RX1, "walk", "(IIII)I"⟩
abbrev cX1_walkChildren : ByteArray := prog_3_method_4_code
def yX1_walkChildren : MethodName := ⟨RX1, "walkChildren", "(IIII)I"⟩
abbrev cX1_isLast : ByteArray := prog_3_method_5_code
def yX1_isLast : MethodName := ⟨RX1, "isLast", "(I)Z"⟩
abbrev cX1_comeTo : ByteArray := prog_3_method_6_code
def yX1_comeTo : MethodName := ⟨RX1, "comeTo", "(I)V"⟩
abbrev cX1_noteLeaf : ByteArray := prog_3_method_7_code
def yX1_noteLeaf : MethodName := ⟨RX1, "noteLeaf", "(I)V"⟩
abbrev cX1_whyWrong : ByteArray := prog_3_method_8_code
def yX1_whyWrong : MethodName := ⟨RX1, "whyWrong", "(LSortedPages$Page;III)I"⟩
abbrev cX1_isReadable : ByteArray := prog_3_method_9_code
def yX1_isReadable : MethodName := ⟨RX1, "isReadable", "(LSortedPages$Page;)Z"⟩
abbrev cX1_rises : ByteArray := prog_3_method_10_code
def yX1_rises : MethodName := ⟨RX1, "rises", "(LSortedPages$Page;)Z"⟩
abbrev cX1_isBetween : ByteArray := prog_3_method_11_code
def yX1_isBetween : MethodName := ⟨RX1, "isBetween", "(LSortedPages$Page;II)Z"⟩
abbrev cX1_hasWrongChild : ByteArray := prog_3_method_12_code
def yX1_hasWrongChild : MethodName := ⟨RX1, "hasWrongChild", "(LSortedPages$Page;)Z"⟩
abbrev cX1_wrongNext : ByteArray := prog_3_method_13_code
def yX1_wrongNext : MethodName := ⟨RX1, "wrongNext", "()I"⟩
abbrev cX1_strayPage : ByteArray := prog_3_method_14_code
def yX1_strayPage : MethodName := ⟨RX1, "strayPage", "()I"⟩
abbrev cX1_isBlank : ByteArray := prog_3_method_15_code
def yX1_isBlank : MethodName := ⟨RX1, "isBlank", "(LSortedPages$Page;)Z"⟩
def RX2 : String := "SortedPages$Image"
def TX2 : u_T := fun k => match k with
  | 0 => ("SortedPages$Image", "bytes", "[I", true)
  | 1 => ("SortedPages$Image", "root", "I", false)
  | 2 => ("SortedPages$Image", "levels", "I", false)
  | _ => ("SortedPages$Image", "kept", "Z", false)
def tyX2 : Nat → FieldType := fun k => match k with
  | 0 => .array .int
  | 1 => .int
  | 2 => .int
  | _ => .boolean
abbrev wsX20 : List Cond := u_ws RX2 TX2 4
theorem nmX2 : ∀ a, a < 4 → ∀ b, b < 4 → a ≠ b → (TX2 a).2.1 ≠ (TX2 b).2.1 := by decide +kernel
theorem tyX2_ok : ∀ k, k < 4 → parseFieldDescriptor (TX2 k).2.2.1 = some (tyX2 k) := by decide +kernel
abbrev cX2_init : ByteArray := prog_4_method_1_code
def yX2_init : MethodName := ⟨RX2, "<init>", "()V"⟩
abbrev cX2_copyFrom : ByteArray := prog_4_method_2_code
def yX2_copyFrom : MethodName := ⟨RX2, "copyFrom", "(LSortedPages$Tree;)V"⟩
abbrev cX2_copyTo : ByteArray := prog_4_method_3_code
def yX2_copyTo : MethodName := ⟨RX2, "copyTo", "(LSortedPages$Tree;)V"⟩
def RX3 : String := "SortedPages$Key"
def TX3 : u_T := fun k => match k with
  | 0 => ("SortedPages$Key", "letters", "[I", true)
  | _ => ("SortedPages$Key", "length", "I", false)
def tyX3 : Nat → FieldType := fun k => match k with
  | 0 => .array .int
  | _ => .int
abbrev wsX30 : List Cond := u_ws RX3 TX3 2
theorem nmX3 : ∀ a, a < 2 → ∀ b, b < 2 → a ≠ b → (TX3 a).2.1 ≠ (TX3 b).2.1 := by decide +kernel
theorem tyX3_ok : ∀ k, k < 2 → parseFieldDescriptor (TX3 k).2.2.1 = some (tyX3 k) := by decide +kernel
abbrev cX3_init : ByteArray := prog_5_method_1_code
def yX3_init : MethodName := ⟨RX3, "<init>", "()V"⟩
abbrev cX3_empty : ByteArray := prog_5_method_2_code
def yX3_empty : MethodName := ⟨RX3, "empty", "()V"⟩
abbrev cX3_add : ByteArray := prog_5_method_3_code
def yX3_add : MethodName := ⟨RX3, "add", "(I)V"⟩
abbrev cX3_at : ByteArray := prog_5_method_4_code
def yX3_at : MethodName := ⟨RX3, "at", "(I)I"⟩
abbrev cX3_copyFrom : ByteArray := prog_5_method_5_code
def yX3_copyFrom : MethodName := ⟨RX3, "copyFrom", "(LSortedPages$Key;)V"⟩
abbrev cX3_spell : ByteArray := prog_5_method_6_code
def yX3_spell : MethodName := ⟨RX3, "spell", "(II)V"⟩
abbrev cX3_cutAbove : ByteArray := prog_5_method_7_code
def yX3_cutAbove : MethodName := ⟨RX3, "cutAbove", "(LSortedPages$Key;)V"⟩
def RX4 : String := "SortedPages$Page"
def TX4 : u_T := fun k => match k with
  | _ => ("SortedPages$Page", "bytes", "[I", true)
def tyX4 : Nat → FieldType := fun k => match k with
  | _ => .array .int
abbrev wsX40 : List Cond := u_ws RX4 TX4 1
theorem nmX4 : ∀ a, a < 1 → ∀ b, b < 1 → a ≠ b → (TX4 a).2.1 ≠ (TX4 b).2.1 := by decide +kernel
theorem tyX4_ok : ∀ k, k < 1 → parseFieldDescriptor (TX4 k).2.2.1 = some (tyX4 k) := by decide +kernel
abbrev cX4_init : ByteArray := prog_6_method_1_code
def yX4_init : MethodName := ⟨RX4, "<init>", "(I)V"⟩
abbrev cX4_at : ByteArray := prog_6_method_2_code
def yX4_at : MethodName := ⟨RX4, "at", "(I)I"⟩
abbrev cX4_set : ByteArray := prog_6_method_3_code
def yX4_set : MethodName := ⟨RX4, "set", "(II)V"⟩
abbrev cX4_sort : ByteArray := prog_6_method_4_code
def yX4_sort : MethodName := ⟨RX4, "sort", "()I"⟩
abbrev cX4_entries : ByteArray := prog_6_method_5_code
def yX4_entries : MethodName := ⟨RX4, "entries", "()I"⟩
abbrev cX4_link : ByteArray := prog_6_method_6_code
def yX4_link : MethodName := ⟨RX4, "link", "()I"⟩
abbrev cX4_setLink : ByteArray := prog_6_method_7_code
def yX4_setLink : MethodName := ⟨RX4, "setLink", "(I)V"⟩
abbrev cX4_offset : ByteArray := prog_6_method_8_code
def yX4_offset : MethodName := ⟨RX4, "offset", "(I)I"⟩
abbrev cX4_used : ByteArray := prog_6_method_9_code
def yX4_used : MethodName := ⟨RX4, "used", "()I"⟩
abbrev cX4_letters : ByteArray := prog_6_method_10_code
def yX4_letters : MethodName := ⟨RX4, "letters", "(I)I"⟩
abbrev cX4_letterOf : ByteArray := prog_6_method_11_code
def yX4_letterOf : MethodName := ⟨RX4, "letterOf", "(II)I"⟩
abbrev cX4_tail : ByteArray := prog_6_method_12_code
def yX4_tail : MethodName := ⟨RX4, "tail", "(I)I"⟩
abbrev cX4_setTail : ByteArray := prog_6_method_13_code
def yX4_setTail : MethodName := ⟨RX4, "setTail", "(II)V"⟩
abbrev cX4_child : ByteArray := prog_6_method_14_code
def yX4_child : MethodName := ⟨RX4, "child", "(I)I"⟩
abbrev cX4_readKey : ByteArray := prog_6_method_15_code
def yX4_readKey : MethodName := ⟨RX4, "readKey", "(ILSortedPages$Key;)V"⟩
abbrev cX4_compare : ByteArray := prog_6_method_16_code
def yX4_compare : MethodName := ⟨RX4, "compare", "(ILSortedPages$Key;)I"⟩
abbrev cX4_isEntry : ByteArray := prog_6_method_17_code
def yX4_isEntry : MethodName := ⟨RX4, "isEntry", "(ILSortedPages$Key;)Z"⟩
abbrev cX4_entriesBelow : ByteArray := prog_6_method_18_code
def yX4_entriesBelow : MethodName := ⟨RX4, "entriesBelow", "(LSortedPages$Key;Z)I"⟩
abbrev cX4_entriesThatBegin : ByteArray := prog_6_method_19_code
def yX4_entriesThatBegin : MethodName := ⟨RX4, "entriesThatBegin", "(LSortedPages$Key;)I"⟩
abbrev cX4_release : ByteArray := prog_6_method_20_code
def yX4_release : MethodName := ⟨RX4, "release", "()V"⟩
abbrev cX4_begin : ByteArray := prog_6_method_21_code
def yX4_begin : MethodName := ⟨RX4, "begin", "(II)V"⟩
abbrev cX4_copyFrom : ByteArray := prog_6_method_22_code
def yX4_copyFrom : MethodName := ⟨RX4, "copyFrom", "(LSortedPages$Page;)V"⟩
abbrev cX4_append : ByteArray := prog_6_method_23_code
def yX4_append : MethodName := ⟨RX4, "append", "(LSortedPages$Page;II)V"⟩
abbrev cX4_insert : ByteArray := prog_6_method_24_code
def yX4_insert : MethodName := ⟨RX4, "insert", "(ILSortedPages$Key;I)V"⟩
abbrev cX4_remove : ByteArray := prog_6_method_25_code
def yX4_remove : MethodName := ⟨RX4, "remove", "(I)V"⟩
abbrev cX4_half : ByteArray := prog_6_method_26_code
def yX4_half : MethodName := ⟨RX4, "half", "()I"⟩
def RX5 : String := "SortedPages$Text"
def TX5 : u_T := fun k => match k with
  | 0 => ("SortedPages$Text", "bytes", "[I", true)
  | 1 => ("SortedPages$Text", "length", "I", false)
  | 2 => ("SortedPages$Text", "start", "I", false)
  | 3 => ("SortedPages$Text", "end", "I", false)
  | 4 => ("SortedPages$Text", "kind", "I", false)
  | 5 => ("SortedPages$Text", "figures", "I", false)
  | 6 => ("SortedPages$Text", "command", "I", false)
  | 7 => ("SortedPages$Text", "key", "LSortedPages$Key;", true)
  | _ => ("SortedPages$Text", "numbers", "[I", true)
def tyX5 : Nat → FieldType := fun k => match k with
  | 0 => .array .int
  | 1 => .int
  | 2 => .int
  | 3 => .int
  | 4 => .int
  | 5 => .int
  | 6 => .int
  | 7 => .object "SortedPages$Key"
  | _ => .array .int
abbrev wsX50 : List Cond := u_ws RX5 TX5 9
theorem nmX5 : ∀ a, a < 9 → ∀ b, b < 9 → a ≠ b → (TX5 a).2.1 ≠ (TX5 b).2.1 := by decide +kernel
theorem tyX5_ok : ∀ k, k < 9 → parseFieldDescriptor (TX5 k).2.2.1 = some (tyX5 k) := by decide +kernel
abbrev cX5_init : ByteArray := prog_7_method_1_code
def yX5_init : MethodName := ⟨RX5, "<init>", "()V"⟩
abbrev cX5_add : ByteArray := prog_7_method_2_code
def yX5_add : MethodName := ⟨RX5, "add", "(I)Z"⟩
abbrev cX5_at : ByteArray := prog_7_method_3_code
def yX5_at : MethodName := ⟨RX5, "at", "(I)I"⟩
abbrev cX5_rewind : ByteArray := prog_7_method_4_code
def yX5_rewind : MethodName := ⟨RX5, "rewind", "()V"⟩
abbrev cX5_firstFault : ByteArray := prog_7_method_5_code
def yX5_firstFault : MethodName := ⟨RX5, "firstFault", "()I"⟩
abbrev cX5_hasMore : ByteArray := prog_7_method_6_code
def yX5_hasMore : MethodName := ⟨RX5, "hasMore", "()Z"⟩
abbrev cX5_readCommand : ByteArray := prog_7_method_7_code
def yX5_readCommand : MethodName := ⟨RX5, "readCommand", "()Z"⟩
abbrev cX5_number : ByteArray := prog_7_method_8_code
def yX5_number : MethodName := ⟨RX5, "number", "(I)I"⟩
abbrev cX5_readKey : ByteArray := prog_7_method_9_code
def yX5_readKey : MethodName := ⟨RX5, "readKey", "()Z"⟩
abbrev cX5_readNumber : ByteArray := prog_7_method_10_code
def yX5_readNumber : MethodName := ⟨RX5, "readNumber", "(III)Z"⟩
abbrev cX5_readStop : ByteArray := prog_7_method_11_code
def yX5_readStop : MethodName := ⟨RX5, "readStop", "()Z"⟩
abbrev cX5_isWord : ByteArray := prog_7_method_12_code
def yX5_isWord : MethodName := ⟨RX5, "isWord", "(Ljava/lang/String;)Z"⟩
abbrev cX5_readToken : ByteArray := prog_7_method_13_code
def yX5_readToken : MethodName := ⟨RX5, "readToken", "()V"⟩
abbrev cX5_readFigures : ByteArray := prog_7_method_14_code
def yX5_readFigures : MethodName := ⟨RX5, "readFigures", "()V"⟩
abbrev cX5_isFigure : ByteArray := prog_7_method_15_code
def yX5_isFigure : MethodName := ⟨RX5, "isFigure", "(I)Z"⟩
def RX6 : String := "SortedPages$Tree"
def TX6 : u_T := fun k => match k with
  | 0 => ("SortedPages$Tree", "pages", "[LSortedPages$Page;", true)
  | 1 => ("SortedPages$Tree", "nowhere", "LSortedPages$Page;", true)
  | 2 => ("SortedPages$Tree", "way", "[I", true)
  | 3 => ("SortedPages$Tree", "slots", "[I", true)
  | 4 => ("SortedPages$Tree", "root", "I", false)
  | _ => ("SortedPages$Tree", "levels", "I", false)
def tyX6 : Nat → FieldType := fun k => match k with
  | 0 => .array (.object "SortedPages$Page")
  | 1 => .object "SortedPages$Page"
  | 2 => .array .int
  | 3 => .array .int
  | 4 => .int
  | _ => .int
abbrev wsX60 : List Cond := u_ws RX6 TX6 6
theorem nmX6 : ∀ a, a < 6 → ∀ b, b < 6 → a ≠ b → (TX6 a).2.1 ≠ (TX6 b).2.1 := by decide +kernel
theorem tyX6_ok : ∀ k, k < 6 → parseFieldDescriptor (TX6 k).2.2.1 = some (tyX6 k) := by decide +kernel
abbrev cX6_init : ByteArray := prog_8_method_1_code
def yX6_init : MethodName := ⟨RX6, "<init>", "()V"⟩
abbrev cX6_pageOf : ByteArray := prog_8_method_2_code
def yX6_pageOf : MethodName := ⟨RX6, "pageOf", "(I)LSortedPages$Page;"⟩
abbrev cX6_lowestFree : ByteArray := prog_8_method_3_code
def yX6_lowestFree : MethodName := ⟨RX6, "lowestFree", "()I"⟩
abbrev cX6_goDown : ByteArray := prog_8_method_4_code
def yX6_goDown : MethodName := ⟨RX6, "goDown", "(LSortedPages$Key;)V"⟩
abbrev cX6_numberOn : ByteArray := prog_8_method_5_code
def yX6_numberOn : MethodName := ⟨RX6, "numberOn", "(I)I"⟩
abbrev cX6_pageOn : ByteArray := prog_8_method_6_code
def yX6_pageOn : MethodName := ⟨RX6, "pageOn", "(I)LSortedPages$Page;"⟩
abbrev cX6_slotOn : ByteArray := prog_8_method_7_code
def yX6_slotOn : MethodName := ⟨RX6, "slotOn", "(I)I"⟩
abbrev cX6_firstLeaf : ByteArray := prog_8_method_8_code
def yX6_firstLeaf : MethodName := ⟨RX6, "firstLeaf", "()I"⟩
abbrev cX6_placeOfKey : ByteArray := prog_8_method_9_code
def yX6_placeOfKey : MethodName := ⟨RX6, "placeOfKey", "(I)I"⟩
abbrev cX6_pagesOfSort : ByteArray := prog_8_method_10_code
def yX6_pagesOfSort : MethodName := ⟨RX6, "pagesOfSort", "(I)I"⟩
abbrev cX6_keys : ByteArray := prog_8_method_11_code
def yX6_keys : MethodName := ⟨RX6, "keys", "()I"⟩
abbrev cX6_usedOfAll : ByteArray := prog_8_method_12_code
def yX6_usedOfAll : MethodName := ⟨RX6, "usedOfAll", "()I"⟩
abbrev cX6_separatorLetters : ByteArray := prog_8_method_13_code
def yX6_separatorLetters : MethodName := ⟨RX6, "separatorLetters", "()I"⟩
def RX7 : String := "SortedPages"
def TX7 : u_T := fun k => match k with
  | 0 => ("SortedPages", "tree", "LSortedPages$Tree;", true)
  | 1 => ("SortedPages", "changer", "LSortedPages$Changer;", true)
  | 2 => ("SortedPages", "checker", "LSortedPages$Checker;", true)
  | 3 => ("SortedPages", "text", "LSortedPages$Text;", true)
  | 4 => ("SortedPages", "images", "[LSortedPages$Image;", true)
  | _ => ("SortedPages", "spelled", "LSortedPages$Key;", true)
def tyX7 : Nat → FieldType := fun k => match k with
  | 0 => .object "SortedPages$Tree"
  | 1 => .object "SortedPages$Changer"
  | 2 => .object "SortedPages$Checker"
  | 3 => .object "SortedPages$Text"
  | 4 => .array (.object "SortedPages$Image")
  | _ => .object "SortedPages$Key"
abbrev wsX70 : List Cond := u_ws RX7 TX7 6
theorem nmX7 : ∀ a, a < 6 → ∀ b, b < 6 → a ≠ b → (TX7 a).2.1 ≠ (TX7 b).2.1 := by decide +kernel
theorem tyX7_ok : ∀ k, k < 6 → parseFieldDescriptor (TX7 k).2.2.1 = some (tyX7 k) := by decide +kernel
abbrev cX7_init : ByteArray := prog_1_method_1_code
def yX7_init : MethodName := ⟨RX7, "<init>", "()V"⟩
abbrev cX7_type : ByteArray := prog_1_method_2_code
def yX7_type : MethodName := ⟨RX7, "type", "(I)I"⟩
abbrev cX7_clear : ByteArray := prog_1_method_3_code
def yX7_clear : MethodName := ⟨RX7, "clear", "()I"⟩
abbrev cX7_run : ByteArray := prog_1_method_4_code
def yX7_run : MethodName := ⟨RX7, "run", "()I"⟩
abbrev cX7_put : ByteArray := prog_1_method_5_code
def yX7_put : MethodName := ⟨RX7, "put", "(III)I"⟩
abbrev cX7_take : ByteArray := prog_1_method_6_code
def yX7_take : MethodName := ⟨RX7, "take", "(II)I"⟩
abbrev cX7_load : ByteArray := prog_1_method_7_code
def yX7_load : MethodName := ⟨RX7, "load", "(III)I"⟩
abbrev cX7_find : ByteArray := prog_1_method_8_code
def yX7_find : MethodName := ⟨RX7, "find", "(II)I"⟩
abbrev cX7_rank : ByteArray := prog_1_method_9_code
def yX7_rank : MethodName := ⟨RX7, "rank", "(III)I"⟩
abbrev cX7_path : ByteArray := prog_1_method_10_code
def yX7_path : MethodName := ⟨RX7, "path", "(III)I"⟩
abbrev cX7_letter : ByteArray := prog_1_method_11_code
def yX7_letter : MethodName := ⟨RX7, "letter", "(II)I"⟩
abbrev cX7_value : ByteArray := prog_1_method_12_code
def yX7_value : MethodName := ⟨RX7, "value", "(I)I"⟩
abbrev cX7_page : ByteArray := prog_1_method_13_code
def yX7_page : MethodName := ⟨RX7, "page", "(II)I"⟩
abbrev cX7_byteAt : ByteArray := prog_1_method_14_code
def yX7_byteAt : MethodName := ⟨RX7, "byteAt", "(II)I"⟩
abbrev cX7_check : ByteArray := prog_1_method_15_code
def yX7_check : MethodName := ⟨RX7, "check", "(III)I"⟩
abbrev cX7_count : ByteArray := prog_1_method_16_code
def yX7_count : MethodName := ⟨RX7, "count", "(I)I"⟩
abbrev cX7_digest : ByteArray := prog_1_method_17_code
def yX7_digest : MethodName := ⟨RX7, "digest", "()J"⟩
abbrev cX7_keep : ByteArray := prog_1_method_18_code
def yX7_keep : MethodName := ⟨RX7, "keep", "(I)I"⟩
abbrev cX7_back : ByteArray := prog_1_method_19_code
def yX7_back : MethodName := ⟨RX7, "back", "(I)I"⟩
abbrev cX7_times : ByteArray := prog_1_method_20_code
def yX7_times : MethodName := ⟨RX7, "times", "(I)I"⟩
abbrev cX7_isWithin : ByteArray := prog_1_method_21_code
def yX7_isWithin : MethodName := ⟨RX7, "isWithin", "(III)Z"⟩
abbrev cX7_isByte : ByteArray := prog_1_method_22_code
def yX7_isByte : MethodName := ⟨RX7, "isByte", "(I)Z"⟩
abbrev cX7_isPage : ByteArray := prog_1_method_23_code
def yX7_isPage : MethodName := ⟨RX7, "isPage", "(I)Z"⟩
abbrev cX7_isLetter : ByteArray := prog_1_method_24_code
def yX7_isLetter : MethodName := ⟨RX7, "isLetter", "(I)Z"⟩
abbrev cX7_endsInTime : ByteArray := prog_1_method_25_code
def yX7_endsInTime : MethodName := ⟨RX7, "endsInTime", "(III)Z"⟩
abbrev cX7_isSpelled : ByteArray := prog_1_method_26_code
def yX7_isSpelled : MethodName := ⟨RX7, "isSpelled", "(II)Z"⟩
def RX8 : String := "SortedPagesModel"
def TX8 : u_T := fun k => match k with
  | 0 => ("SortedPagesModel", "bytes", "[I", true)
  | 1 => ("SortedPagesModel", "root", "I", false)
  | 2 => ("SortedPagesModel", "levels", "I", false)
  | 3 => ("SortedPagesModel", "splits", "I", false)
  | 4 => ("SortedPagesModel", "joins", "I", false)
  | 5 => ("SortedPagesModel", "shares", "I", false)
  | 6 => ("SortedPagesModel", "many", "I", false)
  | 7 => ("SortedPagesModel", "sizes", "[I", true)
  | 8 => ("SortedPagesModel", "words", "[I", true)
  | 9 => ("SortedPagesModel", "tells", "[I", true)
  | 10 => ("SortedPagesModel", "upSize", "I", false)
  | 11 => ("SortedPagesModel", "up", "[I", true)
  | 12 => ("SortedPagesModel", "keySize", "I", false)
  | 13 => ("SortedPagesModel", "key", "[I", true)
  | 14 => ("SortedPagesModel", "ways", "[I", true)
  | 15 => ("SortedPagesModel", "turns", "[I", true)
  | 16 => ("SortedPagesModel", "otherAt", "I", false)
  | 17 => ("SortedPagesModel", "otherByte", "I", false)
  | 18 => ("SortedPagesModel", "met", "[Z", true)
  | 19 => ("SortedPagesModel", "waiting", "I", false)
  | 20 => ("SortedPagesModel", "waitPage", "[I", true)
  | 21 => ("SortedPagesModel", "waitLevel", "[I", true)
  | 22 => ("SortedPagesModel", "waitLow", "[I", true)
  | 23 => ("SortedPagesModel", "waitHigh", "[I", true)
  | 24 => ("SortedPagesModel", "leafMany", "I", false)
  | 25 => ("SortedPagesModel", "leaves", "[I", true)
  | 26 => ("SortedPagesModel", "images", "[I", true)
  | 27 => ("SortedPagesModel", "imageRoot", "[I", true)
  | 28 => ("SortedPagesModel", "imageLevels", "[I", true)
  | 29 => ("SortedPagesModel", "text", "[I", true)
  | 30 => ("SortedPagesModel", "size", "I", false)
  | 31 => ("SortedPagesModel", "readAt", "I", false)
  | 32 => ("SortedPagesModel", "readNumber", "I", false)
  | 33 => ("SortedPagesModel", "readFirst", "I", false)
  | _ => ("SortedPagesModel", "readStep", "I", false)
def tyX8 : Nat → FieldType := fun k => match k with
  | 0 => .array .int
  | 1 => .int
  | 2 => .int
  | 3 => .int
  | 4 => .int
  | 5 => .int
  | 6 => .int
  | 7 => .array .int
  | 8 => .array .int
  | 9 => .array .int
  | 10 => .int
  | 11 => .array .int
  | 12 => .int
  | 13 => .array .int
  | 14 => .array .int
  | 15 => .array .int
  | 16 => .int
  | 17 => .int
  | 18 => .array .boolean
  | 19 => .int
  | 20 => .array .int
  | 21 => .array .int
  | 22 => .array .int
  | 23 => .array .int
  | 24 => .int
  | 25 => .array .int
  | 26 => .array .int
  | 27 => .array .int
  | 28 => .array .int
  | 29 => .array .int
  | 30 => .int
  | 31 => .int
  | 32 => .int
  | 33 => .int
  | _ => .int
abbrev wsX80 : List Cond := u_ws RX8 TX8 35
theorem nmX8 : ∀ a, a < 35 → ∀ b, b < 35 → a ≠ b → (TX8 a).2.1 ≠ (TX8 b).2.1 := by decide +kernel
theorem tyX8_ok : ∀ k, k < 35 → parseFieldDescriptor (TX8 k).2.2.1 = some (tyX8 k) := by decide +kernel
abbrev cX8_in : ByteArray := prog_10_method_1_code
def yX8_in : MethodName := ⟨RX8, "in", "(III)Z"⟩
abbrev cX8_init : ByteArray := prog_10_method_2_code
def yX8_init : MethodName := ⟨RX8, "<init>", "()V"⟩
abbrev cX8_at : ByteArray := prog_10_method_3_code
def yX8_at : MethodName := ⟨RX8, "at", "(II)I"⟩
abbrev cX8_clears : ByteArray := prog_10_method_4_code
def yX8_clears : MethodName := ⟨RX8, "clears", "(I)V"⟩
abbrev cX8_lowestFree : ByteArray := prog_10_method_5_code
def yX8_lowestFree : MethodName := ⟨RX8, "lowestFree", "()I"⟩
abbrev cX8_freeMany : ByteArray := prog_10_method_6_code
def yX8_freeMany : MethodName := ⟨RX8, "freeMany", "()I"⟩
abbrev cX8_startOf : ByteArray := prog_10_method_7_code
def yX8_startOf : MethodName := ⟨RX8, "startOf", "(II)I"⟩
abbrev cX8_usedOf : ByteArray := prog_10_method_8_code
def yX8_usedOf : MethodName := ⟨RX8, "usedOf", "(I)I"⟩
abbrev cX8_childOf : ByteArray := prog_10_method_9_code
def yX8_childOf : MethodName := ⟨RX8, "childOf", "(II)I"⟩
abbrev cX8_bytesOf : ByteArray := prog_10_method_10_code
def yX8_bytesOf : MethodName := ⟨RX8, "bytesOf", "(II)I"⟩
abbrev cX8_comeOut : ByteArray := prog_10_method_11_code
def yX8_comeOut : MethodName := ⟨RX8, "comeOut", "(I)V"⟩
abbrev cX8_goBack : ByteArray := prog_10_method_12_code
def yX8_goBack : MethodName := ⟨RX8, "goBack", "(IIIII)V"⟩
abbrev cX8_copies : ByteArray := prog_10_method_13_code
def yX8_copies : MethodName := ⟨RX8, "copies", "(II)V"⟩
abbrev cX8_comesIn : ByteArray := prog_10_method_14_code
def yX8_comesIn : MethodName := ⟨RX8, "comesIn", "(I[III)V"⟩
abbrev cX8_goesOut : ByteArray := prog_10_method_15_code
def yX8_goesOut : MethodName := ⟨RX8, "goesOut", "(I)V"⟩
abbrev cX8_half : ByteArray := prog_10_method_16_code
def yX8_half : MethodName := ⟨RX8, "half", "()I"⟩
abbrev cX8_shortest : ByteArray := prog_10_method_17_code
def yX8_shortest : MethodName := ⟨RX8, "shortest", "(I)I"⟩
abbrev cX8_goesUp : ByteArray := prog_10_method_18_code
def yX8_goesUp : MethodName := ⟨RX8, "goesUp", "(II)V"⟩
abbrev cX8_setUp : ByteArray := prog_10_method_19_code
def yX8_setUp : MethodName := ⟨RX8, "setUp", "(II)V"⟩
abbrev cX8_share : ByteArray := prog_10_method_20_code
def yX8_share : MethodName := ⟨RX8, "share", "(IIIII)V"⟩
abbrev cX8_spells : ByteArray := prog_10_method_21_code
def yX8_spells : MethodName := ⟨RX8, "spells", "(II)V"⟩
abbrev cX8_isSpelled : ByteArray := prog_10_method_22_code
def yX8_isSpelled : MethodName := ⟨RX8, "isSpelled", "(II)Z"⟩
abbrev cX8_against : ByteArray := prog_10_method_23_code
def yX8_against : MethodName := ⟨RX8, "against", "(II)I"⟩
abbrev cX8_goesDown : ByteArray := prog_10_method_24_code
def yX8_goesDown : MethodName := ⟨RX8, "goesDown", "()V"⟩
abbrev cX8_placeIn : ByteArray := prog_10_method_25_code
def yX8_placeIn : MethodName := ⟨RX8, "placeIn", "(I)I"⟩
abbrev cX8_isAt : ByteArray := prog_10_method_26_code
def yX8_isAt : MethodName := ⟨RX8, "isAt", "(II)Z"⟩
abbrev cX8_tellAt : ByteArray := prog_10_method_27_code
def yX8_tellAt : MethodName := ⟨RX8, "tellAt", "(II)I"⟩
abbrev cX8_valueOf : ByteArray := prog_10_method_28_code
def yX8_valueOf : MethodName := ⟨RX8, "valueOf", "()I"⟩
abbrev cX8_putKey : ByteArray := prog_10_method_29_code
def yX8_putKey : MethodName := ⟨RX8, "putKey", "(I)I"⟩
abbrev cX8_newRoot : ByteArray := prog_10_method_30_code
def yX8_newRoot : MethodName := ⟨RX8, "newRoot", "(II)V"⟩
abbrev cX8_put : ByteArray := prog_10_method_31_code
def yX8_put : MethodName := ⟨RX8, "put", "(III)I"⟩
abbrev cX8_takeKey : ByteArray := prog_10_method_32_code
def yX8_takeKey : MethodName := ⟨RX8, "takeKey", "()I"⟩
abbrev cX8_mends : ByteArray := prog_10_method_33_code
def yX8_mends : MethodName := ⟨RX8, "mends", "(I)Z"⟩
abbrev cX8_take : ByteArray := prog_10_method_34_code
def yX8_take : MethodName := ⟨RX8, "take", "(II)I"⟩
abbrev cX8_isLoad : ByteArray := prog_10_method_35_code
def yX8_isLoad : MethodName := ⟨RX8, "isLoad", "(III)Z"⟩
abbrev cX8_loads : ByteArray := prog_10_method_36_code
def yX8_loads : MethodName := ⟨RX8, "loads", "(III)I"⟩
abbrev cX8_loadsInner : ByteArray := prog_10_method_37_code
def yX8_loadsInner : MethodName := ⟨RX8, "loadsInner", "(I)V"⟩
abbrev cX8_load : ByteArray := prog_10_method_38_code
def yX8_load : MethodName := ⟨RX8, "load", "(III)I"⟩
abbrev cX8_find : ByteArray := prog_10_method_39_code
def yX8_find : MethodName := ⟨RX8, "find", "(II)I"⟩
abbrev cX8_firstLeaf : ByteArray := prog_10_method_40_code
def yX8_firstLeaf : MethodName := ⟨RX8, "firstLeaf", "()I"⟩
abbrev cX8_nextLeaf : ByteArray := prog_10_method_41_code
def yX8_nextLeaf : MethodName := ⟨RX8, "nextLeaf", "(I)I"⟩
abbrev cX8_beginsSo : ByteArray := prog_10_method_42_code
def yX8_beginsSo : MethodName := ⟨RX8, "beginsSo", "(II)Z"⟩
abbrev cX8_rank : ByteArray := prog_10_method_43_code
def yX8_rank : MethodName := ⟨RX8, "rank", "(III)I"⟩
abbrev cX8_path : ByteArray := prog_10_method_44_code
def yX8_path : MethodName := ⟨RX8, "path", "(III)I"⟩
abbrev cX8_keys : ByteArray := prog_10_method_45_code
def yX8_keys : MethodName := ⟨RX8, "keys", "()I"⟩
abbrev cX8_whereIs : ByteArray := prog_10_method_46_code
def yX8_whereIs : MethodName := ⟨RX8, "whereIs", "(I)I"⟩
abbrev cX8_letter : ByteArray := prog_10_method_47_code
def yX8_letter : MethodName := ⟨RX8, "letter", "(II)I"⟩
abbrev cX8_value : ByteArray := prog_10_method_48_code
def yX8_value : MethodName := ⟨RX8, "value", "(I)I"⟩
abbrev cX8_isPage : ByteArray := prog_10_method_49_code
def yX8_isPage : MethodName := ⟨RX8, "isPage", "(I)Z"⟩
abbrev cX8_page : ByteArray := prog_10_method_50_code
def yX8_page : MethodName := ⟨RX8, "page", "(II)I"⟩
abbrev cX8_byteAt : ByteArray := prog_10_method_51_code
def yX8_byteAt : MethodName := ⟨RX8, "byteAt", "(II)I"⟩
abbrev cX8_as : ByteArray := prog_10_method_52_code
def yX8_as : MethodName := ⟨RX8, "as", "(II)I"⟩
abbrev cX8_isRead : ByteArray := prog_10_method_53_code
def yX8_isRead : MethodName := ⟨RX8, "isRead", "(II)Z"⟩
abbrev cX8_compares : ByteArray := prog_10_method_54_code
def yX8_compares : MethodName := ⟨RX8, "compares", "(II)I"⟩
abbrev cX8_rises : ByteArray := prog_10_method_55_code
def yX8_rises : MethodName := ⟨RX8, "rises", "(I)Z"⟩
abbrev cX8_isWithin : ByteArray := prog_10_method_56_code
def yX8_isWithin : MethodName := ⟨RX8, "isWithin", "(III)Z"⟩
abbrev cX8_childAs : ByteArray := prog_10_method_57_code
def yX8_childAs : MethodName := ⟨RX8, "childAs", "(II)I"⟩
abbrev cX8_hasChildren : ByteArray := prog_10_method_58_code
def yX8_hasChildren : MethodName := ⟨RX8, "hasChildren", "(I)Z"⟩
abbrev cX8_why : ByteArray := prog_10_method_59_code
def yX8_why : MethodName := ⟨RX8, "why", "(IIII)I"⟩
abbrev cX8_waits : ByteArray := prog_10_method_60_code
def yX8_waits : MethodName := ⟨RX8, "waits", "(IIII)V"⟩
abbrev cX8_childrenWait : ByteArray := prog_10_method_61_code
def yX8_childrenWait : MethodName := ⟨RX8, "childrenWait", "(IIII)V"⟩
abbrev cX8_startAs : ByteArray := prog_10_method_62_code
def yX8_startAs : MethodName := ⟨RX8, "startAs", "(II)I"⟩
abbrev cX8_wrongDown : ByteArray := prog_10_method_63_code
def yX8_wrongDown : MethodName := ⟨RX8, "wrongDown", "()I"⟩
abbrev cX8_wrongNext : ByteArray := prog_10_method_64_code
def yX8_wrongNext : MethodName := ⟨RX8, "wrongNext", "()I"⟩
abbrev cX8_wrongFree : ByteArray := prog_10_method_65_code
def yX8_wrongFree : MethodName := ⟨RX8, "wrongFree", "()I"⟩
abbrev cX8_check : ByteArray := prog_10_method_66_code
def yX8_check : MethodName := ⟨RX8, "check", "(III)I"⟩
abbrev cX8_usedAll : ByteArray := prog_10_method_67_code
def yX8_usedAll : MethodName := ⟨RX8, "usedAll", "()I"⟩
abbrev cX8_sorted : ByteArray := prog_10_method_68_code
def yX8_sorted : MethodName := ⟨RX8, "sorted", "(I)I"⟩
abbrev cX8_separators : ByteArray := prog_10_method_69_code
def yX8_separators : MethodName := ⟨RX8, "separators", "()I"⟩
abbrev cX8_count : ByteArray := prog_10_method_70_code
def yX8_count : MethodName := ⟨RX8, "count", "(I)I"⟩
abbrev cX8_digest : ByteArray := prog_10_method_71_code
def yX8_digest : MethodName := ⟨RX8, "digest", "()J"⟩
abbrev cX8_keep : ByteArray := prog_10_method_72_code
def yX8_keep : MethodName := ⟨RX8, "keep", "(I)I"⟩
abbrev cX8_back : ByteArray := prog_10_method_73_code
def yX8_back : MethodName := ⟨RX8, "back", "(I)I"⟩
abbrev cX8_type : ByteArray := prog_10_method_74_code
def yX8_type : MethodName := ⟨RX8, "type", "(I)I"⟩
abbrev cX8_clear : ByteArray := prog_10_method_75_code
def yX8_clear : MethodName := ⟨RX8, "clear", "()I"⟩
abbrev cX8_times : ByteArray := prog_10_method_76_code
def yX8_times : MethodName := ⟨RX8, "times", "(I)I"⟩
abbrev cX8_here : ByteArray := prog_10_method_77_code
def yX8_here : MethodName := ⟨RX8, "here", "()I"⟩
abbrev cX8_skip : ByteArray := prog_10_method_78_code
def yX8_skip : MethodName := ⟨RX8, "skip", "()V"⟩
abbrev cX8_lettersHere : ByteArray := prog_10_method_79_code
def yX8_lettersHere : MethodName := ⟨RX8, "lettersHere", "()I"⟩
abbrev cX8_number : ByteArray := prog_10_method_80_code
def yX8_number : MethodName := ⟨RX8, "number", "(II)Z"⟩
abbrev cX8_ends : ByteArray := prog_10_method_81_code
def yX8_ends : MethodName := ⟨RX8, "ends", "()Z"⟩
abbrev cX8_readsKey : ByteArray := prog_10_method_82_code
def yX8_readsKey : MethodName := ⟨RX8, "readsKey", "()Z"⟩
abbrev cX8_letterAt : ByteArray := prog_10_method_83_code
def yX8_letterAt : MethodName := ⟨RX8, "letterAt", "(I)I"⟩
abbrev cX8_commandHere : ByteArray := prog_10_method_84_code
def yX8_commandHere : MethodName := ⟨RX8, "commandHere", "()I"⟩
abbrev cX8_readsLoad : ByteArray := prog_10_method_85_code
def yX8_readsLoad : MethodName := ⟨RX8, "readsLoad", "()Z"⟩
abbrev cX8_readsRest : ByteArray := prog_10_method_86_code
def yX8_readsRest : MethodName := ⟨RX8, "readsRest", "(I)Z"⟩
abbrev cX8_readsCommand : ByteArray := prog_10_method_87_code
def yX8_readsCommand : MethodName := ⟨RX8, "readsCommand", "()I"⟩
abbrev cX8_does : ByteArray := prog_10_method_88_code
def yX8_does : MethodName := ⟨RX8, "does", "(I)Z"⟩
abbrev cX8_run : ByteArray := prog_10_method_89_code
def yX8_run : MethodName := ⟨RX8, "run", "()I"⟩
def RJx145de : String := "java/io/Serializable"
def TJx145de : u_T := fun k => match k with
  | _ => ("", "", "", false)
def tyJx145de : Nat → FieldType := fun k => match k with
  | _ => .int
abbrev wsJx145de0 : List Cond := u_ws RJx145de TJx145de 0
theorem nmJx145de : ∀ a, a < 0 → ∀ b, b < 0 → a ≠ b → (TJx145de a).2.1 ≠ (TJx145de b).2.1 := by decide +kernel
theorem tyJx145de_ok : ∀ k, k < 0 → parseFieldDescriptor (TJx145de k).2.2.1 = some (tyJx145de k) := by decide +kernel
def RJx9f9b0 : String := "java/lang/CharSequence"
def TJx9f9b0 : u_T := fun k => match k with
  | _ => ("", "", "", false)
def tyJx9f9b0 : Nat → FieldType := fun k => match k with
  | _ => .int
abbrev wsJx9f9b00 : List Cond := u_ws RJx9f9b0 TJx9f9b0 0
theorem nmJx9f9b0 : ∀ a, a < 0 → ∀ b, b < 0 → a ≠ b → (TJx9f9b0 a).2.1 ≠ (TJx9f9b0 b).2.1 := by decide +kernel
theorem tyJx9f9b0_ok : ∀ k, k < 0 → parseFieldDescriptor (TJx9f9b0 k).2.2.1 = some (tyJx9f9b0 k) := by decide +kernel
def RJxb160c : String := "java/lang/Comparable"
def TJxb160c : u_T := fun k => match k with
  | _ => ("", "", "", false)
def tyJxb160c : Nat → FieldType := fun k => match k with
  | _ => .int
abbrev wsJxb160c0 : List Cond := u_ws RJxb160c TJxb160c 0
theorem nmJxb160c : ∀ a, a < 0 → ∀ b, b < 0 → a ≠ b → (TJxb160c a).2.1 ≠ (TJxb160c b).2.1 := by decide +kernel
theorem tyJxb160c_ok : ∀ k, k < 0 → parseFieldDescriptor (TJxb160c k).2.2.1 = some (tyJxb160c k) := by decide +kernel
def RJ9 : String := "java/lang/Math"
def TJ9 : u_T := fun k => match k with
  | _ => ("", "", "", false)
def tyJ9 : Nat → FieldType := fun k => match k with
  | _ => .int
abbrev wsJ90 : List Cond := u_ws RJ9 TJ9 0
theorem nmJ9 : ∀ a, a < 0 → ∀ b, b < 0 → a ≠ b → (TJ9 a).2.1 ≠ (TJ9 b).2.1 := by decide +kernel
theorem tyJ9_ok : ∀ k, k < 0 → parseFieldDescriptor (TJ9 k).2.2.1 = some (tyJ9 k) := by decide +kernel
abbrev cJ9_max_7cf53 : ByteArray := prog_11_method_65_code
def yJ9_max_7cf53 : MethodName := ⟨RJ9, "max", "(II)I"⟩
abbrev cJ9_min_7cf53 : ByteArray := prog_11_method_69_code
def yJ9_min_7cf53 : MethodName := ⟨RJ9, "min", "(II)I"⟩
def RJ0 : String := "java/lang/String"
def TJ0 : u_T := fun k => match k with
  | _ => ("", "", "", false)
def tyJ0 : Nat → FieldType := fun k => match k with
  | _ => .int
abbrev wsJ00 : List Cond := u_ws RJ0 TJ0 0
theorem nmJ0 : ∀ a, a < 0 → ∀ b, b < 0 → a ≠ b → (TJ0 a).2.1 ≠ (TJ0 b).2.1 := by decide +kernel
theorem tyJ0_ok : ∀ k, k < 0 → parseFieldDescriptor (TJ0 k).2.2.1 = some (tyJ0 k) := by decide +kernel
abbrev cJ0_length_8abf5 : ByteArray := prog_12_method_54_code
def yJ0_length_8abf5 : MethodName := ⟨RJ0, "length", "()I"⟩
abbrev cJ0_charAt_5068e : ByteArray := prog_12_method_56_code
def yJ0_charAt_5068e : MethodName := ⟨RJ0, "charAt", "(I)C"⟩
abbrev cJ0_coder_7d493 : ByteArray := prog_12_method_152_code
def yJ0_coder_7d493 : MethodName := ⟨RJ0, "coder", "()B"⟩
abbrev cJ0_isLatin1_aae02 : ByteArray := prog_12_method_154_code
def yJ0_isLatin1_aae02 : MethodName := ⟨RJ0, "isLatin1", "()Z"⟩
abbrev cJ0_checkIndex_df160 : ByteArray := prog_12_method_155_code
def yJ0_checkIndex_df160 : MethodName := ⟨RJ0, "checkIndex", "(II)V"⟩
def RJ1 : String := "java/lang/StringLatin1"
def TJ1 : u_T := fun k => match k with
  | _ => ("", "", "", false)
def tyJ1 : Nat → FieldType := fun k => match k with
  | _ => .int
abbrev wsJ10 : List Cond := u_ws RJ1 TJ1 0
theorem nmJ1 : ∀ a, a < 0 → ∀ b, b < 0 → a ≠ b → (TJ1 a).2.1 ≠ (TJ1 b).2.1 := by decide +kernel
theorem tyJ1_ok : ∀ k, k < 0 → parseFieldDescriptor (TJ1 k).2.2.1 = some (tyJ1 k) := by decide +kernel
abbrev cJ1_charAt_3b067 : ByteArray := prog_13_method_2_code
def yJ1_charAt_3b067 : MethodName := ⟨RJ1, "charAt", "([BI)C"⟩
def RJ2 : String := "java/lang/StringUTF16"
def TJ2 : u_T := fun k => match k with
  | _ => ("", "", "", false)
def tyJ2 : Nat → FieldType := fun k => match k with
  | _ => .int
abbrev wsJ20 : List Cond := u_ws RJ2 TJ2 0
theorem nmJ2 : ∀ a, a < 0 → ∀ b, b < 0 → a ≠ b → (TJ2 a).2.1 ≠ (TJ2 b).2.1 := by decide +kernel
theorem tyJ2_ok : ∀ k, k < 0 → parseFieldDescriptor (TJ2 k).2.2.1 = some (tyJ2 k) := by decide +kernel
abbrev cJ2_getChar_3b067 : ByteArray := prog_14_method_5_code
def yJ2_getChar_3b067 : MethodName := ⟨RJ2, "getChar", "([BI)C"⟩
abbrev cJ2_length_9d52b : ByteArray := prog_14_method_6_code
def yJ2_length_9d52b : MethodName := ⟨RJ2, "length", "([B)I"⟩
abbrev cJ2_charAt_3b067 : ByteArray := prog_14_method_83_code
def yJ2_charAt_3b067 : MethodName := ⟨RJ2, "charAt", "([BI)C"⟩
abbrev cJ2_checkIndex_2214a : ByteArray := prog_14_method_91_code
def yJ2_checkIndex_2214a : MethodName := ⟨RJ2, "checkIndex", "(I[B)V"⟩
def RJxfd54e : String := "java/lang/constant/Constable"
def TJxfd54e : u_T := fun k => match k with
  | _ => ("", "", "", false)
def tyJxfd54e : Nat → FieldType := fun k => match k with
  | _ => .int
abbrev wsJxfd54e0 : List Cond := u_ws RJxfd54e TJxfd54e 0
theorem nmJxfd54e : ∀ a, a < 0 → ∀ b, b < 0 → a ≠ b → (TJxfd54e a).2.1 ≠ (TJxfd54e b).2.1 := by decide +kernel
theorem tyJxfd54e_ok : ∀ k, k < 0 → parseFieldDescriptor (TJxfd54e k).2.2.1 = some (tyJxfd54e k) := by decide +kernel
def RJx3cf43 : String := "java/lang/constant/ConstantDesc"
def TJx3cf43 : u_T := fun k => match k with
  | _ => ("", "", "", false)
def tyJx3cf43 : Nat → FieldType := fun k => match k with
  | _ => .int
abbrev wsJx3cf430 : List Cond := u_ws RJx3cf43 TJx3cf43 0
theorem nmJx3cf43 : ∀ a, a < 0 → ∀ b, b < 0 → a ≠ b → (TJx3cf43 a).2.1 ≠ (TJx3cf43 b).2.1 := by decide +kernel
theorem tyJx3cf43_ok : ∀ k, k < 0 → parseFieldDescriptor (TJx3cf43 k).2.2.1 = some (tyJx3cf43 k) := by decide +kernel
def RJ7 : String := "java/util/Arrays"
def TJ7 : u_T := fun k => match k with
  | _ => ("", "", "", false)
def tyJ7 : Nat → FieldType := fun k => match k with
  | _ => .int
abbrev wsJ70 : List Cond := u_ws RJ7 TJ7 0
theorem nmJ7 : ∀ a, a < 0 → ∀ b, b < 0 → a ≠ b → (TJ7 a).2.1 ≠ (TJ7 b).2.1 := by decide +kernel
theorem tyJ7_ok : ∀ k, k < 0 → parseFieldDescriptor (TJ7 k).2.2.1 = some (tyJ7 k) := by decide +kernel
abbrev cJ7_fill_53178 : ByteArray := prog_15_method_103_code
def yJ7_fill_53178 : MethodName := ⟨RJ7, "fill", "([II)V"⟩
def RJ3 : String := "jdk/internal/util/Preconditions"
def TJ3 : u_T := fun k => match k with
  | _ => ("", "", "", false)
def tyJ3 : Nat → FieldType := fun k => match k with
  | _ => .int
abbrev wsJ30 : List Cond := u_ws RJ3 TJ3 0
theorem nmJ3 : ∀ a, a < 0 → ∀ b, b < 0 → a ≠ b → (TJ3 a).2.1 ≠ (TJ3 b).2.1 := by decide +kernel
theorem tyJ3_ok : ∀ k, k < 0 → parseFieldDescriptor (TJ3 k).2.2.1 = some (tyJ3 k) := by decide +kernel
abbrev cJ3_checkIndex_8e157 : ByteArray := prog_16_method_11_code
def yJ3_checkIndex_8e157 : MethodName := ⟨RJ3, "checkIndex", "(IILjava/util/function/BiFunction;)I"⟩
def RL : String := "SortedPagesLaw"
abbrev cL_law : ByteArray := code
def yL_law : MethodName := ⟨RL, "law", "([I)Z"⟩
end
section
/-! THE WORLD: a fixed graph of 114 cells; what changes are numbers alone: M k j, the number at slot j of cell k. Cells 0 .. 94 are the class's, 95 .. 113 the model's. -/
abbrev Mem : Type := Nat → Nat → Int
def I (z : Int) : Int32 := Int32.ofInt z
def LL (z : Int) : Int64 := Int64.ofInt z
def up (M : Mem) (k j : Nat) (z : Int) : Mem := fun a b => if a = k ∧ b = j then z else M a b
def mrg (C X : Mem) : Mem := fun k j => if k < 95 then C k j else X k j
theorem mrg_c {C X : Mem} {k j : Nat} (h : k < 95) : mrg C X k j = C k j := if_pos h
theorem mrg_x {C X : Mem} {k j : Nat} (h : 95 ≤ k) : mrg C X k j = X k j := if_neg (by omega)
theorem up_c {C X : Mem} {k j : Nat} {z : Int} (h : k < 95) : up (mrg C X) k j z = mrg (up C k j z) X := by
  funext a b
  unfold up mrg
  by_cases h1 : a = k ∧ b = j
  · obtain ⟨rfl, rfl⟩ := h1
    simp [h]
  · by_cases h2 : a < 95 <;> simp [h1, h2]
theorem up_x {C X : Mem} {k j : Nat} {z : Int} (h : 95 ≤ k) : up (mrg C X) k j z = mrg C (up X k j z) := by
  funext a b
  unfold up mrg
  by_cases h1 : a = k ∧ b = j
  · obtain ⟨rfl, rfl⟩ := h1
    have : ¬ a < 95 := by omega
    simp [this]
  · by_cases h2 : a < 95 <;> simp [h1, h2]
/-- length of a page's bytes: 33 is the wide one -/
def pl (i : Nat) : Nat := if i = 33 then 256 else 64
/-- the shape of a cell: an array (kind 0 int, 1 boolean, 2 images, 3 pages; its length), or an object (its class; of each field the cell that it names, or none: a number) -/
def shS (k : Nat) : (Nat × Nat) ⊕ (Nat × List (Option Nat)) := match k with
  | 0 => .inr (7, [some 1, some 2, some 3, some 4, some 5, some (10 + 2 * 0)])
  | 1 => .inr (6, [some 20, some (27 + 32), some 21, some 22, none, none])
  | 2 => .inr (0, [some 1, some (27 + 33), some (10 + 2 * 1), some (10 + 2 * 2), none, none, none])
  | 3 => .inr (1, [some 1, some 23, some 24, some (10 + 2 * 3), none])
  | 4 => .inr (5, [some 25, none, none, none, none, none, none, some (10 + 2 * 4), some 26])
  | 5 => .inl (2, 2)
  | 6 => .inr (2, [some 8, none, none, none])
  | 7 => .inr (2, [some 9, none, none, none])
  | 8 => .inl (0, 2048)
  | 9 => .inl (0, 2048)
  | 10 => .inr (3, [some 11, none])
  | 11 => .inl (0, 8)
  | 12 => .inr (3, [some 13, none])
  | 13 => .inl (0, 8)
  | 14 => .inr (3, [some 15, none])
  | 15 => .inl (0, 8)
  | 16 => .inr (3, [some 17, none])
  | 17 => .inl (0, 8)
  | 18 => .inr (3, [some 19, none])
  | 19 => .inl (0, 8)
  | 20 => .inl (3, 32)
  | 21 => .inl (0, 32)
  | 22 => .inl (0, 32)
  | 23 => .inl (1, 32)
  | 24 => .inl (0, 32)
  | 25 => .inl (0, 120)
  | 26 => .inl (0, 3)
  | 95 => .inr (8, [some 96, none, none, none, none, none, none, some 97, some 98, some 99, none, some 100, none, some 101, some 102, some 103, none, none, some 104, none, some 105, some 106, some 107, some 108, none, some 109, some 110, some 111, some 112, some 113, none, none, none, none, none])
  | 96 => .inl (0, 2048)
  | 97 => .inl (0, 48)
  | 98 => .inl (0, 384)
  | 99 => .inl (0, 48)
  | 100 => .inl (0, 8)
  | 101 => .inl (0, 8)
  | 102 => .inl (0, 32)
  | 103 => .inl (0, 32)
  | 104 => .inl (1, 32)
  | 105 => .inl (0, 800)
  | 106 => .inl (0, 800)
  | 107 => .inl (0, 800)
  | 108 => .inl (0, 800)
  | 109 => .inl (0, 800)
  | 110 => .inl (0, 4096)
  | 111 => .inl (0, 2)
  | 112 => .inl (0, 2)
  | 113 => .inl (0, 120)
  | _ => .inl (0, 0)
def sh (k : Nat) : (Nat × Nat) ⊕ (Nat × List (Option Nat)) :=
  if 27 ≤ k ∧ k < 61 then .inr (4, [some (61 + (k - 27))]) else if 61 ≤ k ∧ k < 95 then .inl (0, pl (k - 61)) else shS k
theorem sh_page {i : Nat} (h : i < 34) : sh (27 + i) = .inr (4, [some (61 + i)]) := by
  unfold sh
  rw [if_pos (by omega), show 27 + i - 27 = i by omega]
theorem sh_pb {i : Nat} (h : i < 34) : sh (61 + i) = .inl (0, pl i) := by
  unfold sh
  rw [if_neg (by omega), if_pos (by omega), show 61 + i - 61 = i by omega]
theorem sh_key {j : Nat} (h : j < 5) : sh (10 + 2 * j) = .inr (3, [some (11 + 2 * j), none]) := by
  rcases (show j = 0 ∨ j = 1 ∨ j = 2 ∨ j = 3 ∨ j = 4 by omega) with rfl | rfl | rfl | rfl | rfl <;> rfl
theorem sh_kl {j : Nat} (h : j < 5) : sh (11 + 2 * j) = .inl (0, 8) := by
  rcases (show j = 0 ∨ j = 1 ∨ j = 2 ∨ j = 3 ∨ j = 4 by omega) with rfl | rfl | rfl | rfl | rfl <;> rfl
theorem sh_img {j : Nat} (h : j < 2) : sh (6 + j) = .inr (2, [some (8 + j), none, none, none]) := by
  rcases (show j = 0 ∨ j = 1 by omega) with rfl | rfl <;> rfl
theorem sh_ib {j : Nat} (h : j < 2) : sh (8 + j) = .inl (0, 2048) := by
  rcases (show j = 0 ∨ j = 1 by omega) with rfl | rfl <;> rfl
/-- what is fixed in a run: where classes and slots are, the array classes, the cells' addresses, which cells may change, the texts' cells -/
abbrev GT : Type := va_G × (Nat → ClassId) × (Nat → Nat) × (Nat → Prop) × (Nat → Nat) × (Nat → Nat)
def gD (g : GT) : va_G := g.1
def gC (g : GT) : Nat → ClassId := g.2.1
def gA (g : GT) : Nat → Nat := g.2.2.1
def gS (g : GT) : Nat → Prop := g.2.2.2.1
def gK (g : GT) : Nat → Nat := g.2.2.2.2.1
def gV (g : GT) : Nat → Nat := g.2.2.2.2.2
abbrev vwCl : List vw_C := [(RX0, TX0, 7), (RX1, TX1, 5), (RX2, TX2, 4), (RX3, TX3, 2), (RX4, TX4, 1), (RX5, TX5, 9), (RX6, TX6, 6), (RX7, TX7, 6), (RX8, TX8, 35)]
def tys (g : GT) : List (ClassId × FieldType) := [(gC g 0, .int), (gC g 1, .boolean), (gC g 2, .object "SortedPages$Image"), (gC g 3, .object "SortedPages$Page")]
def fv (g : GT) (M : Mem) (k : Nat) : Nat → List (Option Nat) → List Value
  | _, [] => []
  | j, some k' :: r => .ref (gA g k') :: fv g M k (j + 1) r
  | j, none :: r => .int (I (M k j)) :: fv g M k (j + 1) r
def rb (t : Nat) : Nat := if t = 2 then 6 else 27
def av (g : GT) (M : Mem) (k t n : Nat) : vp_A := if t < 2 then (n, .inl (fun j => I (M k j))) else (n, .inr (.inr (.inr (.inr (fun j => some (gA g (rb t + j)))))))
def cellAt (g : GT) (M : Mem) (k : Nat) : va_E := match sh k with
  | .inl (t, n) => .inl (gC g t, av g M k t n)
  | .inr (ci, fl) => .inr (ci, fv g M k 0 fl)
def wsM (g : GT) (M : Mem) : va_W := (List.range 114).map (fun k => (gA g k, cellAt g M k))
theorem wsM_at {g : GT} {M : Mem} {k : Nat} (h : k < 114) : (wsM g M)[k]? = some (gA g k, cellAt g M k) := by
  simp [wsM, h]
theorem wsM_len {g : GT} {M : Mem} : (wsM g M).length = 114 := by simp [wsM]
theorem wsM_set {g : GT} {M M' : Mem} {k : Nat} {e : va_E} (h : k < 114) (he : cellAt g M' k = e) (ho : ∀ j, j ≠ k → cellAt g M' j = cellAt g M j) : (wsM g M).set k (gA g k, e) = wsM g M' := by
  apply List.ext_getElem?
  intro j
  rw [List.getElem?_set]
  by_cases hj : k = j
  · subst hj
    rw [if_pos rfl, if_pos (by rw [wsM_len]; exact h), wsM_at h, he]
  · rw [if_neg hj]
    by_cases hl : j < 114
    · rw [wsM_at hl, wsM_at hl, ho j (fun e => hj e.symm)]
    · rw [List.getElem?_eq_none (by rw [wsM_len]; omega), List.getElem?_eq_none (by rw [wsM_len]; omega)]
theorem wsM_D {g : GT} {A : Nat → Prop} {M M' : Mem} (h : va_D A (wsM g M)) : va_D A (wsM g M') := by
  have hh : ∀ (M : Mem) (k : Nat) (q : Nat × va_E), (wsM g M)[k]? = some q → k < 114 ∧ q.1 = gA g k := by
    intro M k q hq
    have hk : k < 114 := by
      rcases Nat.lt_or_ge k 114 with h | h
      · exact h
      · rw [List.getElem?_eq_none (by rw [wsM_len]; omega)] at hq; cases hq
    rw [wsM_at hk] at hq
    cases hq
    exact ⟨hk, rfl⟩
  refine ⟨fun i j p q hp hq e => ?_, fun k q hq => ?_⟩
  · obtain ⟨h1, h2⟩ := hh M' i p hp
    obtain ⟨h3, h4⟩ := hh M' j q hq
    exact h.1 i j _ _ (wsM_at h1) (wsM_at h3) (by rw [h2, h4] at e; exact e)
  · obtain ⟨h1, h2⟩ := hh M' k q hq
    rw [h2]
    exact h.2 k _ (wsM_at h1)
theorem cellAt_o {g : GT} {M : Mem} {k ci : Nat} {fl : List (Option Nat)} (h : sh k = .inr (ci, fl)) : cellAt g M k = .inr (ci, fv g M k 0 fl) := by
  unfold cellAt; rw [h]
theorem cellAt_a {g : GT} {M : Mem} {k t n : Nat} (h : sh k = .inl (t, n)) : cellAt g M k = .inl (gC g t, av g M k t n) := by
  unfold cellAt; rw [h]
theorem fv_get_n {g : GT} {M : Mem} {k : Nat} : ∀ {fl : List (Option Nat)} {b j : Nat}, fl[j]? = some none → (fv g M k b fl)[j]? = some (.int (I (M k (b + j))))
  | [], b, j, h => by simp at h
  | some x :: r, b, 0, h => by simp at h
  | none :: r, b, 0, h => by simp [fv]
  | some x :: r, b, j + 1, h => by
    have := fv_get_n (g := g) (M := M) (k := k) (fl := r) (b := b + 1) (j := j) (by simpa using h)
    simpa [fv, Nat.add_assoc, Nat.add_comm 1 j] using this
  | none :: r, b, j + 1, h => by
    have := fv_get_n (g := g) (M := M) (k := k) (fl := r) (b := b + 1) (j := j) (by simpa using h)
    simpa [fv, Nat.add_assoc, Nat.add_comm 1 j] using this
theorem fv_get_s {g : GT} {M : Mem} {k k' : Nat} : ∀ {fl : List (Option Nat)} {b j : Nat}, fl[j]? = some (some k') → (fv g M k b fl)[j]? = some (.ref (gA g k'))
  | [], b, j, h => by simp at h
  | some x :: r, b, 0, h => by simp at h; subst h; simp [fv]
  | none :: r, b, 0, h => by simp at h
  | some x :: r, b, j + 1, h => by
    have := fv_get_s (g := g) (M := M) (k := k) (k' := k') (fl := r) (b := b + 1) (j := j) (by simpa using h)
    simpa [fv] using this
  | none :: r, b, j + 1, h => by
    have := fv_get_s (g := g) (M := M) (k := k) (k' := k') (fl := r) (b := b + 1) (j := j) (by simpa using h)
    simpa [fv] using this
theorem fv_len {g : GT} {M : Mem} {k : Nat} : ∀ {fl : List (Option Nat)} {b : Nat}, (fv g M k b fl).length = fl.length
  | [], b => rfl
  | some x :: r, b => by simp [fv, fv_len (fl := r)]
  | none :: r, b => by simp [fv, fv_len (fl := r)]
theorem fv_cong {g : GT} {M M' : Mem} {k : Nat} : ∀ {fl : List (Option Nat)} {b : Nat}, (∀ j, b ≤ j → M k j = M' k j) → fv g M k b fl = fv g M' k b fl
  | [], b, h => rfl
  | some x :: r, b, h => by simp [fv, fv_cong (g := g) (M := M) (M' := M') (k := k) (fl := r) (b := b + 1) (fun j hj => h j (by omega))]
  | none :: r, b, h => by simp [fv, fv_cong (g := g) (M := M) (M' := M') (k := k) (fl := r) (b := b + 1) (fun j hj => h j (by omega)), h b (Nat.le_refl b)]
theorem fv_set {g : GT} {M : Mem} {k : Nat} {z : Int} : ∀ {fl : List (Option Nat)} {b j : Nat}, fl[j]? = some none → (fv g M k b fl).set j (.int (I z)) = fv g (up M k (b + j) z) k b fl
  | [], b, j, h => by simp at h
  | some x :: r, b, 0, h => by simp at h
  | none :: r, b, 0, h => by
    have e : fv g (up M k b z) k (b + 1) r = fv g M k (b + 1) r := fv_cong (fun j hj => by unfold up; rw [if_neg (by omega)])
    simp [fv, e, up]
  | some x :: r, b, j + 1, h => by
    have := fv_set (g := g) (M := M) (k := k) (z := z) (fl := r) (b := b + 1) (j := j) (by simpa using h)
    simp only [fv, List.set_cons_succ]
    rw [this, show b + 1 + j = b + (j + 1) by omega]
  | none :: r, b, j + 1, h => by
    have := fv_set (g := g) (M := M) (k := k) (z := z) (fl := r) (b := b + 1) (j := j) (by simpa using h)
    simp only [fv, List.set_cons_succ]
    rw [this, show b + 1 + j = b + (j + 1) by omega]
    have e : up M k (b + (j + 1)) z k b = M k b := by unfold up; rw [if_neg (by omega)]
    rw [e]
theorem cellAt_other {g : GT} {M : Mem} {k j i : Nat} {z : Int} (h : i ≠ k) : cellAt g (up M k j z) i = cellAt g M i := by
  have hu : ∀ b, up M k j z i b = M i b := fun b => by unfold up; rw [if_neg (fun q => h q.1)]
  unfold cellAt
  split
  · simp only [av, hu]
  · rw [fv_cong (fun b _ => hu b)]
theorem ws_putf {g : GT} {M : Mem} {k j ci : Nat} {fl : List (Option Nat)} {z : Int} (hk : k < 114) (h : sh k = .inr (ci, fl)) (hj : fl[j]? = some none) :
    (wsM g M).set k (gA g k, .inr (ci, (fv g M k 0 fl).set j (.int (I z)))) = wsM g (up M k j z) := by
  refine wsM_set hk ?_ (fun i hi => cellAt_other hi)
  rw [cellAt_o h, fv_set hj, Nat.zero_add]
theorem ws_puta {g : GT} {M : Mem} {k j t n : Nat} {z : Int} (hk : k < 114) (h : sh k = .inl (t, n)) (ht : t < 2) :
    (wsM g M).set k (gA g k, .inl (gC g t, n, .inl (upd (fun b => I (M k b)) j (I z)))) = wsM g (up M k j z) := by
  refine wsM_set hk ?_ (fun i hi => cellAt_other hi)
  rw [cellAt_a h, av, if_pos ht]
  congr 4
  funext b
  by_cases hb : b = j
  · subst hb
    simp [up, upd]
  · simp [up, upd, hb]
/-! the tables: words that go from caller to callee (TB), those that don't (NS: links between nest mates) -/
def TB : List Cond := lw_tbl.filter goodWord
def isN : Cond → Bool
  | .fieldLinkNest .. => true
  | .methodLinkNest .. => true
  | _ => false
def NS : List Cond := lw_tbl.filter isN
theorem TB_good {w : Cond} (h : w ∈ TB) : goodWord w = true := (List.mem_filter.mp h).2
theorem TB_GoodIn {ws : List Cond} (h : ∀ w ∈ ws, w ∈ TB) : GoodIn TB ws := fun w hw => ⟨h w hw, good_of_word (TB_good (h w hw))⟩
def txB : List (List Int32) := [[112, 117, 116], [116, 97, 107, 101], [108, 111, 97, 100]]
def txL : List Nat := [3, 4, 4]
def Ext (g : GT) (U : State) : Prop := (∀ w ∈ NS, va_Nw w U) ∧ vk_S 3 txL txB (gK g) (gV g) (gS g) U U.heap ∧ vk_R RX5 51 "put" (gK g 0) U ∧ vk_R RX5 70 "take" (gK g 1) U ∧ vk_R RX5 72 "load" (gK g 2) U ∧ va_Z "java/lang/String" "COMPACT_STRINGS" "Z" (.int 1) (gS g) U U.heap
def World (g : GT) (M : Mem) (U : State) : Prop := va_P (gD g) vwCl (wsM g M) U.heap ∧ va_K (gD g) vwCl (tys g) U ∧ va_D (gS g) (wsM g M) ∧ Ext g U
theorem NS_warm {w : Cond} {s U : State} (hw : isN w = true) (hW : s.WarmedH U.vm) (h : va_Nw w s) : va_Nw w U := by
  cases w <;> first | exact va_Nw.warmF hW h | exact va_Nw.warmM hW h | (simp [isN] at hw)
theorem Ext.warm {g : GT} {s t : State} (h : Ext g s) (hW : s.WarmedH t.vm) (hk : ∀ q : Nat, q < s.heap.size → ¬ gS g q → t.heap[q]? = s.heap[q]?) : Ext g t := by
  obtain ⟨h1, h2, h3, h4, h5, h6⟩ := h
  exact ⟨fun w hw => NS_warm (List.mem_filter.mp hw).2 hW (h1 w hw), vk_S.moved hW.alike (vk_S.kept h2 hk), vk_R.warm hW h3, vk_R.warm hW h4, vk_R.warm hW h5, va_Z.moved hW.alike (va_Z.kept h6 hk)⟩
theorem Ext.same {g : GT} {s t : State} (h : Ext g s) (hv : s.vm = t.vm) (hh : t.heap = s.heap) : Ext g t := by
  obtain ⟨h1, h2, h3, h4, h5, h6⟩ := h
  have hk : ∀ q : Nat, q < s.heap.size → ¬ gS g q → t.heap[q]? = s.heap[q]? := fun q _ _ => by rw [hh]
  have hal : s.vm.Alike t.vm := by rw [hv]; exact Vm.Alike.refl _
  exact ⟨fun w hw => va_Nw.same (by have := (List.mem_filter.mp hw).2; cases w <;> first | rfl | (simp [isN] at this)) hv (h1 w hw), vk_S.moved hal (vk_S.kept h2 hk), vk_R.same hv.symm h3, vk_R.same hv.symm h4, vk_R.same hv.symm h5, va_Z.moved hal (va_Z.kept h6 hk)⟩
end
section
/-! ROWS: an instruction each, over the flat memory. K bundles what a walk holds fixed. -/
abbrev KT : Type := Program × Launch × Env × Room × State × MethodId × Array Value × List Frame × Method × Code × (State → Prop) × Nat
def kP (K : KT) : Program := K.1
def kL (K : KT) : Launch := K.2.1
def kE (K : KT) : Env := K.2.2.1
def kR (K : KT) : Room := K.2.2.2.1
def kS (K : KT) : State := K.2.2.2.2.1
def kM (K : KT) : MethodId := K.2.2.2.2.2.1
def kA (K : KT) : Array Value := K.2.2.2.2.2.2.1
def kB (K : KT) : List Frame := K.2.2.2.2.2.2.2.1
def kMe (K : KT) : Method := K.2.2.2.2.2.2.2.2.1
def kC (K : KT) : Code := K.2.2.2.2.2.2.2.2.2.1
def kQ (K : KT) : State → Prop := K.2.2.2.2.2.2.2.2.2.2.1
def kN (K : KT) : Nat := K.2.2.2.2.2.2.2.2.2.2.2
def lh (ls : Array Slot) (n : Nat) (lv : List (Option Value)) : Prop := ls.size = n ∧ lv_wf ls ∧ ∀ (i : Nat) (v : Value), lv[i]? = some (some v) → ls[i]? = some (.val v)
def Wn (K : KT) (g : GT) (M : Mem) (pc : Nat) (lv : List (Option Value)) (st : List Value) : Prop :=
  ∀ (H : Heap) (locs : List Loc) (ls : Array Slot), va_P (gD g) vwCl (wsM g M) H → va_S (gS g) (kS K).heap H locs → lh ls (kN K) lv → W (kP K) (kL K) (kE K) (kR K) (kS K) (kM K) (kA K) (kB K) (kMe K) (kC K) H locs 0 0 (kQ K) (F0 (kM K) pc ls st)
def rm (d : Nat) : Room := { frames := d, cells := 0, slots := 0, locals := 40 * d }
def Kok (K : KT) (g : GT) (cc : ByteArray) (own : String) (d : Nat) : Prop :=
  (kP K).tables.exec = Jvm.exec ∧ (kC K).code = cc ∧ (kC K).maxLocals = kN K ∧ (kS K).vm.findClass own = some (kM K).cls ∧ (∀ w ∈ TB, w.before (kA K) (kS K) = true) ∧ va_K (gD g) vwCl (tys g) (kS K) ∧ (∀ M : Mem, va_D (gS g) (wsM g M)) ∧ Ext g (kS K) ∧ (kMe K).locks = false ∧ d ≤ (kR K).frames ∧ 40 * d ≤ (kR K).locals
section RW
variable {K : KT} {g : GT} {cc : ByteArray} {own : String} {d : Nat} {M : Mem} {pc : Nat} {lv : List (Option Value)} {st : List Value}
theorem Kok.x (h : Kok K g cc own d) : (kP K).tables.exec = Jvm.exec := h.1
theorem Kok.b (h : Kok K g cc own d) : (kC K).code = cc := h.2.1
theorem Kok.ml (h : Kok K g cc own d) : (kC K).maxLocals = kN K := h.2.2.1
theorem Kok.o (h : Kok K g cc own d) : (kS K).vm.findClass own = some (kM K).cls := h.2.2.2.1
theorem Kok.t (h : Kok K g cc own d) : ∀ w ∈ TB, w.before (kA K) (kS K) = true := h.2.2.2.2.1
theorem Kok.k (h : Kok K g cc own d) : va_K (gD g) vwCl (tys g) (kS K) := h.2.2.2.2.2.1
theorem Kok.dd (h : Kok K g cc own d) (M : Mem) : va_D (gS g) (wsM g M) := h.2.2.2.2.2.2.1 M
theorem Kok.e (h : Kok K g cc own d) : Ext g (kS K) := h.2.2.2.2.2.2.2.1
theorem Kok.lk (h : Kok K g cc own d) : (kMe K).locks = false := h.2.2.2.2.2.2.2.2.1
theorem Kok.f (h : Kok K g cc own d) : d ≤ (kR K).frames := h.2.2.2.2.2.2.2.2.2.1
theorem Kok.l (h : Kok K g cc own d) : 40 * d ≤ (kR K).locals := h.2.2.2.2.2.2.2.2.2.2
/-- numbers -/
abbrev R32 (z : Int) : Prop := -2147483648 ≤ z ∧ z < 2147483648
theorem I_add (a b : Int) : I a + I b = I (a + b) := by unfold I; exact (Int32.ofInt_add a b).symm
theorem I_sub (a b : Int) : I a - I b = I (a - b) := by unfold I; exact (Int32.ofInt_sub a b).symm
theorem I_mul (a b : Int) : I a * I b = I (a * b) := by unfold I; exact (Int32.ofInt_mul a b).symm
theorem I_to {a : Int} (h : R32 a) : (I a).toInt = a := by
  unfold I; exact Int32.toInt_ofInt_of_le (by have := h.1; simpa using this) (by have := h.2; simpa using this)
theorem I_lt {a b : Int} (ha : R32 a) (hb : R32 b) : I a < I b ↔ a < b := by rw [Int32.lt_iff_toInt_lt, I_to ha, I_to hb]
theorem I_le {a b : Int} (ha : R32 a) (hb : R32 b) : I a ≤ I b ↔ a ≤ b := by rw [Int32.le_iff_toInt_le, I_to ha, I_to hb]
theorem I_eq {a b : Int} (ha : R32 a) (hb : R32 b) : I a = I b ↔ a = b := by
  constructor
  · intro h
    have := congrArg Int32.toInt h
    rwa [I_to ha, I_to hb] at this
  · intro h; rw [h]
theorem I_0 : (0 : Int32) = I 0 := by decide
theorem R32_0 : R32 0 := by unfold R32; omega
theorem I_nat {a : Int} {n : Nat} (h0 : 0 ≤ a) (h : a < n) (hn : n < 2147483648) : vp_in (I a) n ∧ (I a).toNatClampNeg = a.toNat := by
  have hr : R32 a := ⟨by omega, by omega⟩
  refine ⟨?_, ?_⟩
  · rw [vp_in_iff, I_to hr]; omega
  · show (I a).toInt.toNat = a.toNat
    rw [I_to hr]
/-! pure answers: f's value is none where the machine would throw, or a number is out of its range at a test -/
def wpO {α : Type} (o : Option (Mem × α)) (Q : Mem → α → Prop) : Prop := ∃ C z, o = some (C, z) ∧ Q C z
def bd {α β : Type} (o : Option (Mem × α)) (k : Mem → α → Option (Mem × β)) : Option (Mem × β) := match o with
  | none => none
  | some (C, z) => k C z
def cLt {β : Type} (a b : Int) (x y : Option β) : Option β := if R32 a ∧ R32 b then (if a < b then x else y) else none
def cEq {β : Type} (a b : Int) (x y : Option β) : Option β := if R32 a ∧ R32 b then (if a = b then x else y) else none
def ix {β : Type} (i : Int) (n : Nat) (x : Option β) : Option β := if 0 ≤ i ∧ i < n then x else none
def dv {β : Type} (a : Int) (x : Option β) : Option β := if 0 ≤ a ∧ a < 2147483648 then x else none
def rg {β : Type} (a b : Int) (x : Option β) : Option β := if R32 a ∧ R32 b then x else none
def jn {α β : Type} (k : α) (b : α → β) : β := b k
theorem wpO_some {α : Type} {C : Mem} {z : α} {Q : Mem → α → Prop} (h : wpO (some (C, z)) Q) : Q C z := by
  obtain ⟨C', z', h1, h2⟩ := h
  cases h1; exact h2
theorem wpO_none {α : Type} {Q : Mem → α → Prop} (h : wpO (none : Option (Mem × α)) Q) : False := by
  obtain ⟨C', z', h1, h2⟩ := h
  cases h1
theorem wpO_bd {α β : Type} {o : Option (Mem × α)} {k : Mem → α → Option (Mem × β)} {Q : Mem → β → Prop} (h : wpO (bd o k) Q) : wpO o (fun C z => wpO (k C z) Q) := by
  match o, h with
  | none, h => exact (wpO_none h).elim
  | some (C, z), h => exact ⟨C, z, rfl, h⟩
theorem wpO_ix {α : Type} {i : Int} {n : Nat} {x : Option (Mem × α)} {Q : Mem → α → Prop} (h : wpO (ix i n x) Q) : (0 ≤ i ∧ i < n) ∧ wpO x Q := by
  unfold ix at h
  by_cases hc : 0 ≤ i ∧ i < n
  · rw [if_pos hc] at h; exact ⟨hc, h⟩
  · rw [if_neg hc] at h; exact (wpO_none h).elim
theorem wpO_dv {α : Type} {a : Int} {x : Option (Mem × α)} {Q : Mem → α → Prop} (h : wpO (dv a x) Q) : (0 ≤ a ∧ a < 2147483648) ∧ wpO x Q := by
  unfold dv at h
  by_cases hc : 0 ≤ a ∧ a < 2147483648
  · rw [if_pos hc] at h; exact ⟨hc, h⟩
  · rw [if_neg hc] at h; exact (wpO_none h).elim
theorem wpO_rg {α : Type} {a b : Int} {x : Option (Mem × α)} {Q : Mem → α → Prop} (h : wpO (rg a b x) Q) : (R32 a ∧ R32 b) ∧ wpO x Q := by
  unfold rg at h
  by_cases hc : R32 a ∧ R32 b
  · rw [if_pos hc] at h; exact ⟨hc, h⟩
  · rw [if_neg hc] at h; exact (wpO_none h).elim
theorem wpO_lt {α : Type} {a b : Int} {x y : Option (Mem × α)} {Q : Mem → α → Prop} (h : wpO (cLt a b x y) Q) : (R32 a ∧ R32 b) ∧ (a < b → wpO x Q) ∧ (¬ a < b → wpO y Q) := by
  unfold cLt at h
  by_cases hc : R32 a ∧ R32 b
  · rw [if_pos hc] at h
    refine ⟨hc, fun h1 => ?_, fun h1 => ?_⟩
    · rw [if_pos h1] at h; exact h
    · rw [if_neg h1] at h; exact h
  · rw [if_neg hc] at h; exact (wpO_none h).elim
theorem wpO_eq {α : Type} {a b : Int} {x y : Option (Mem × α)} {Q : Mem → α → Prop} (h : wpO (cEq a b x y) Q) : (R32 a ∧ R32 b) ∧ (a = b → wpO x Q) ∧ (¬ a = b → wpO y Q) := by
  unfold cEq at h
  by_cases hc : R32 a ∧ R32 b
  · rw [if_pos hc] at h
    refine ⟨hc, fun h1 => ?_, fun h1 => ?_⟩
    · rw [if_pos h1] at h; exact h
    · rw [if_neg h1] at h; exact h
  · rw [if_neg hc] at h; exact (wpO_none h).elim
theorem r_jn {α β : Type} {k : α} {b : α → Option (Mem × β)} {Q : Mem → β → Prop} {P : Prop} (J : α → Prop) (h : wpO (jn k b) Q) (hJ : J k) (hb : J k → wpO (b k) Q → P) : P := hb hJ h
/-! locals -/
def noL (lv : List (Option Value)) : Bool := lv.all (fun o => match o with | some (.long _) => false | some (.double _) => false | _ => true)
theorem noL_cat {lv : List (Option Value)} (h : noL lv = true) {i : Nat} {v : Value} (hv : lv[i]? = some (some v)) : ¬ v.category = 2 := by
  have h1 := List.all_eq_true.mp h _ (List.mem_of_getElem? hv)
  cases v <;> simp_all [Value.category]
def ta (lv : List (Option Value)) : List (Nat × Value) := (List.range lv.length).filterMap (fun i => match lv[i]? with | some (some v) => some (i, v) | _ => none)
theorem ta_mem {lv : List (Option Value)} {i : Nat} {v : Value} : (i, v) ∈ ta lv ↔ lv[i]? = some (some v) := by
  unfold ta
  rw [List.mem_filterMap]
  constructor
  · rintro ⟨j, hj, h⟩
    split at h
    · rename_i w hw
      cases h; exact hw
    · cases h
  · intro h
    refine ⟨i, List.mem_range.mpr ?_, by rw [h]⟩
    rcases Nat.lt_or_ge i lv.length with q | q
    · exact q
    · rw [List.getElem?_eq_none q] at h; cases h
theorem lh.has {ls : Array Slot} {n : Nat} (h : lh ls n lv) : lv_has ls n (ta lv) := ⟨h.1, h.2.1, fun q hq => h.2.2 q.1 q.2 (ta_mem.mp hq)⟩
theorem lh.sub {ls : Array Slot} {n : Nat} {lv' : List (Option Value)} (h : lh ls n lv) (hs : ∀ (i : Nat) (v : Value), lv'[i]? = some (some v) → lv[i]? = some (some v)) : lh ls n lv' := ⟨h.1, h.2.1, fun i v hv => h.2.2 i v (hs i v hv)⟩
theorem lh.put {ls : Array Slot} {n i : Nat} {v : Value} {lv' : List (Option Value)} (hL : noL lv = true) (h : lv_has ls n ((i, v) :: (ta lv).filter (fun q => !(q.1 == i) && !(q.1 + 1 == i && q.2.category == 2)))) (hl : lv.set i (some v) = lv') : lh ls n lv' := by
  subst hl
  refine ⟨h.1, h.2.1, fun j w hw => ?_⟩
  rw [List.getElem?_set] at hw
  by_cases hj : i = j
  · subst hj
    rw [if_pos rfl] at hw
    split at hw
    · cases hw
      exact h.2.2 (i, v) List.mem_cons_self
    · cases hw
  · rw [if_neg hj] at hw
    refine h.2.2 (j, w) (List.mem_cons_of_mem _ (List.mem_filter.mpr ⟨ta_mem.mpr hw, ?_⟩))
    have h2 := noL_cat hL hw
    simp
    exact ⟨fun e => hj e.symm, Or.inr h2⟩
theorem r_sub {lv' : List (Option Value)} (hs : ∀ (i : Nat) (v : Value), lv'[i]? = some (some v) → lv[i]? = some (some v)) (k : Wn K g M pc lv' st) : Wn K g M pc lv st := fun H locs ls hP hS hl => k H locs ls hP hS (hl.sub hs)
/-- fewer locals: place by place -/
def lsub : List (Option Value) → List (Option Value) → Prop
  | [], _ => True
  | none :: r, [] => lsub r []
  | none :: r, _ :: r' => lsub r r'
  | some _ :: _, [] => False
  | some v :: r, w :: r' => w = some v ∧ lsub r r'
theorem lsub_get : ∀ {a b : List (Option Value)}, lsub a b → ∀ (i : Nat) (v : Value), a[i]? = some (some v) → b[i]? = some (some v)
  | [], _, _, i, v, h => by simp at h
  | none :: r, [], hs, 0, v, h => by simp at h
  | none :: r, [], hs, i + 1, v, h => by
    have := lsub_get (a := r) (b := []) hs i v (by simpa using h)
    simp at this
  | none :: r, _ :: r', hs, 0, v, h => by simp at h
  | none :: r, _ :: r', hs, i + 1, v, h => by
    have := lsub_get (a := r) (b := r') hs i v (by simpa using h)
    simpa using this
  | some _ :: _, [], hs, i, v, h => hs.elim
  | some w :: r, x :: r', hs, 0, v, h => by
    simp at h; subst h
    simp [hs.1]
  | some w :: r, x :: r', hs, i + 1, v, h => by
    have := lsub_get (a := r) (b := r') hs.2 i v (by simpa using h)
    simpa using this
theorem r_ls {lv' : List (Option Value)} (hs : lsub lv' lv) (k : Wn K g M pc lv' st) : Wn K g M pc lv st := r_sub (lsub_get hs) k
/-! constants, locals, stack, arithmetic -/
theorem r_iconst (hK : Kok K g cc own d) {n : Int} (hd : decode cc pc = .ok (.iconst n, 1)) (k : Wn K g M (pc + 1) lv (.int (I n) :: st)) : Wn K g M pc lv st :=
  fun H locs ls hP hS hl => lv_iconst hK.x hK.b hd rfl (k H locs ls hP hS hl)
theorem r_bipush (hK : Kok K g cc own d) {n : Int} (hd : decode cc pc = .ok (.bipush n, 2)) (hv : (Int8.ofInt n).toInt32 = I n) (k : Wn K g M (pc + 2) lv (.int (I n) :: st)) : Wn K g M pc lv st :=
  fun H locs ls hP hS hl => lv_bipush hK.x hK.b hd hv (k H locs ls hP hS hl)
theorem r_sipush (hK : Kok K g cc own d) {n : Int} (hd : decode cc pc = .ok (.sipush n, 3)) (hv : (Int16.ofInt n).toInt32 = I n) (k : Wn K g M (pc + 3) lv (.int (I n) :: st)) : Wn K g M pc lv st :=
  fun H locs ls hP hS hl => lv_sipush hK.x hK.b hd hv (k H locs ls hP hS hl)
theorem r_ldc (hK : Kok K g cc own d) {idx : Nat} {n : Int} (hw : Cond.constant own idx (I n) ∈ TB) (hd : decode cc pc = .ok (.ldc idx, 2)) (k : Wn K g M (pc + 2) lv (.int (I n) :: st)) : Wn K g M pc lv st :=
  fun H locs ls hP hS hl => lv_ldc hK.x hK.b hK.o (hK.t _ hw) hd (k H locs ls hP hS hl)
theorem r_ldc2 (hK : Kok K g cc own d) {idx : Nat} {n : Int} (hw : Cond.constantLong own idx (LL n) ∈ TB) (hd : decode cc pc = .ok (.ldc2_w idx, 3)) (k : Wn K g M (pc + 3) lv (.long (LL n) :: st)) : Wn K g M pc lv st :=
  fun H locs ls hP hS hl => lv_ldc2 hK.x hK.b hK.o (hK.t _ hw) hd (k H locs ls hP hS hl)
theorem r_iload_n (hK : Kok K g cc own d) {i : Fin 4} {z : Int32} (hd : decode cc pc = .ok (.iload_n i, 1)) (hv : lv[(i : Nat)]? = some (some (.int z))) (k : Wn K g M (pc + 1) lv (.int z :: st)) : Wn K g M pc lv st :=
  fun H locs ls hP hS hl => lv_iload_n hK.x hK.b hd rfl (hl.2.2 _ _ hv) (k H locs ls hP hS hl)
theorem r_iload (hK : Kok K g cc own d) {i : Nat} {z : Int32} (hd : decode cc pc = .ok (.iload i, 2)) (hv : lv[i]? = some (some (.int z))) (k : Wn K g M (pc + 2) lv (.int z :: st)) : Wn K g M pc lv st :=
  fun H locs ls hP hS hl => lv_iload hK.x hK.b hd (hl.2.2 _ _ hv) (k H locs ls hP hS hl)
theorem r_aload_n (hK : Kok K g cc own d) {i : Fin 4} {a : Nat} (hd : decode cc pc = .ok (.aload_n i, 1)) (hv : lv[(i : Nat)]? = some (some (.ref a))) (k : Wn K g M (pc + 1) lv (.ref a :: st)) : Wn K g M pc lv st :=
  fun H locs ls hP hS hl => lv_aload_n hK.x hK.b hd rfl (hl.2.2 _ _ hv) (k H locs ls hP hS hl)
theorem r_aload (hK : Kok K g cc own d) {i : Nat} {a : Nat} (hd : decode cc pc = .ok (.aload i, 2)) (hv : lv[i]? = some (some (.ref a))) (k : Wn K g M (pc + 2) lv (.ref a :: st)) : Wn K g M pc lv st :=
  fun H locs ls hP hS hl => lv_aload hK.x hK.b hd (hl.2.2 _ _ hv) (k H locs ls hP hS hl)
theorem r_istore_n (hK : Kok K g cc own d) {i : Fin 4} {z : Int32} {lv' : List (Option Value)} (hd : decode cc pc = .ok (.istore_n i, 1)) (hn : (i : Nat) < kN K) (hL : noL lv = true) (hl' : lv.set (i : Nat) (some (.int z)) = lv') (k : Wn K g M (pc + 1) lv' st) : Wn K g M pc lv (.int z :: st) :=
  fun H locs ls hP hS hl => lv_istore_n hK.x hK.b hd rfl hl.has hn rfl (fun ls' h => k H locs ls' hP hS (lh.put hL h hl'))
theorem r_istore (hK : Kok K g cc own d) {i : Nat} {z : Int32} {lv' : List (Option Value)} (hd : decode cc pc = .ok (.istore i, 2)) (hn : i < kN K) (hL : noL lv = true) (hl' : lv.set i (some (.int z)) = lv') (k : Wn K g M (pc + 2) lv' st) : Wn K g M pc lv (.int z :: st) :=
  fun H locs ls hP hS hl => lv_istore hK.x hK.b hd hl.has hn rfl (fun ls' h => k H locs ls' hP hS (lh.put hL h hl'))
theorem r_astore_n (hK : Kok K g cc own d) {i : Fin 4} {a : Nat} {lv' : List (Option Value)} (hd : decode cc pc = .ok (.astore_n i, 1)) (hn : (i : Nat) < kN K) (hL : noL lv = true) (hl' : lv.set (i : Nat) (some (.ref a)) = lv') (k : Wn K g M (pc + 1) lv' st) : Wn K g M pc lv (.ref a :: st) :=
  fun H locs ls hP hS hl => lv_astore_n hK.x hK.b hd rfl hl.has hn rfl (fun ls' h => k H locs ls' hP hS (lh.put hL h hl'))
theorem r_astore (hK : Kok K g cc own d) {i : Nat} {a : Nat} {lv' : List (Option Value)} (hd : decode cc pc = .ok (.astore i, 2)) (hn : i < kN K) (hL : noL lv = true) (hl' : lv.set i (some (.ref a)) = lv') (k : Wn K g M (pc + 2) lv' st) : Wn K g M pc lv (.ref a :: st) :=
  fun H locs ls hP hS hl => lv_astore hK.x hK.b hd hl.has hn rfl (fun ls' h => k H locs ls' hP hS (lh.put hL h hl'))
theorem r_iinc (hK : Kok K g cc own d) {i : Nat} {n z : Int} {lv' : List (Option Value)} (hd : decode cc pc = .ok (.iinc i n, 3)) (hn : i < kN K) (hL : noL lv = true) (hv : lv[i]? = some (some (.int (I z)))) (hl' : lv.set i (some (.int (I (z + n)))) = lv') (k : Wn K g M (pc + 3) lv' st) : Wn K g M pc lv st := by
  intro H locs ls hP hS hl
  obtain ⟨q, hq⟩ := List.getElem?_of_mem (ta_mem.mpr hv)
  exact lv_iinc (k := q) hK.x hK.b hd hl.has hq (v := I (z + n)) (I_add z n) hn rfl (fun ls' h => k H locs ls' hP hS (lh.put hL h hl'))
theorem r_iadd (hK : Kok K g cc own d) {a b : Int} (hd : decode cc pc = .ok (.iadd, 1)) (k : Wn K g M (pc + 1) lv (.int (I (a + b)) :: st)) : Wn K g M pc lv (.int (I b) :: .int (I a) :: st) :=
  fun H locs ls hP hS hl => lv_iadd hK.x hK.b hd (by rw [I_add]; exact k H locs ls hP hS hl)
theorem r_isub (hK : Kok K g cc own d) {a b : Int} (hd : decode cc pc = .ok (.isub, 1)) (k : Wn K g M (pc + 1) lv (.int (I (a - b)) :: st)) : Wn K g M pc lv (.int (I b) :: .int (I a) :: st) :=
  fun H locs ls hP hS hl => lv_isub hK.x hK.b hd (by rw [I_sub]; exact k H locs ls hP hS hl)
theorem r_imul (hK : Kok K g cc own d) {a b : Int} (hd : decode cc pc = .ok (.imul, 1)) (k : Wn K g M (pc + 1) lv (.int (I (a * b)) :: st)) : Wn K g M pc lv (.int (I b) :: .int (I a) :: st) :=
  fun H locs ls hP hS hl => lv_imul hK.x hK.b hd (by rw [I_mul]; exact k H locs ls hP hS hl)
theorem I_div {a b : Int} (ha : 0 ≤ a ∧ a < 2147483648) (hb : 0 < b ∧ b < 2147483648) : I a / I b = I (a / b) := by
  obtain ⟨n, rfl⟩ := Int.eq_ofNat_of_zero_le ha.1
  obtain ⟨m, rfl⟩ := Int.eq_ofNat_of_zero_le (Int.le_of_lt hb.1)
  have h := pk_div (a := n) (d := m) (by omega) (by omega) (by omega)
  have e : ∀ q : Nat, nI q = I (q : Int) := fun q => rfl
  rw [e, e, e] at h
  rw [h]; congr 1
theorem I_rem {a b : Int} (ha : 0 ≤ a ∧ a < 2147483648) (hb : 0 < b ∧ b < 2147483648) : I a - I a / I b * I b = I (a % b) := by
  rw [I_div ha hb, I_mul, I_sub]
  congr 1
  have := Int.emod_add_mul_ediv a b
  rw [Int.mul_comm] at this
  omega
theorem r_idiv (hK : Kok K g cc own d) {a b : Int} (ha : 0 ≤ a ∧ a < 2147483648) (hb : 0 < b ∧ b < 2147483648) (hd : decode cc pc = .ok (.idiv, 1)) (k : Wn K g M (pc + 1) lv (.int (I (a / b)) :: st)) : Wn K g M pc lv (.int (I b) :: .int (I a) :: st) :=
  fun H locs ls hP hS hl => lv_idiv hK.x hK.b hd (by rw [I_0, I_eq (by unfold R32; omega) R32_0]; omega) (by rw [I_div ha hb]; exact k H locs ls hP hS hl)
theorem r_irem (hK : Kok K g cc own d) {a b : Int} (ha : 0 ≤ a ∧ a < 2147483648) (hb : 0 < b ∧ b < 2147483648) (hd : decode cc pc = .ok (.irem, 1)) (k : Wn K g M (pc + 1) lv (.int (I (a % b)) :: st)) : Wn K g M pc lv (.int (I b) :: .int (I a) :: st) :=
  fun H locs ls hP hS hl => lv_irem hK.x hK.b hd (by rw [I_0, I_eq (by unfold R32; omega) R32_0]; omega) (by rw [I_rem ha hb]; exact k H locs ls hP hS hl)
theorem r_dup (hK : Kok K g cc own d) {v : Value} (hd : decode cc pc = .ok (.dup, 1)) (hv : v.category = 1) (k : Wn K g M (pc + 1) lv (v :: v :: st)) : Wn K g M pc lv (v :: st) :=
  fun H locs ls hP hS hl => lv_dup hK.x hK.b hd hv (k H locs ls hP hS hl)
theorem r_dup2 (hK : Kok K g cc own d) {v w : Value} (hd : decode cc pc = .ok (.dup2, 1)) (hv : v.category = 1) (hw : w.category = 1) (k : Wn K g M (pc + 1) lv (v :: w :: v :: w :: st)) : Wn K g M pc lv (v :: w :: st) :=
  fun H locs ls hP hS hl => lv_dup2_11 hK.x hK.b hd hv hw (k H locs ls hP hS hl)
theorem r_goto (hK : Kok K g cc own d) {off : Int} {t : Nat} (hd : decode cc pc = .ok (.goto off, 3)) (ht : (pc : Int) + off = (t : Int)) (k : Wn K g M t lv st) : Wn K g M pc lv st :=
  fun H locs ls hP hS hl => lv_goto hK.x hK.b hd ht (k H locs ls hP hS hl)
/-! branches: h is what the pure value says of both ways -/
theorem r_icmp_lt (hK : Kok K g cc own d) {a b : Int} {off : Int} {t : Nat} {A B : Prop} (hd : decode cc pc = .ok (.if_icmp .lt off, 3)) (ht : (pc : Int) + off = (t : Int)) (h : (R32 a ∧ R32 b) ∧ (a < b → A) ∧ (¬ a < b → B)) (kt : A → Wn K g M t lv st) (kf : B → Wn K g M (pc + 3) lv st) : Wn K g M pc lv (.int (I b) :: .int (I a) :: st) :=
  fun H locs ls hP hS hl => lv_icmp_lt hK.x hK.b hd ht (fun c => kt (h.2.1 ((I_lt h.1.1 h.1.2).mp c)) H locs ls hP hS hl) (fun c => kf (h.2.2 (fun q => c ((I_lt h.1.1 h.1.2).mpr q))) H locs ls hP hS hl)
theorem r_icmp_ge (hK : Kok K g cc own d) {a b : Int} {off : Int} {t : Nat} {A B : Prop} (hd : decode cc pc = .ok (.if_icmp .ge off, 3)) (ht : (pc : Int) + off = (t : Int)) (h : (R32 a ∧ R32 b) ∧ (a < b → A) ∧ (¬ a < b → B)) (kf : A → Wn K g M (pc + 3) lv st) (kt : B → Wn K g M t lv st) : Wn K g M pc lv (.int (I b) :: .int (I a) :: st) :=
  fun H locs ls hP hS hl => lv_icmp_ge hK.x hK.b hd ht (fun c => kt (h.2.2 (by have := (I_le h.1.2 h.1.1).mp c; omega)) H locs ls hP hS hl) (fun c => kf (h.2.1 (by have := mt (I_le h.1.2 h.1.1).mpr c; omega)) H locs ls hP hS hl)
theorem r_icmp_gt (hK : Kok K g cc own d) {a b : Int} {off : Int} {t : Nat} {A B : Prop} (hd : decode cc pc = .ok (.if_icmp .gt off, 3)) (ht : (pc : Int) + off = (t : Int)) (h : (R32 b ∧ R32 a) ∧ (b < a → A) ∧ (¬ b < a → B)) (kt : A → Wn K g M t lv st) (kf : B → Wn K g M (pc + 3) lv st) : Wn K g M pc lv (.int (I b) :: .int (I a) :: st) :=
  fun H locs ls hP hS hl => lv_icmp_gt hK.x hK.b hd ht (fun c => kt (h.2.1 ((I_lt h.1.1 h.1.2).mp c)) H locs ls hP hS hl) (fun c => kf (h.2.2 (fun q => c ((I_lt h.1.1 h.1.2).mpr q))) H locs ls hP hS hl)
theorem r_icmp_le (hK : Kok K g cc own d) {a b : Int} {off : Int} {t : Nat} {A B : Prop} (hd : decode cc pc = .ok (.if_icmp .le off, 3)) (ht : (pc : Int) + off = (t : Int)) (h : (R32 b ∧ R32 a) ∧ (b < a → A) ∧ (¬ b < a → B)) (kf : A → Wn K g M (pc + 3) lv st) (kt : B → Wn K g M t lv st) : Wn K g M pc lv (.int (I b) :: .int (I a) :: st) :=
  fun H locs ls hP hS hl => lv_icmp_le hK.x hK.b hd ht (fun c => kt (h.2.2 (by have := (I_le h.1.2 h.1.1).mp c; omega)) H locs ls hP hS hl) (fun c => kf (h.2.1 (by have := mt (I_le h.1.2 h.1.1).mpr c; omega)) H locs ls hP hS hl)
theorem r_icmp_eq (hK : Kok K g cc own d) {a b : Int} {off : Int} {t : Nat} {A B : Prop} (hd : decode cc pc = .ok (.if_icmp .eq off, 3)) (ht : (pc : Int) + off = (t : Int)) (h : (R32 a ∧ R32 b) ∧ (a = b → A) ∧ (¬ a = b → B)) (kt : A → Wn K g M t lv st) (kf : B → Wn K g M (pc + 3) lv st) : Wn K g M pc lv (.int (I b) :: .int (I a) :: st) :=
  fun H locs ls hP hS hl => lv_icmp_eq hK.x hK.b hd ht (fun c => kt (h.2.1 ((I_eq h.1.1 h.1.2).mp c)) H locs ls hP hS hl) (fun c => kf (h.2.2 (fun q => c ((I_eq h.1.1 h.1.2).mpr q))) H locs ls hP hS hl)
theorem r_icmp_ne (hK : Kok K g cc own d) {a b : Int} {off : Int} {t : Nat} {A B : Prop} (hd : decode cc pc = .ok (.if_icmp .ne off, 3)) (ht : (pc : Int) + off = (t : Int)) (h : (R32 a ∧ R32 b) ∧ (a = b → A) ∧ (¬ a = b → B)) (kf : A → Wn K g M (pc + 3) lv st) (kt : B → Wn K g M t lv st) : Wn K g M pc lv (.int (I b) :: .int (I a) :: st) :=
  fun H locs ls hP hS hl => lv_icmp_ne hK.x hK.b hd ht (fun c => kt (h.2.2 (fun q => c ((I_eq h.1.1 h.1.2).mpr q))) H locs ls hP hS hl) (fun c => kf (h.2.1 ((I_eq h.1.1 h.1.2).mp c)) H locs ls hP hS hl)
theorem r_if_eq (hK : Kok K g cc own d) {a : Int} {off : Int} {t : Nat} {A B : Prop} (hd : decode cc pc = .ok (.ifCond .eq off, 3)) (ht : (pc : Int) + off = (t : Int)) (h : (R32 a ∧ R32 0) ∧ (a = 0 → A) ∧ (¬ a = 0 → B)) (kt : A → Wn K g M t lv st) (kf : B → Wn K g M (pc + 3) lv st) : Wn K g M pc lv (.int (I a) :: st) :=
  fun H locs ls hP hS hl => lv_if_eq hK.x hK.b hd ht (fun c => kt (h.2.1 ((I_eq h.1.1 R32_0).mp c)) H locs ls hP hS hl) (fun c => kf (h.2.2 (fun q => c ((I_eq h.1.1 R32_0).mpr q))) H locs ls hP hS hl)
theorem r_if_ne (hK : Kok K g cc own d) {a : Int} {off : Int} {t : Nat} {A B : Prop} (hd : decode cc pc = .ok (.ifCond .ne off, 3)) (ht : (pc : Int) + off = (t : Int)) (h : (R32 a ∧ R32 0) ∧ (a = 0 → A) ∧ (¬ a = 0 → B)) (kf : A → Wn K g M (pc + 3) lv st) (kt : B → Wn K g M t lv st) : Wn K g M pc lv (.int (I a) :: st) :=
  fun H locs ls hP hS hl => lv_if_ne hK.x hK.b hd ht (fun c => kt (h.2.2 (fun q => c ((I_eq h.1.1 R32_0).mpr q))) H locs ls hP hS hl) (fun c => kf (h.2.1 ((I_eq h.1.1 R32_0).mp c)) H locs ls hP hS hl)
theorem r_if_lt (hK : Kok K g cc own d) {a : Int} {off : Int} {t : Nat} {A B : Prop} (hd : decode cc pc = .ok (.ifCond .lt off, 3)) (ht : (pc : Int) + off = (t : Int)) (h : (R32 a ∧ R32 0) ∧ (a < 0 → A) ∧ (¬ a < 0 → B)) (kt : A → Wn K g M t lv st) (kf : B → Wn K g M (pc + 3) lv st) : Wn K g M pc lv (.int (I a) :: st) :=
  fun H locs ls hP hS hl => lv_if_lt hK.x hK.b hd ht (fun c => kt (h.2.1 ((I_lt h.1.1 R32_0).mp c)) H locs ls hP hS hl) (fun c => kf (h.2.2 (fun q => c ((I_lt h.1.1 R32_0).mpr q))) H locs ls hP hS hl)
theorem r_if_ge (hK : Kok K g cc own d) {a : Int} {off : Int} {t : Nat} {A B : Prop} (hd : decode cc pc = .ok (.ifCond .ge off, 3)) (ht : (pc : Int) + off = (t : Int)) (h : (R32 a ∧ R32 0) ∧ (a < 0 → A) ∧ (¬ a < 0 → B)) (kf : A → Wn K g M (pc + 3) lv st) (kt : B → Wn K g M t lv st) : Wn K g M pc lv (.int (I a) :: st) :=
  fun H locs ls hP hS hl => lv_if_ge hK.x hK.b hd ht (fun c => kt (h.2.2 (by have := (I_le R32_0 h.1.1).mp c; omega)) H locs ls hP hS hl) (fun c => kf (h.2.1 (by have := mt (I_le R32_0 h.1.1).mpr c; omega)) H locs ls hP hS hl)
theorem r_if_gt (hK : Kok K g cc own d) {a : Int} {off : Int} {t : Nat} {A B : Prop} (hd : decode cc pc = .ok (.ifCond .gt off, 3)) (ht : (pc : Int) + off = (t : Int)) (h : (R32 0 ∧ R32 a) ∧ (0 < a → A) ∧ (¬ 0 < a → B)) (kt : A → Wn K g M t lv st) (kf : B → Wn K g M (pc + 3) lv st) : Wn K g M pc lv (.int (I a) :: st) :=
  fun H locs ls hP hS hl => lv_if_gt hK.x hK.b hd ht (fun c => kt (h.2.1 ((I_lt R32_0 h.1.2).mp c)) H locs ls hP hS hl) (fun c => kf (h.2.2 (fun q => c ((I_lt R32_0 h.1.2).mpr q))) H locs ls hP hS hl)
theorem r_if_le (hK : Kok K g cc own d) {a : Int} {off : Int} {t : Nat} {A B : Prop} (hd : decode cc pc = .ok (.ifCond .le off, 3)) (ht : (pc : Int) + off = (t : Int)) (h : (R32 0 ∧ R32 a) ∧ (0 < a → A) ∧ (¬ 0 < a → B)) (kf : A → Wn K g M (pc + 3) lv st) (kt : B → Wn K g M t lv st) : Wn K g M pc lv (.int (I a) :: st) :=
  fun H locs ls hP hS hl => lv_if_le hK.x hK.b hd ht (fun c => kt (h.2.2 (by have := (I_le h.1.2 R32_0).mp c; omega)) H locs ls hP hS hl) (fun c => kf (h.2.1 (by have := mt (I_le h.1.2 R32_0).mpr c; omega)) H locs ls hP hS hl)
end RW
end
