section
-- ===== PART A: goes FIRST, ahead of the names: the tables' words, and 'selects' of the private methods out of them =====
/-- a private method of a class that the tables say can be made, by its rows of tables_1 -/
def lw_okq (q : MethodName × Nat) : Prop := (q.1.cls ≠ "java/lang/invoke/MethodHandle" ∧ q.1.cls ≠ "java/lang/invoke/VarHandle") ∧ Cond.instantiable q.1.cls q.2 ∈ tables_1 ∧ Cond.privateMethod q.1 ∈ tables_1 ∧ Cond.instanceMethod q.1 ∈ tables_1
theorem lw_p0 : lw_okq (⟨"SortedPages$Text", "readToken", "()V"⟩, 9) := ⟨⟨by decide +kernel, by decide +kernel⟩, List.mem_of_getElem? (i := 153) (by decide +kernel), List.mem_of_getElem? (i := 268) (by decide +kernel), List.mem_of_getElem? (i := 269) (by decide +kernel)⟩
theorem lw_p1 : lw_okq (⟨"SortedPages$Text", "at", "(I)I"⟩, 9) := ⟨⟨by decide +kernel, by decide +kernel⟩, List.mem_of_getElem? (i := 153) (by decide +kernel), List.mem_of_getElem? (i := 272) (by decide +kernel), List.mem_of_getElem? (i := 273) (by decide +kernel)⟩
theorem lw_p2 : lw_okq (⟨"SortedPages$Text", "readFigures", "()V"⟩, 9) := ⟨⟨by decide +kernel, by decide +kernel⟩, List.mem_of_getElem? (i := 153) (by decide +kernel), List.mem_of_getElem? (i := 282) (by decide +kernel), List.mem_of_getElem? (i := 283) (by decide +kernel)⟩
theorem lw_p3 : lw_okq (⟨"SortedPages$Text", "isWord", "(Ljava/lang/String;)Z"⟩, 9) := ⟨⟨by decide +kernel, by decide +kernel⟩, List.mem_of_getElem? (i := 153) (by decide +kernel), List.mem_of_getElem? (i := 292) (by decide +kernel), List.mem_of_getElem? (i := 293) (by decide +kernel)⟩
theorem lw_p4 : lw_okq (⟨"SortedPages$Text", "readKey", "()Z"⟩, 9) := ⟨⟨by decide +kernel, by decide +kernel⟩, List.mem_of_getElem? (i := 153) (by decide +kernel), List.mem_of_getElem? (i := 344) (by decide +kernel), List.mem_of_getElem? (i := 345) (by decide +kernel)⟩
theorem lw_p5 : lw_okq (⟨"SortedPages$Text", "readNumber", "(III)Z"⟩, 9) := ⟨⟨by decide +kernel, by decide +kernel⟩, List.mem_of_getElem? (i := 153) (by decide +kernel), List.mem_of_getElem? (i := 356) (by decide +kernel), List.mem_of_getElem? (i := 357) (by decide +kernel)⟩
theorem lw_p6 : lw_okq (⟨"SortedPages$Text", "readStop", "()Z"⟩, 9) := ⟨⟨by decide +kernel, by decide +kernel⟩, List.mem_of_getElem? (i := 153) (by decide +kernel), List.mem_of_getElem? (i := 361) (by decide +kernel), List.mem_of_getElem? (i := 362) (by decide +kernel)⟩
theorem lw_p7 : lw_okq (⟨"SortedPages$Changer", "insertUpward", "(II)V"⟩, 7) := ⟨⟨by decide +kernel, by decide +kernel⟩, List.mem_of_getElem? (i := 80) (by decide +kernel), List.mem_of_getElem? (i := 462) (by decide +kernel), List.mem_of_getElem? (i := 463) (by decide +kernel)⟩
theorem lw_p8 : lw_okq (⟨"SortedPages$Changer", "split", "(LSortedPages$Page;)I"⟩, 7) := ⟨⟨by decide +kernel, by decide +kernel⟩, List.mem_of_getElem? (i := 80) (by decide +kernel), List.mem_of_getElem? (i := 479) (by decide +kernel), List.mem_of_getElem? (i := 480) (by decide +kernel)⟩
theorem lw_p9 : lw_okq (⟨"SortedPages$Changer", "readSeparator", "(I)V"⟩, 7) := ⟨⟨by decide +kernel, by decide +kernel⟩, List.mem_of_getElem? (i := 80) (by decide +kernel), List.mem_of_getElem? (i := 498) (by decide +kernel), List.mem_of_getElem? (i := 499) (by decide +kernel)⟩
theorem lw_p10 : lw_okq (⟨"SortedPages$Changer", "deal", "(ILSortedPages$Page;LSortedPages$Page;)V"⟩, 7) := ⟨⟨by decide +kernel, by decide +kernel⟩, List.mem_of_getElem? (i := 80) (by decide +kernel), List.mem_of_getElem? (i := 516) (by decide +kernel), List.mem_of_getElem? (i := 517) (by decide +kernel)⟩
theorem lw_p11 : lw_okq (⟨"SortedPages$Changer", "raiseRoot", "(I)V"⟩, 7) := ⟨⟨by decide +kernel, by decide +kernel⟩, List.mem_of_getElem? (i := 80) (by decide +kernel), List.mem_of_getElem? (i := 530) (by decide +kernel), List.mem_of_getElem? (i := 531) (by decide +kernel)⟩
theorem lw_p12 : lw_okq (⟨"SortedPages$Changer", "mend", "(I)Z"⟩, 7) := ⟨⟨by decide +kernel, by decide +kernel⟩, List.mem_of_getElem? (i := 80) (by decide +kernel), List.mem_of_getElem? (i := 542) (by decide +kernel), List.mem_of_getElem? (i := 543) (by decide +kernel)⟩
theorem lw_p13 : lw_okq (⟨"SortedPages$Changer", "gather", "(LSortedPages$Page;ILSortedPages$Page;LSortedPages$Page;)V"⟩, 7) := ⟨⟨by decide +kernel, by decide +kernel⟩, List.mem_of_getElem? (i := 80) (by decide +kernel), List.mem_of_getElem? (i := 547) (by decide +kernel), List.mem_of_getElem? (i := 548) (by decide +kernel)⟩
theorem lw_p14 : lw_okq (⟨"SortedPages$Changer", "join", "(LSortedPages$Page;LSortedPages$Page;)V"⟩, 7) := ⟨⟨by decide +kernel, by decide +kernel⟩, List.mem_of_getElem? (i := 80) (by decide +kernel), List.mem_of_getElem? (i := 551) (by decide +kernel), List.mem_of_getElem? (i := 552) (by decide +kernel)⟩
theorem lw_p15 : lw_okq (⟨"SortedPages$Changer", "shareAnew", "(LSortedPages$Page;ILSortedPages$Page;LSortedPages$Page;)V"⟩, 7) := ⟨⟨by decide +kernel, by decide +kernel⟩, List.mem_of_getElem? (i := 80) (by decide +kernel), List.mem_of_getElem? (i := 559) (by decide +kernel), List.mem_of_getElem? (i := 560) (by decide +kernel)⟩
def lw_privs_1 : List (MethodName × Nat) := [(⟨"SortedPages$Text", "readToken", "()V"⟩, 9), (⟨"SortedPages$Text", "at", "(I)I"⟩, 9), (⟨"SortedPages$Text", "readFigures", "()V"⟩, 9), (⟨"SortedPages$Text", "isWord", "(Ljava/lang/String;)Z"⟩, 9), (⟨"SortedPages$Text", "readKey", "()Z"⟩, 9), (⟨"SortedPages$Text", "readNumber", "(III)Z"⟩, 9), (⟨"SortedPages$Text", "readStop", "()Z"⟩, 9), (⟨"SortedPages$Changer", "insertUpward", "(II)V"⟩, 7), (⟨"SortedPages$Changer", "split", "(LSortedPages$Page;)I"⟩, 7), (⟨"SortedPages$Changer", "readSeparator", "(I)V"⟩, 7), (⟨"SortedPages$Changer", "deal", "(ILSortedPages$Page;LSortedPages$Page;)V"⟩, 7), (⟨"SortedPages$Changer", "raiseRoot", "(I)V"⟩, 7), (⟨"SortedPages$Changer", "mend", "(I)Z"⟩, 7), (⟨"SortedPages$Changer", "gather", "(LSortedPages$Page;ILSortedPages$Page;LSortedPages$Page;)V"⟩, 7), (⟨"SortedPages$Changer", "join", "(LSortedPages$Page;LSortedPages$Page;)V"⟩, 7), (⟨"SortedPages$Changer", "shareAnew", "(LSortedPages$Page;ILSortedPages$Page;LSortedPages$Page;)V"⟩, 7)]
theorem lw_r1 : ∀ q ∈ lw_privs_1, lw_okq q := List.forall_mem_cons.mpr ⟨lw_p0, List.forall_mem_cons.mpr ⟨lw_p1, List.forall_mem_cons.mpr ⟨lw_p2, List.forall_mem_cons.mpr ⟨lw_p3, List.forall_mem_cons.mpr ⟨lw_p4, List.forall_mem_cons.mpr ⟨lw_p5, List.forall_mem_cons.mpr ⟨lw_p6, List.forall_mem_cons.mpr ⟨lw_p7, List.forall_mem_cons.mpr ⟨lw_p8, List.forall_mem_cons.mpr ⟨lw_p9, List.forall_mem_cons.mpr ⟨lw_p10, List.forall_mem_cons.mpr ⟨lw_p11, List.forall_mem_cons.mpr ⟨lw_p12, List.forall_mem_cons.mpr ⟨lw_p13, List.forall_mem_cons.mpr ⟨lw_p14, List.forall_mem_cons.mpr ⟨lw_p15, fun _ h => absurd h List.not_mem_nil⟩⟩⟩⟩⟩⟩⟩⟩⟩⟩⟩⟩⟩⟩⟩⟩
theorem lw_p16 : lw_okq (⟨"SortedPages$Changer", "lowerRoot", "()V"⟩, 7) := ⟨⟨by decide +kernel, by decide +kernel⟩, List.mem_of_getElem? (i := 80) (by decide +kernel), List.mem_of_getElem? (i := 567) (by decide +kernel), List.mem_of_getElem? (i := 568) (by decide +kernel)⟩
theorem lw_p17 : lw_okq (⟨"SortedPages$Changer", "fillLeaves", "(III)I"⟩, 7) := ⟨⟨by decide +kernel, by decide +kernel⟩, List.mem_of_getElem? (i := 80) (by decide +kernel), List.mem_of_getElem? (i := 575) (by decide +kernel), List.mem_of_getElem? (i := 576) (by decide +kernel)⟩
theorem lw_p18 : lw_okq (⟨"SortedPages$Changer", "shareWithLast", "(I)V"⟩, 7) := ⟨⟨by decide +kernel, by decide +kernel⟩, List.mem_of_getElem? (i := 80) (by decide +kernel), List.mem_of_getElem? (i := 584) (by decide +kernel), List.mem_of_getElem? (i := 585) (by decide +kernel)⟩
theorem lw_p19 : lw_okq (⟨"SortedPages$Changer", "coverLeaves", "(I)V"⟩, 7) := ⟨⟨by decide +kernel, by decide +kernel⟩, List.mem_of_getElem? (i := 80) (by decide +kernel), List.mem_of_getElem? (i := 588) (by decide +kernel), List.mem_of_getElem? (i := 589) (by decide +kernel)⟩
theorem lw_p20 : lw_okq (⟨"SortedPages$Checker", "walk", "(IIII)I"⟩, 5) := ⟨⟨by decide +kernel, by decide +kernel⟩, List.mem_of_getElem? (i := 128) (by decide +kernel), List.mem_of_getElem? (i := 682) (by decide +kernel), List.mem_of_getElem? (i := 683) (by decide +kernel)⟩
theorem lw_p21 : lw_okq (⟨"SortedPages$Checker", "comeTo", "(I)V"⟩, 5) := ⟨⟨by decide +kernel, by decide +kernel⟩, List.mem_of_getElem? (i := 128) (by decide +kernel), List.mem_of_getElem? (i := 687) (by decide +kernel), List.mem_of_getElem? (i := 688) (by decide +kernel)⟩
theorem lw_p22 : lw_okq (⟨"SortedPages$Checker", "whyWrong", "(LSortedPages$Page;III)I"⟩, 5) := ⟨⟨by decide +kernel, by decide +kernel⟩, List.mem_of_getElem? (i := 128) (by decide +kernel), List.mem_of_getElem? (i := 691) (by decide +kernel), List.mem_of_getElem? (i := 692) (by decide +kernel)⟩
theorem lw_p23 : lw_okq (⟨"SortedPages$Checker", "isLast", "(I)Z"⟩, 5) := ⟨⟨by decide +kernel, by decide +kernel⟩, List.mem_of_getElem? (i := 128) (by decide +kernel), List.mem_of_getElem? (i := 696) (by decide +kernel), List.mem_of_getElem? (i := 697) (by decide +kernel)⟩
theorem lw_p24 : lw_okq (⟨"SortedPages$Checker", "rises", "(LSortedPages$Page;)Z"⟩, 5) := ⟨⟨by decide +kernel, by decide +kernel⟩, List.mem_of_getElem? (i := 128) (by decide +kernel), List.mem_of_getElem? (i := 707) (by decide +kernel), List.mem_of_getElem? (i := 708) (by decide +kernel)⟩
theorem lw_p25 : lw_okq (⟨"SortedPages$Checker", "isBetween", "(LSortedPages$Page;II)Z"⟩, 5) := ⟨⟨by decide +kernel, by decide +kernel⟩, List.mem_of_getElem? (i := 128) (by decide +kernel), List.mem_of_getElem? (i := 713) (by decide +kernel), List.mem_of_getElem? (i := 714) (by decide +kernel)⟩
theorem lw_p26 : lw_okq (⟨"SortedPages$Checker", "hasWrongChild", "(LSortedPages$Page;)Z"⟩, 5) := ⟨⟨by decide +kernel, by decide +kernel⟩, List.mem_of_getElem? (i := 128) (by decide +kernel), List.mem_of_getElem? (i := 717) (by decide +kernel), List.mem_of_getElem? (i := 718) (by decide +kernel)⟩
theorem lw_p27 : lw_okq (⟨"SortedPages$Checker", "noteLeaf", "(I)V"⟩, 5) := ⟨⟨by decide +kernel, by decide +kernel⟩, List.mem_of_getElem? (i := 128) (by decide +kernel), List.mem_of_getElem? (i := 722) (by decide +kernel), List.mem_of_getElem? (i := 723) (by decide +kernel)⟩
theorem lw_p28 : lw_okq (⟨"SortedPages$Checker", "walkChildren", "(IIII)I"⟩, 5) := ⟨⟨by decide +kernel, by decide +kernel⟩, List.mem_of_getElem? (i := 128) (by decide +kernel), List.mem_of_getElem? (i := 726) (by decide +kernel), List.mem_of_getElem? (i := 727) (by decide +kernel)⟩
theorem lw_p29 : lw_okq (⟨"SortedPages$Checker", "wrongNext", "()I"⟩, 5) := ⟨⟨by decide +kernel, by decide +kernel⟩, List.mem_of_getElem? (i := 128) (by decide +kernel), List.mem_of_getElem? (i := 730) (by decide +kernel), List.mem_of_getElem? (i := 731) (by decide +kernel)⟩
theorem lw_p30 : lw_okq (⟨"SortedPages$Checker", "strayPage", "()I"⟩, 5) := ⟨⟨by decide +kernel, by decide +kernel⟩, List.mem_of_getElem? (i := 128) (by decide +kernel), List.mem_of_getElem? (i := 735) (by decide +kernel), List.mem_of_getElem? (i := 736) (by decide +kernel)⟩
theorem lw_p31 : lw_okq (⟨"SortedPagesModel", "spells", "(II)V"⟩, 35) := ⟨⟨by decide +kernel, by decide +kernel⟩, List.mem_of_getElem? (i := 790) (by decide +kernel), List.mem_of_getElem? (i := 912) (by decide +kernel), List.mem_of_getElem? (i := 913) (by decide +kernel)⟩
def lw_privs_2 : List (MethodName × Nat) := [(⟨"SortedPages$Changer", "lowerRoot", "()V"⟩, 7), (⟨"SortedPages$Changer", "fillLeaves", "(III)I"⟩, 7), (⟨"SortedPages$Changer", "shareWithLast", "(I)V"⟩, 7), (⟨"SortedPages$Changer", "coverLeaves", "(I)V"⟩, 7), (⟨"SortedPages$Checker", "walk", "(IIII)I"⟩, 5), (⟨"SortedPages$Checker", "comeTo", "(I)V"⟩, 5), (⟨"SortedPages$Checker", "whyWrong", "(LSortedPages$Page;III)I"⟩, 5), (⟨"SortedPages$Checker", "isLast", "(I)Z"⟩, 5), (⟨"SortedPages$Checker", "rises", "(LSortedPages$Page;)Z"⟩, 5), (⟨"SortedPages$Checker", "isBetween", "(LSortedPages$Page;II)Z"⟩, 5), (⟨"SortedPages$Checker", "hasWrongChild", "(LSortedPages$Page;)Z"⟩, 5), (⟨"SortedPages$Checker", "noteLeaf", "(I)V"⟩, 5), (⟨"SortedPages$Checker", "walkChildren", "(IIII)I"⟩, 5), (⟨"SortedPages$Checker", "wrongNext", "()I"⟩, 5), (⟨"SortedPages$Checker", "strayPage", "()I"⟩, 5), (⟨"SortedPagesModel", "spells", "(II)V"⟩, 35)]
theorem lw_r2 : ∀ q ∈ lw_privs_2, lw_okq q := List.forall_mem_cons.mpr ⟨lw_p16, List.forall_mem_cons.mpr ⟨lw_p17, List.forall_mem_cons.mpr ⟨lw_p18, List.forall_mem_cons.mpr ⟨lw_p19, List.forall_mem_cons.mpr ⟨lw_p20, List.forall_mem_cons.mpr ⟨lw_p21, List.forall_mem_cons.mpr ⟨lw_p22, List.forall_mem_cons.mpr ⟨lw_p23, List.forall_mem_cons.mpr ⟨lw_p24, List.forall_mem_cons.mpr ⟨lw_p25, List.forall_mem_cons.mpr ⟨lw_p26, List.forall_mem_cons.mpr ⟨lw_p27, List.forall_mem_cons.mpr ⟨lw_p28, List.forall_mem_cons.mpr ⟨lw_p29, List.forall_mem_cons.mpr ⟨lw_p30, List.forall_mem_cons.mpr ⟨lw_p31, fun _ h => absurd h List.not_mem_nil⟩⟩⟩⟩⟩⟩⟩⟩⟩⟩⟩⟩⟩⟩⟩⟩
theorem lw_p32 : lw_okq (⟨"SortedPagesModel", "putKey", "(I)I"⟩, 35) := ⟨⟨by decide +kernel, by decide +kernel⟩, List.mem_of_getElem? (i := 790) (by decide +kernel), List.mem_of_getElem? (i := 916) (by decide +kernel), List.mem_of_getElem? (i := 917) (by decide +kernel)⟩
theorem lw_p33 : lw_okq (⟨"SortedPagesModel", "goesDown", "()V"⟩, 35) := ⟨⟨by decide +kernel, by decide +kernel⟩, List.mem_of_getElem? (i := 790) (by decide +kernel), List.mem_of_getElem? (i := 920) (by decide +kernel), List.mem_of_getElem? (i := 921) (by decide +kernel)⟩
theorem lw_p34 : lw_okq (⟨"SortedPagesModel", "at", "(II)I"⟩, 35) := ⟨⟨by decide +kernel, by decide +kernel⟩, List.mem_of_getElem? (i := 790) (by decide +kernel), List.mem_of_getElem? (i := 924) (by decide +kernel), List.mem_of_getElem? (i := 925) (by decide +kernel)⟩
theorem lw_p35 : lw_okq (⟨"SortedPagesModel", "against", "(II)I"⟩, 35) := ⟨⟨by decide +kernel, by decide +kernel⟩, List.mem_of_getElem? (i := 790) (by decide +kernel), List.mem_of_getElem? (i := 928) (by decide +kernel), List.mem_of_getElem? (i := 929) (by decide +kernel)⟩
theorem lw_p36 : lw_okq (⟨"SortedPagesModel", "childOf", "(II)I"⟩, 35) := ⟨⟨by decide +kernel, by decide +kernel⟩, List.mem_of_getElem? (i := 790) (by decide +kernel), List.mem_of_getElem? (i := 932) (by decide +kernel), List.mem_of_getElem? (i := 933) (by decide +kernel)⟩
theorem lw_p37 : lw_okq (⟨"SortedPagesModel", "startOf", "(II)I"⟩, 35) := ⟨⟨by decide +kernel, by decide +kernel⟩, List.mem_of_getElem? (i := 790) (by decide +kernel), List.mem_of_getElem? (i := 936) (by decide +kernel), List.mem_of_getElem? (i := 937) (by decide +kernel)⟩
theorem lw_p38 : lw_okq (⟨"SortedPagesModel", "placeIn", "(I)I"⟩, 35) := ⟨⟨by decide +kernel, by decide +kernel⟩, List.mem_of_getElem? (i := 790) (by decide +kernel), List.mem_of_getElem? (i := 940) (by decide +kernel), List.mem_of_getElem? (i := 941) (by decide +kernel)⟩
theorem lw_p39 : lw_okq (⟨"SortedPagesModel", "isAt", "(II)Z"⟩, 35) := ⟨⟨by decide +kernel, by decide +kernel⟩, List.mem_of_getElem? (i := 790) (by decide +kernel), List.mem_of_getElem? (i := 944) (by decide +kernel), List.mem_of_getElem? (i := 945) (by decide +kernel)⟩
theorem lw_p40 : lw_okq (⟨"SortedPagesModel", "tellAt", "(II)I"⟩, 35) := ⟨⟨by decide +kernel, by decide +kernel⟩, List.mem_of_getElem? (i := 790) (by decide +kernel), List.mem_of_getElem? (i := 948) (by decide +kernel), List.mem_of_getElem? (i := 949) (by decide +kernel)⟩
theorem lw_p41 : lw_okq (⟨"SortedPagesModel", "freeMany", "()I"⟩, 35) := ⟨⟨by decide +kernel, by decide +kernel⟩, List.mem_of_getElem? (i := 790) (by decide +kernel), List.mem_of_getElem? (i := 952) (by decide +kernel), List.mem_of_getElem? (i := 953) (by decide +kernel)⟩
theorem lw_p42 : lw_okq (⟨"SortedPagesModel", "comeOut", "(I)V"⟩, 35) := ⟨⟨by decide +kernel, by decide +kernel⟩, List.mem_of_getElem? (i := 790) (by decide +kernel), List.mem_of_getElem? (i := 956) (by decide +kernel), List.mem_of_getElem? (i := 957) (by decide +kernel)⟩
theorem lw_p43 : lw_okq (⟨"SortedPagesModel", "comesIn", "(I[III)V"⟩, 35) := ⟨⟨by decide +kernel, by decide +kernel⟩, List.mem_of_getElem? (i := 790) (by decide +kernel), List.mem_of_getElem? (i := 960) (by decide +kernel), List.mem_of_getElem? (i := 961) (by decide +kernel)⟩
theorem lw_p44 : lw_okq (⟨"SortedPagesModel", "copies", "(II)V"⟩, 35) := ⟨⟨by decide +kernel, by decide +kernel⟩, List.mem_of_getElem? (i := 790) (by decide +kernel), List.mem_of_getElem? (i := 964) (by decide +kernel), List.mem_of_getElem? (i := 965) (by decide +kernel)⟩
theorem lw_p45 : lw_okq (⟨"SortedPagesModel", "bytesOf", "(II)I"⟩, 35) := ⟨⟨by decide +kernel, by decide +kernel⟩, List.mem_of_getElem? (i := 790) (by decide +kernel), List.mem_of_getElem? (i := 968) (by decide +kernel), List.mem_of_getElem? (i := 969) (by decide +kernel)⟩
theorem lw_p46 : lw_okq (⟨"SortedPagesModel", "lowestFree", "()I"⟩, 35) := ⟨⟨by decide +kernel, by decide +kernel⟩, List.mem_of_getElem? (i := 790) (by decide +kernel), List.mem_of_getElem? (i := 972) (by decide +kernel), List.mem_of_getElem? (i := 973) (by decide +kernel)⟩
theorem lw_p47 : lw_okq (⟨"SortedPagesModel", "share", "(IIIII)V"⟩, 35) := ⟨⟨by decide +kernel, by decide +kernel⟩, List.mem_of_getElem? (i := 790) (by decide +kernel), List.mem_of_getElem? (i := 976) (by decide +kernel), List.mem_of_getElem? (i := 977) (by decide +kernel)⟩
def lw_privs_3 : List (MethodName × Nat) := [(⟨"SortedPagesModel", "putKey", "(I)I"⟩, 35), (⟨"SortedPagesModel", "goesDown", "()V"⟩, 35), (⟨"SortedPagesModel", "at", "(II)I"⟩, 35), (⟨"SortedPagesModel", "against", "(II)I"⟩, 35), (⟨"SortedPagesModel", "childOf", "(II)I"⟩, 35), (⟨"SortedPagesModel", "startOf", "(II)I"⟩, 35), (⟨"SortedPagesModel", "placeIn", "(I)I"⟩, 35), (⟨"SortedPagesModel", "isAt", "(II)Z"⟩, 35), (⟨"SortedPagesModel", "tellAt", "(II)I"⟩, 35), (⟨"SortedPagesModel", "freeMany", "()I"⟩, 35), (⟨"SortedPagesModel", "comeOut", "(I)V"⟩, 35), (⟨"SortedPagesModel", "comesIn", "(I[III)V"⟩, 35), (⟨"SortedPagesModel", "copies", "(II)V"⟩, 35), (⟨"SortedPagesModel", "bytesOf", "(II)I"⟩, 35), (⟨"SortedPagesModel", "lowestFree", "()I"⟩, 35), (⟨"SortedPagesModel", "share", "(IIIII)V"⟩, 35)]
theorem lw_r3 : ∀ q ∈ lw_privs_3, lw_okq q := List.forall_mem_cons.mpr ⟨lw_p32, List.forall_mem_cons.mpr ⟨lw_p33, List.forall_mem_cons.mpr ⟨lw_p34, List.forall_mem_cons.mpr ⟨lw_p35, List.forall_mem_cons.mpr ⟨lw_p36, List.forall_mem_cons.mpr ⟨lw_p37, List.forall_mem_cons.mpr ⟨lw_p38, List.forall_mem_cons.mpr ⟨lw_p39, List.forall_mem_cons.mpr ⟨lw_p40, List.forall_mem_cons.mpr ⟨lw_p41, List.forall_mem_cons.mpr ⟨lw_p42, List.forall_mem_cons.mpr ⟨lw_p43, List.forall_mem_cons.mpr ⟨lw_p44, List.forall_mem_cons.mpr ⟨lw_p45, List.forall_mem_cons.mpr ⟨lw_p46, List.forall_mem_cons.mpr ⟨lw_p47, fun _ h => absurd h List.not_mem_nil⟩⟩⟩⟩⟩⟩⟩⟩⟩⟩⟩⟩⟩⟩⟩⟩
theorem lw_p48 : lw_okq (⟨"SortedPagesModel", "half", "()I"⟩, 35) := ⟨⟨by decide +kernel, by decide +kernel⟩, List.mem_of_getElem? (i := 790) (by decide +kernel), List.mem_of_getElem? (i := 980) (by decide +kernel), List.mem_of_getElem? (i := 981) (by decide +kernel)⟩
theorem lw_p49 : lw_okq (⟨"SortedPagesModel", "setUp", "(II)V"⟩, 35) := ⟨⟨by decide +kernel, by decide +kernel⟩, List.mem_of_getElem? (i := 790) (by decide +kernel), List.mem_of_getElem? (i := 984) (by decide +kernel), List.mem_of_getElem? (i := 985) (by decide +kernel)⟩
theorem lw_p50 : lw_okq (⟨"SortedPagesModel", "shortest", "(I)I"⟩, 35) := ⟨⟨by decide +kernel, by decide +kernel⟩, List.mem_of_getElem? (i := 790) (by decide +kernel), List.mem_of_getElem? (i := 988) (by decide +kernel), List.mem_of_getElem? (i := 989) (by decide +kernel)⟩
theorem lw_p51 : lw_okq (⟨"SortedPagesModel", "goesUp", "(II)V"⟩, 35) := ⟨⟨by decide +kernel, by decide +kernel⟩, List.mem_of_getElem? (i := 790) (by decide +kernel), List.mem_of_getElem? (i := 992) (by decide +kernel), List.mem_of_getElem? (i := 993) (by decide +kernel)⟩
theorem lw_p52 : lw_okq (⟨"SortedPagesModel", "goBack", "(IIIII)V"⟩, 35) := ⟨⟨by decide +kernel, by decide +kernel⟩, List.mem_of_getElem? (i := 790) (by decide +kernel), List.mem_of_getElem? (i := 996) (by decide +kernel), List.mem_of_getElem? (i := 997) (by decide +kernel)⟩
theorem lw_p53 : lw_okq (⟨"SortedPagesModel", "clears", "(I)V"⟩, 35) := ⟨⟨by decide +kernel, by decide +kernel⟩, List.mem_of_getElem? (i := 790) (by decide +kernel), List.mem_of_getElem? (i := 1000) (by decide +kernel), List.mem_of_getElem? (i := 1001) (by decide +kernel)⟩
theorem lw_p54 : lw_okq (⟨"SortedPagesModel", "newRoot", "(II)V"⟩, 35) := ⟨⟨by decide +kernel, by decide +kernel⟩, List.mem_of_getElem? (i := 790) (by decide +kernel), List.mem_of_getElem? (i := 1004) (by decide +kernel), List.mem_of_getElem? (i := 1005) (by decide +kernel)⟩
theorem lw_p55 : lw_okq (⟨"SortedPagesModel", "takeKey", "()I"⟩, 35) := ⟨⟨by decide +kernel, by decide +kernel⟩, List.mem_of_getElem? (i := 790) (by decide +kernel), List.mem_of_getElem? (i := 1012) (by decide +kernel), List.mem_of_getElem? (i := 1013) (by decide +kernel)⟩
theorem lw_p56 : lw_okq (⟨"SortedPagesModel", "goesOut", "(I)V"⟩, 35) := ⟨⟨by decide +kernel, by decide +kernel⟩, List.mem_of_getElem? (i := 790) (by decide +kernel), List.mem_of_getElem? (i := 1016) (by decide +kernel), List.mem_of_getElem? (i := 1017) (by decide +kernel)⟩
theorem lw_p57 : lw_okq (⟨"SortedPagesModel", "usedOf", "(I)I"⟩, 35) := ⟨⟨by decide +kernel, by decide +kernel⟩, List.mem_of_getElem? (i := 790) (by decide +kernel), List.mem_of_getElem? (i := 1020) (by decide +kernel), List.mem_of_getElem? (i := 1021) (by decide +kernel)⟩
theorem lw_p58 : lw_okq (⟨"SortedPagesModel", "mends", "(I)Z"⟩, 35) := ⟨⟨by decide +kernel, by decide +kernel⟩, List.mem_of_getElem? (i := 790) (by decide +kernel), List.mem_of_getElem? (i := 1024) (by decide +kernel), List.mem_of_getElem? (i := 1025) (by decide +kernel)⟩
theorem lw_p59 : lw_okq (⟨"SortedPagesModel", "loads", "(III)I"⟩, 35) := ⟨⟨by decide +kernel, by decide +kernel⟩, List.mem_of_getElem? (i := 790) (by decide +kernel), List.mem_of_getElem? (i := 1035) (by decide +kernel), List.mem_of_getElem? (i := 1036) (by decide +kernel)⟩
theorem lw_p60 : lw_okq (⟨"SortedPagesModel", "loadsInner", "(I)V"⟩, 35) := ⟨⟨by decide +kernel, by decide +kernel⟩, List.mem_of_getElem? (i := 790) (by decide +kernel), List.mem_of_getElem? (i := 1039) (by decide +kernel), List.mem_of_getElem? (i := 1040) (by decide +kernel)⟩
theorem lw_p61 : lw_okq (⟨"SortedPagesModel", "valueOf", "()I"⟩, 35) := ⟨⟨by decide +kernel, by decide +kernel⟩, List.mem_of_getElem? (i := 790) (by decide +kernel), List.mem_of_getElem? (i := 1047) (by decide +kernel), List.mem_of_getElem? (i := 1048) (by decide +kernel)⟩
theorem lw_p62 : lw_okq (⟨"SortedPagesModel", "firstLeaf", "()I"⟩, 35) := ⟨⟨by decide +kernel, by decide +kernel⟩, List.mem_of_getElem? (i := 790) (by decide +kernel), List.mem_of_getElem? (i := 1055) (by decide +kernel), List.mem_of_getElem? (i := 1056) (by decide +kernel)⟩
theorem lw_p63 : lw_okq (⟨"SortedPagesModel", "beginsSo", "(II)Z"⟩, 35) := ⟨⟨by decide +kernel, by decide +kernel⟩, List.mem_of_getElem? (i := 790) (by decide +kernel), List.mem_of_getElem? (i := 1059) (by decide +kernel), List.mem_of_getElem? (i := 1060) (by decide +kernel)⟩
def lw_privs_4 : List (MethodName × Nat) := [(⟨"SortedPagesModel", "half", "()I"⟩, 35), (⟨"SortedPagesModel", "setUp", "(II)V"⟩, 35), (⟨"SortedPagesModel", "shortest", "(I)I"⟩, 35), (⟨"SortedPagesModel", "goesUp", "(II)V"⟩, 35), (⟨"SortedPagesModel", "goBack", "(IIIII)V"⟩, 35), (⟨"SortedPagesModel", "clears", "(I)V"⟩, 35), (⟨"SortedPagesModel", "newRoot", "(II)V"⟩, 35), (⟨"SortedPagesModel", "takeKey", "()I"⟩, 35), (⟨"SortedPagesModel", "goesOut", "(I)V"⟩, 35), (⟨"SortedPagesModel", "usedOf", "(I)I"⟩, 35), (⟨"SortedPagesModel", "mends", "(I)Z"⟩, 35), (⟨"SortedPagesModel", "loads", "(III)I"⟩, 35), (⟨"SortedPagesModel", "loadsInner", "(I)V"⟩, 35), (⟨"SortedPagesModel", "valueOf", "()I"⟩, 35), (⟨"SortedPagesModel", "firstLeaf", "()I"⟩, 35), (⟨"SortedPagesModel", "beginsSo", "(II)Z"⟩, 35)]
theorem lw_r4 : ∀ q ∈ lw_privs_4, lw_okq q := List.forall_mem_cons.mpr ⟨lw_p48, List.forall_mem_cons.mpr ⟨lw_p49, List.forall_mem_cons.mpr ⟨lw_p50, List.forall_mem_cons.mpr ⟨lw_p51, List.forall_mem_cons.mpr ⟨lw_p52, List.forall_mem_cons.mpr ⟨lw_p53, List.forall_mem_cons.mpr ⟨lw_p54, List.forall_mem_cons.mpr ⟨lw_p55, List.forall_mem_cons.mpr ⟨lw_p56, List.forall_mem_cons.mpr ⟨lw_p57, List.forall_mem_cons.mpr ⟨lw_p58, List.forall_mem_cons.mpr ⟨lw_p59, List.forall_mem_cons.mpr ⟨lw_p60, List.forall_mem_cons.mpr ⟨lw_p61, List.forall_mem_cons.mpr ⟨lw_p62, List.forall_mem_cons.mpr ⟨lw_p63, fun _ h => absurd h List.not_mem_nil⟩⟩⟩⟩⟩⟩⟩⟩⟩⟩⟩⟩⟩⟩⟩⟩
theorem lw_p64 : lw_okq (⟨"SortedPagesModel", "nextLeaf", "(I)I"⟩, 35) := ⟨⟨by decide +kernel, by decide +kernel⟩, List.mem_of_getElem? (i := 790) (by decide +kernel), List.mem_of_getElem? (i := 1063) (by decide +kernel), List.mem_of_getElem? (i := 1064) (by decide +kernel)⟩
theorem lw_p65 : lw_okq (⟨"SortedPagesModel", "keys", "()I"⟩, 35) := ⟨⟨by decide +kernel, by decide +kernel⟩, List.mem_of_getElem? (i := 790) (by decide +kernel), List.mem_of_getElem? (i := 1075) (by decide +kernel), List.mem_of_getElem? (i := 1076) (by decide +kernel)⟩
theorem lw_p66 : lw_okq (⟨"SortedPagesModel", "whereIs", "(I)I"⟩, 35) := ⟨⟨by decide +kernel, by decide +kernel⟩, List.mem_of_getElem? (i := 790) (by decide +kernel), List.mem_of_getElem? (i := 1079) (by decide +kernel), List.mem_of_getElem? (i := 1080) (by decide +kernel)⟩
theorem lw_p67 : lw_okq (⟨"SortedPagesModel", "wrongDown", "()I"⟩, 35) := ⟨⟨by decide +kernel, by decide +kernel⟩, List.mem_of_getElem? (i := 790) (by decide +kernel), List.mem_of_getElem? (i := 1102) (by decide +kernel), List.mem_of_getElem? (i := 1103) (by decide +kernel)⟩
theorem lw_p68 : lw_okq (⟨"SortedPagesModel", "waits", "(IIII)V"⟩, 35) := ⟨⟨by decide +kernel, by decide +kernel⟩, List.mem_of_getElem? (i := 790) (by decide +kernel), List.mem_of_getElem? (i := 1106) (by decide +kernel), List.mem_of_getElem? (i := 1107) (by decide +kernel)⟩
theorem lw_p69 : lw_okq (⟨"SortedPagesModel", "why", "(IIII)I"⟩, 35) := ⟨⟨by decide +kernel, by decide +kernel⟩, List.mem_of_getElem? (i := 790) (by decide +kernel), List.mem_of_getElem? (i := 1110) (by decide +kernel), List.mem_of_getElem? (i := 1111) (by decide +kernel)⟩
theorem lw_p70 : lw_okq (⟨"SortedPagesModel", "as", "(II)I"⟩, 35) := ⟨⟨by decide +kernel, by decide +kernel⟩, List.mem_of_getElem? (i := 790) (by decide +kernel), List.mem_of_getElem? (i := 1114) (by decide +kernel), List.mem_of_getElem? (i := 1115) (by decide +kernel)⟩
theorem lw_p71 : lw_okq (⟨"SortedPagesModel", "isRead", "(II)Z"⟩, 35) := ⟨⟨by decide +kernel, by decide +kernel⟩, List.mem_of_getElem? (i := 790) (by decide +kernel), List.mem_of_getElem? (i := 1118) (by decide +kernel), List.mem_of_getElem? (i := 1119) (by decide +kernel)⟩
theorem lw_p72 : lw_okq (⟨"SortedPagesModel", "rises", "(I)Z"⟩, 35) := ⟨⟨by decide +kernel, by decide +kernel⟩, List.mem_of_getElem? (i := 790) (by decide +kernel), List.mem_of_getElem? (i := 1122) (by decide +kernel), List.mem_of_getElem? (i := 1123) (by decide +kernel)⟩
theorem lw_p73 : lw_okq (⟨"SortedPagesModel", "compares", "(II)I"⟩, 35) := ⟨⟨by decide +kernel, by decide +kernel⟩, List.mem_of_getElem? (i := 790) (by decide +kernel), List.mem_of_getElem? (i := 1126) (by decide +kernel), List.mem_of_getElem? (i := 1127) (by decide +kernel)⟩
theorem lw_p74 : lw_okq (⟨"SortedPagesModel", "isWithin", "(III)Z"⟩, 35) := ⟨⟨by decide +kernel, by decide +kernel⟩, List.mem_of_getElem? (i := 790) (by decide +kernel), List.mem_of_getElem? (i := 1130) (by decide +kernel), List.mem_of_getElem? (i := 1131) (by decide +kernel)⟩
theorem lw_p75 : lw_okq (⟨"SortedPagesModel", "hasChildren", "(I)Z"⟩, 35) := ⟨⟨by decide +kernel, by decide +kernel⟩, List.mem_of_getElem? (i := 790) (by decide +kernel), List.mem_of_getElem? (i := 1134) (by decide +kernel), List.mem_of_getElem? (i := 1135) (by decide +kernel)⟩
theorem lw_p76 : lw_okq (⟨"SortedPagesModel", "childAs", "(II)I"⟩, 35) := ⟨⟨by decide +kernel, by decide +kernel⟩, List.mem_of_getElem? (i := 790) (by decide +kernel), List.mem_of_getElem? (i := 1138) (by decide +kernel), List.mem_of_getElem? (i := 1139) (by decide +kernel)⟩
theorem lw_p77 : lw_okq (⟨"SortedPagesModel", "childrenWait", "(IIII)V"⟩, 35) := ⟨⟨by decide +kernel, by decide +kernel⟩, List.mem_of_getElem? (i := 790) (by decide +kernel), List.mem_of_getElem? (i := 1142) (by decide +kernel), List.mem_of_getElem? (i := 1143) (by decide +kernel)⟩
theorem lw_p78 : lw_okq (⟨"SortedPagesModel", "startAs", "(II)I"⟩, 35) := ⟨⟨by decide +kernel, by decide +kernel⟩, List.mem_of_getElem? (i := 790) (by decide +kernel), List.mem_of_getElem? (i := 1146) (by decide +kernel), List.mem_of_getElem? (i := 1147) (by decide +kernel)⟩
theorem lw_p79 : lw_okq (⟨"SortedPagesModel", "wrongNext", "()I"⟩, 35) := ⟨⟨by decide +kernel, by decide +kernel⟩, List.mem_of_getElem? (i := 790) (by decide +kernel), List.mem_of_getElem? (i := 1150) (by decide +kernel), List.mem_of_getElem? (i := 1151) (by decide +kernel)⟩
def lw_privs_5 : List (MethodName × Nat) := [(⟨"SortedPagesModel", "nextLeaf", "(I)I"⟩, 35), (⟨"SortedPagesModel", "keys", "()I"⟩, 35), (⟨"SortedPagesModel", "whereIs", "(I)I"⟩, 35), (⟨"SortedPagesModel", "wrongDown", "()I"⟩, 35), (⟨"SortedPagesModel", "waits", "(IIII)V"⟩, 35), (⟨"SortedPagesModel", "why", "(IIII)I"⟩, 35), (⟨"SortedPagesModel", "as", "(II)I"⟩, 35), (⟨"SortedPagesModel", "isRead", "(II)Z"⟩, 35), (⟨"SortedPagesModel", "rises", "(I)Z"⟩, 35), (⟨"SortedPagesModel", "compares", "(II)I"⟩, 35), (⟨"SortedPagesModel", "isWithin", "(III)Z"⟩, 35), (⟨"SortedPagesModel", "hasChildren", "(I)Z"⟩, 35), (⟨"SortedPagesModel", "childAs", "(II)I"⟩, 35), (⟨"SortedPagesModel", "childrenWait", "(IIII)V"⟩, 35), (⟨"SortedPagesModel", "startAs", "(II)I"⟩, 35), (⟨"SortedPagesModel", "wrongNext", "()I"⟩, 35)]
theorem lw_r5 : ∀ q ∈ lw_privs_5, lw_okq q := List.forall_mem_cons.mpr ⟨lw_p64, List.forall_mem_cons.mpr ⟨lw_p65, List.forall_mem_cons.mpr ⟨lw_p66, List.forall_mem_cons.mpr ⟨lw_p67, List.forall_mem_cons.mpr ⟨lw_p68, List.forall_mem_cons.mpr ⟨lw_p69, List.forall_mem_cons.mpr ⟨lw_p70, List.forall_mem_cons.mpr ⟨lw_p71, List.forall_mem_cons.mpr ⟨lw_p72, List.forall_mem_cons.mpr ⟨lw_p73, List.forall_mem_cons.mpr ⟨lw_p74, List.forall_mem_cons.mpr ⟨lw_p75, List.forall_mem_cons.mpr ⟨lw_p76, List.forall_mem_cons.mpr ⟨lw_p77, List.forall_mem_cons.mpr ⟨lw_p78, List.forall_mem_cons.mpr ⟨lw_p79, fun _ h => absurd h List.not_mem_nil⟩⟩⟩⟩⟩⟩⟩⟩⟩⟩⟩⟩⟩⟩⟩⟩
theorem lw_p80 : lw_okq (⟨"SortedPagesModel", "wrongFree", "()I"⟩, 35) := ⟨⟨by decide +kernel, by decide +kernel⟩, List.mem_of_getElem? (i := 790) (by decide +kernel), List.mem_of_getElem? (i := 1154) (by decide +kernel), List.mem_of_getElem? (i := 1155) (by decide +kernel)⟩
theorem lw_p81 : lw_okq (⟨"SortedPagesModel", "usedAll", "()I"⟩, 35) := ⟨⟨by decide +kernel, by decide +kernel⟩, List.mem_of_getElem? (i := 790) (by decide +kernel), List.mem_of_getElem? (i := 1162) (by decide +kernel), List.mem_of_getElem? (i := 1163) (by decide +kernel)⟩
theorem lw_p82 : lw_okq (⟨"SortedPagesModel", "sorted", "(I)I"⟩, 35) := ⟨⟨by decide +kernel, by decide +kernel⟩, List.mem_of_getElem? (i := 790) (by decide +kernel), List.mem_of_getElem? (i := 1166) (by decide +kernel), List.mem_of_getElem? (i := 1167) (by decide +kernel)⟩
theorem lw_p83 : lw_okq (⟨"SortedPagesModel", "separators", "()I"⟩, 35) := ⟨⟨by decide +kernel, by decide +kernel⟩, List.mem_of_getElem? (i := 790) (by decide +kernel), List.mem_of_getElem? (i := 1170) (by decide +kernel), List.mem_of_getElem? (i := 1171) (by decide +kernel)⟩
theorem lw_p84 : lw_okq (⟨"SortedPagesModel", "skip", "()V"⟩, 35) := ⟨⟨by decide +kernel, by decide +kernel⟩, List.mem_of_getElem? (i := 790) (by decide +kernel), List.mem_of_getElem? (i := 1204) (by decide +kernel), List.mem_of_getElem? (i := 1205) (by decide +kernel)⟩
theorem lw_p85 : lw_okq (⟨"SortedPagesModel", "here", "()I"⟩, 35) := ⟨⟨by decide +kernel, by decide +kernel⟩, List.mem_of_getElem? (i := 790) (by decide +kernel), List.mem_of_getElem? (i := 1208) (by decide +kernel), List.mem_of_getElem? (i := 1209) (by decide +kernel)⟩
theorem lw_p86 : lw_okq (⟨"SortedPagesModel", "readsCommand", "()I"⟩, 35) := ⟨⟨by decide +kernel, by decide +kernel⟩, List.mem_of_getElem? (i := 790) (by decide +kernel), List.mem_of_getElem? (i := 1212) (by decide +kernel), List.mem_of_getElem? (i := 1213) (by decide +kernel)⟩
theorem lw_p87 : lw_okq (⟨"SortedPagesModel", "commandHere", "()I"⟩, 35) := ⟨⟨by decide +kernel, by decide +kernel⟩, List.mem_of_getElem? (i := 790) (by decide +kernel), List.mem_of_getElem? (i := 1216) (by decide +kernel), List.mem_of_getElem? (i := 1217) (by decide +kernel)⟩
theorem lw_p88 : lw_okq (⟨"SortedPagesModel", "lettersHere", "()I"⟩, 35) := ⟨⟨by decide +kernel, by decide +kernel⟩, List.mem_of_getElem? (i := 790) (by decide +kernel), List.mem_of_getElem? (i := 1220) (by decide +kernel), List.mem_of_getElem? (i := 1221) (by decide +kernel)⟩
theorem lw_p89 : lw_okq (⟨"SortedPagesModel", "letterAt", "(I)I"⟩, 35) := ⟨⟨by decide +kernel, by decide +kernel⟩, List.mem_of_getElem? (i := 790) (by decide +kernel), List.mem_of_getElem? (i := 1224) (by decide +kernel), List.mem_of_getElem? (i := 1225) (by decide +kernel)⟩
theorem lw_p90 : lw_okq (⟨"SortedPagesModel", "readsRest", "(I)Z"⟩, 35) := ⟨⟨by decide +kernel, by decide +kernel⟩, List.mem_of_getElem? (i := 790) (by decide +kernel), List.mem_of_getElem? (i := 1228) (by decide +kernel), List.mem_of_getElem? (i := 1229) (by decide +kernel)⟩
theorem lw_p91 : lw_okq (⟨"SortedPagesModel", "readsLoad", "()Z"⟩, 35) := ⟨⟨by decide +kernel, by decide +kernel⟩, List.mem_of_getElem? (i := 790) (by decide +kernel), List.mem_of_getElem? (i := 1232) (by decide +kernel), List.mem_of_getElem? (i := 1233) (by decide +kernel)⟩
theorem lw_p92 : lw_okq (⟨"SortedPagesModel", "number", "(II)Z"⟩, 35) := ⟨⟨by decide +kernel, by decide +kernel⟩, List.mem_of_getElem? (i := 790) (by decide +kernel), List.mem_of_getElem? (i := 1236) (by decide +kernel), List.mem_of_getElem? (i := 1237) (by decide +kernel)⟩
theorem lw_p93 : lw_okq (⟨"SortedPagesModel", "readsKey", "()Z"⟩, 35) := ⟨⟨by decide +kernel, by decide +kernel⟩, List.mem_of_getElem? (i := 790) (by decide +kernel), List.mem_of_getElem? (i := 1240) (by decide +kernel), List.mem_of_getElem? (i := 1241) (by decide +kernel)⟩
theorem lw_p94 : lw_okq (⟨"SortedPagesModel", "ends", "()Z"⟩, 35) := ⟨⟨by decide +kernel, by decide +kernel⟩, List.mem_of_getElem? (i := 790) (by decide +kernel), List.mem_of_getElem? (i := 1244) (by decide +kernel), List.mem_of_getElem? (i := 1245) (by decide +kernel)⟩
theorem lw_p95 : lw_okq (⟨"SortedPagesModel", "does", "(I)Z"⟩, 35) := ⟨⟨by decide +kernel, by decide +kernel⟩, List.mem_of_getElem? (i := 790) (by decide +kernel), List.mem_of_getElem? (i := 1248) (by decide +kernel), List.mem_of_getElem? (i := 1249) (by decide +kernel)⟩
def lw_privs_6 : List (MethodName × Nat) := [(⟨"SortedPagesModel", "wrongFree", "()I"⟩, 35), (⟨"SortedPagesModel", "usedAll", "()I"⟩, 35), (⟨"SortedPagesModel", "sorted", "(I)I"⟩, 35), (⟨"SortedPagesModel", "separators", "()I"⟩, 35), (⟨"SortedPagesModel", "skip", "()V"⟩, 35), (⟨"SortedPagesModel", "here", "()I"⟩, 35), (⟨"SortedPagesModel", "readsCommand", "()I"⟩, 35), (⟨"SortedPagesModel", "commandHere", "()I"⟩, 35), (⟨"SortedPagesModel", "lettersHere", "()I"⟩, 35), (⟨"SortedPagesModel", "letterAt", "(I)I"⟩, 35), (⟨"SortedPagesModel", "readsRest", "(I)Z"⟩, 35), (⟨"SortedPagesModel", "readsLoad", "()Z"⟩, 35), (⟨"SortedPagesModel", "number", "(II)Z"⟩, 35), (⟨"SortedPagesModel", "readsKey", "()Z"⟩, 35), (⟨"SortedPagesModel", "ends", "()Z"⟩, 35), (⟨"SortedPagesModel", "does", "(I)Z"⟩, 35)]
theorem lw_r6 : ∀ q ∈ lw_privs_6, lw_okq q := List.forall_mem_cons.mpr ⟨lw_p80, List.forall_mem_cons.mpr ⟨lw_p81, List.forall_mem_cons.mpr ⟨lw_p82, List.forall_mem_cons.mpr ⟨lw_p83, List.forall_mem_cons.mpr ⟨lw_p84, List.forall_mem_cons.mpr ⟨lw_p85, List.forall_mem_cons.mpr ⟨lw_p86, List.forall_mem_cons.mpr ⟨lw_p87, List.forall_mem_cons.mpr ⟨lw_p88, List.forall_mem_cons.mpr ⟨lw_p89, List.forall_mem_cons.mpr ⟨lw_p90, List.forall_mem_cons.mpr ⟨lw_p91, List.forall_mem_cons.mpr ⟨lw_p92, List.forall_mem_cons.mpr ⟨lw_p93, List.forall_mem_cons.mpr ⟨lw_p94, List.forall_mem_cons.mpr ⟨lw_p95, fun _ h => absurd h List.not_mem_nil⟩⟩⟩⟩⟩⟩⟩⟩⟩⟩⟩⟩⟩⟩⟩⟩
def lw_privs : List (MethodName × Nat) := lw_privs_1 ++ (lw_privs_2 ++ (lw_privs_3 ++ (lw_privs_4 ++ (lw_privs_5 ++ (lw_privs_6)))))
def lw_tbl : List Cond := k2_sels lw_privs ++ tables_1
theorem lw_privs_ok : ∀ q ∈ lw_privs, lw_okq q := by
  show ∀ q ∈ lw_privs_1 ++ (lw_privs_2 ++ (lw_privs_3 ++ (lw_privs_4 ++ (lw_privs_5 ++ (lw_privs_6))))), lw_okq q
  exact List.forall_mem_append.mpr ⟨lw_r1, List.forall_mem_append.mpr ⟨lw_r2, List.forall_mem_append.mpr ⟨lw_r3, List.forall_mem_append.mpr ⟨lw_r4, List.forall_mem_append.mpr ⟨lw_r5, lw_r6⟩⟩⟩⟩⟩
end
section
/-! ===== BEGIN words of one list among another's, by their places ===== -/
theorem goodIn_r {big : List Cond} (ws : List Cond) (ps : List Nat) (hp : ws = ps.filterMap (fun i => big[i]?)) (h : ws.all goodWord = true) : GoodIn big ws := by
  intro w hw
  have h1 := List.all_eq_true.mp h w hw
  rw [hp] at hw
  obtain ⟨i, -, hi⟩ := List.mem_filterMap.mp hw
  have hm : w ∈ big := by first | exact List.mem_of_getElem? hi | exact List.getElem?_mem hi
  exact ⟨hm, good_of_word h1⟩
theorem goodIn_app {big a b : List Cond} (ha : GoodIn big a) (hb : GoodIn big b) : GoodIn big (a ++ b) := fun w h => (List.mem_append.mp h).elim (ha w) (hb w)
theorem goodIn_ca {big a b : List Cond} {c : Cond} (ha : GoodIn big (c :: a)) (hb : GoodIn big b) : GoodIn big (c :: (a ++ b)) := fun w h => (List.mem_cons.mp h).elim (fun e => ha w (List.mem_cons.mpr (Or.inl e))) (fun h => (List.mem_append.mp h).elim (fun h => ha w (List.mem_cons.mpr (Or.inr h))) (hb w))
theorem goodIn_sub {big ws : List Cond} (hm : ∀ w ∈ ws, w ∈ big) (h : ws.all goodWord = true) : GoodIn big ws := fun w hw => ⟨hm w hw, good_of_word (List.all_eq_true.mp h w hw)⟩
/-! ===== END ===== -/

/-! ===== BEGIN printed: names, fields, word lists, decode rows ===== -/
def RX0 : String := "SortedPages$Changer"
def TX0 : u_T := fun k => match k with
  | 0 => ("SortedPages$Changer", "tree", "LSortedPages$Tree;", true)
  | 1 => ("SortedPages$Changer", "wide", "LSortedPages$Page;", true)
  | 2 => ("SortedPages$Changer", "separator", "LSortedPages$Key;", true)
  | 3 => ("SortedPages$Changer", "lastLeft", "LSortedPages$Key;", true)
  | 4 => ("SortedPages$Changer", "splits", "I", false)
  | 5 => ("SortedPages$Changer", "joins", "I", false)
  | _ => ("SortedPages$Changer", "shares", "I", false)
def tyX0 : Nat → FieldType := fun k => match k with
  | 0 => .object "SortedPages$Tree"
  | 1 => .object "SortedPages$Page"
  | 2 => .object "SortedPages$Key"
  | 3 => .object "SortedPages$Key"
  | 4 => .int
  | 5 => .int
  | _ => .int
abbrev wsX00 : List Cond := u_ws RX0 TX0 7
theorem nmX0 : ∀ a, a < 7 → ∀ b, b < 7 → a ≠ b → (TX0 a).2.1 ≠ (TX0 b).2.1 := by decide +kernel
theorem tyX0_ok : ∀ k, k < 7 → parseFieldDescriptor (TX0 k).2.2.1 = some (tyX0 k) := by decide +kernel
abbrev cX0_init : ByteArray := prog_2_method_1_code
def yX0_init : MethodName := ⟨RX0, "<init>", "(LSortedPages$Tree;)V"⟩
abbrev cX0_putKey : ByteArray := prog_2_method_2_code
def yX0_putKey : MethodName := ⟨RX0, "putKey", "(LSortedPages$Key;I)I"⟩
abbrev cX0_insertUpward : ByteArray := prog_2_method_3_code
def yX0_insertUpward : MethodName := ⟨RX0, "insertUpward", "(II)V"⟩
abbrev cX0_split : ByteArray := prog_2_method_4_code
def yX0_split : MethodName := ⟨RX0, "split", "(LSortedPages$Page;)I"⟩
abbrev cX0_raiseRoot : ByteArray := prog_2_method_5_code
def yX0_raiseRoot : MethodName := ⟨RX0, "raiseRoot", "(I)V"⟩
abbrev cX0_readSeparator : ByteArray := prog_2_method_6_code
def yX0_readSeparator : MethodName := ⟨RX0, "readSeparator", "(I)V"⟩
abbrev cX0_deal : ByteArray := prog_2_method_7_code
def yX0_deal : MethodName := ⟨RX0, "deal", "(ILSortedPages$Page;LSortedPages$Page;)V"⟩
abbrev cX0_takeKey : ByteArray := prog_2_method_8_code
def yX0_takeKey : MethodName := ⟨RX0, "takeKey", "(LSortedPages$Key;)I"⟩
abbrev cX0_mend : ByteArray := prog_2_method_9_code
def yX0_mend : MethodName := ⟨RX0, "mend", "(I)Z"⟩
abbrev cX0_gather : ByteArray := prog_2_method_10_code
def yX0_gather : MethodName := ⟨RX0, "gather", "(LSortedPages$Page;ILSortedPages$Page;LSortedPages$Page;)V"⟩
abbrev cX0_join : ByteArray := prog_2_method_11_code
def yX0_join : MethodName := ⟨RX0, "join", "(LSortedPages$Page;LSortedPages$Page;)V"⟩
abbrev cX0_shareAnew : ByteArray := prog_2_method_12_code
def yX0_shareAnew : MethodName := ⟨RX0, "shareAnew", "(LSortedPages$Page;ILSortedPages$Page;LSortedPages$Page;)V"⟩
abbrev cX0_lowerRoot : ByteArray := prog_2_method_13_code
def yX0_lowerRoot : MethodName := ⟨RX0, "lowerRoot", "()V"⟩
abbrev cX0_loadRow : ByteArray := prog_2_method_14_code
def yX0_loadRow : MethodName := ⟨RX0, "loadRow", "(III)V"⟩
abbrev cX0_fillLeaves : ByteArray := prog_2_method_15_code
def yX0_fillLeaves : MethodName := ⟨RX0, "fillLeaves", "(III)I"⟩
abbrev cX0_shareWithLast : ByteArray := prog_2_method_16_code
def yX0_shareWithLast : MethodName := ⟨RX0, "shareWithLast", "(I)V"⟩
abbrev cX0_coverLeaves : ByteArray := prog_2_method_17_code
def yX0_coverLeaves : MethodName := ⟨RX0, "coverLeaves", "(I)V"⟩
def RX1 : String := "SortedPages$Checker"
def TX1 : u_T := fun k => match k with
  | 0 => ("SortedPages$Checker", "tree", "LSortedPages$Tree;", true)
  | 1 => ("SortedPages$Checker", "seen", "[Z", true)
  | 2 => ("SortedPages$Checker", "leaves", "[I", true)
  | 3 => ("SortedPages$Checker", "key", "LSortedPages$Key;", true)
  | _ => ("SortedPages$Checker", "leafCount", "I", false)
def tyX1 : Nat → FieldType := fun k => match k with
  | 0 => .object "SortedPages$Tree"
  | 1 => .array .boolean
  | 2 => .array .int
  | 3 => .object "SortedPages$Key"
  | _ => .int
abbrev wsX10 : List Cond := u_ws RX1 TX1 5
theorem nmX1 : ∀ a, a < 5 → ∀ b, b < 5 → a ≠ b → (TX1 a).2.1 ≠ (TX1 b).2.1 := by decide +kernel
theorem tyX1_ok : ∀ k, k < 5 → parseFieldDescriptor (TX1 k).2.2.1 = some (tyX1 k) := by decide +kernel
abbrev cX1_init : ByteArray := prog_3_method_1_code
def yX1_init : MethodName := ⟨RX1, "<init>", "(LSortedPages$Tree;)V"⟩
abbrev cX1_firstWrong : ByteArray := prog_3_method_2_code
def yX1_firstWrong : MethodName := ⟨RX1, "firstWrong", "()I"⟩
abbrev cX1_walk : ByteArray := prog_3_method_3_code
def yX1_walk : MethodName := ⟨RX1, "walk", "(IIII)I"⟩
abbrev cX1_walkChildren : ByteArray := prog_3_method_4_code
def yX1_walkChildren : MethodName := ⟨RX1, "walkChildren", "(IIII)I"⟩
abbrev cX1_isLast : ByteArray := prog_3_method_5_code
def yX1_isLast : MethodName := ⟨RX1, "isLast", "(I)Z"⟩
abbrev cX1_comeTo : ByteArray := prog_3_method_6_code
def yX1_comeTo : MethodName := ⟨RX1, "comeTo", "(I)V"⟩
abbrev cX1_noteLeaf : ByteArray := prog_3_method_7_code
def yX1_noteLeaf : MethodName := ⟨RX1, "noteLeaf", "(I)V"⟩
abbrev cX1_whyWrong : ByteArray := prog_3_method_8_code
def yX1_whyWrong : MethodName := ⟨RX1, "whyWrong", "(LSortedPages$Page;III)I"⟩
abbrev cX1_isReadable : ByteArray := prog_3_method_9_code
def yX1_isReadable : MethodName := ⟨RX1, "isReadable", "(LSortedPages$Page;)Z"⟩
abbrev cX1_rises : ByteArray := prog_3_method_10_code
def yX1_rises : MethodName := ⟨RX1, "rises", "(LSortedPages$Page;)Z"⟩
abbrev cX1_isBetween : ByteArray := prog_3_method_11_code
def yX1_isBetween : MethodName := ⟨RX1, "isBetween", "(LSortedPages$Page;II)Z"⟩
abbrev cX1_hasWrongChild : ByteArray := prog_3_method_12_code
def yX1_hasWrongChild : MethodName := ⟨RX1, "hasWrongChild", "(LSortedPages$Page;)Z"⟩
abbrev cX1_wrongNext : ByteArray := prog_3_method_13_code
def yX1_wrongNext : MethodName := ⟨RX1, "wrongNext", "()I"⟩
abbrev cX1_strayPage : ByteArray := prog_3_method_14_code
def yX1_strayPage : MethodName := ⟨RX1, "strayPage", "()I"⟩
abbrev cX1_isBlank : ByteArray := prog_3_method_15_code
def yX1_isBlank : MethodName := ⟨RX1, "isBlank", "(LSortedPages$Page;)Z"⟩
def RX2 : String := "SortedPages$Image"
def TX2 : u_T := fun k => match k with
  | 0 => ("SortedPages$Image", "bytes", "[I", true)
  | 1 => ("SortedPages$Image", "root", "I", false)
  | 2 => ("SortedPages$Image", "levels", "I", false)
  | _ => ("SortedPages$Image", "kept", "Z", false)
def tyX2 : Nat → FieldType := fun k => match k with
  | 0 => .array .int
  | 1 => .int
  | 2 => .int
  | _ => .boolean
abbrev wsX20 : List Cond := u_ws RX2 TX2 4
theorem nmX2 : ∀ a, a < 4 → ∀ b, b < 4 → a ≠ b → (TX2 a).2.1 ≠ (TX2 b).2.1 := by decide +kernel
theorem tyX2_ok : ∀ k, k < 4 → parseFieldDescriptor (TX2 k).2.2.1 = some (tyX2 k) := by decide +kernel
abbrev cX2_init : ByteArray := prog_4_method_1_code
def yX2_init : MethodName := ⟨RX2, "<init>", "()V"⟩
abbrev cX2_copyFrom : ByteArray := prog_4_method_2_code
def yX2_copyFrom : MethodName := ⟨RX2, "copyFrom", "(LSortedPages$Tree;)V"⟩
abbrev cX2_copyTo : ByteArray := prog_4_method_3_code
def yX2_copyTo : MethodName := ⟨RX2, "copyTo", "(LSortedPages$Tree;)V"⟩
def RX3 : String := "SortedPages$Key"
def TX3 : u_T := fun k => match k with
  | 0 => ("SortedPages$Key", "letters", "[I", true)
  | _ => ("SortedPages$Key", "length", "I", false)
def tyX3 : Nat → FieldType := fun k => match k with
  | 0 => .array .int
  | _ => .int
abbrev wsX30 : List Cond := u_ws RX3 TX3 2
theorem nmX3 : ∀ a, a < 2 → ∀ b, b < 2 → a ≠ b → (TX3 a).2.1 ≠ (TX3 b).2.1 := by decide +kernel
theorem tyX3_ok : ∀ k, k < 2 → parseFieldDescriptor (TX3 k).2.2.1 = some (tyX3 k) := by decide +kernel
abbrev cX3_init : ByteArray := prog_5_method_1_code
def yX3_init : MethodName := ⟨RX3, "<init>", "()V"⟩
abbrev cX3_empty : ByteArray := prog_5_method_2_code
def yX3_empty : MethodName := ⟨RX3, "empty", "()V"⟩
abbrev cX3_add : ByteArray := prog_5_method_3_code
def yX3_add : MethodName := ⟨RX3, "add", "(I)V"⟩
abbrev cX3_at : ByteArray := prog_5_method_4_code
def yX3_at : MethodName := ⟨RX3, "at", "(I)I"⟩
abbrev cX3_copyFrom : ByteArray := prog_5_method_5_code
def yX3_copyFrom : MethodName := ⟨RX3, "copyFrom", "(LSortedPages$Key;)V"⟩
abbrev cX3_spell : ByteArray := prog_5_method_6_code
def yX3_spell : MethodName := ⟨RX3, "spell", "(II)V"⟩
abbrev cX3_cutAbove : ByteArray := prog_5_method_7_code
def yX3_cutAbove : MethodName := ⟨RX3, "cutAbove", "(LSortedPages$Key;)V"⟩
def RX4 : String := "SortedPages$Page"
def TX4 : u_T := fun k => match k with
  | _ => ("SortedPages$Page", "bytes", "[I", true)
def tyX4 : Nat → FieldType := fun k => match k with
  | _ => .array .int
abbrev wsX40 : List Cond := u_ws RX4 TX4 1
theorem nmX4 : ∀ a, a < 1 → ∀ b, b < 1 → a ≠ b → (TX4 a).2.1 ≠ (TX4 b).2.1 := by decide +kernel
theorem tyX4_ok : ∀ k, k < 1 → parseFieldDescriptor (TX4 k).2.2.1 = some (tyX4 k) := by decide +kernel
abbrev cX4_init : ByteArray := prog_6_method_1_code
def yX4_init : MethodName := ⟨RX4, "<init>", "(I)V"⟩
abbrev cX4_at : ByteArray := prog_6_method_2_code
def yX4_at : MethodName := ⟨RX4, "at", "(I)I"⟩
abbrev cX4_set : ByteArray := prog_6_method_3_code
def yX4_set : MethodName := ⟨RX4, "set", "(II)V"⟩
abbrev cX4_sort : ByteArray := prog_6_method_4_code
def yX4_sort : MethodName := ⟨RX4, "sort", "()I"⟩
abbrev cX4_entries : ByteArray := prog_6_method_5_code
def yX4_entries : MethodName := ⟨RX4, "entries", "()I"⟩
abbrev cX4_link : ByteArray := prog_6_method_6_code
def yX4_link : MethodName := ⟨RX4, "link", "()I"⟩
abbrev cX4_setLink : ByteArray := prog_6_method_7_code
def yX4_setLink : MethodName := ⟨RX4, "setLink", "(I)V"⟩
abbrev cX4_offset : ByteArray := prog_6_method_8_code
def yX4_offset : MethodName := ⟨RX4, "offset", "(I)I"⟩
abbrev cX4_used : ByteArray := prog_6_method_9_code
def yX4_used : MethodName := ⟨RX4, "used", "()I"⟩
abbrev cX4_letters : ByteArray := prog_6_method_10_code
def yX4_letters : MethodName := ⟨RX4, "letters", "(I)I"⟩
abbrev cX4_letterOf : ByteArray := prog_6_method_11_code
def yX4_letterOf : MethodName := ⟨RX4, "letterOf", "(II)I"⟩
abbrev cX4_tail : ByteArray := prog_6_method_12_code
def yX4_tail : MethodName := ⟨RX4, "tail", "(I)I"⟩
abbrev cX4_setTail : ByteArray := prog_6_method_13_code
def yX4_setTail : MethodName := ⟨RX4, "setTail", "(II)V"⟩
abbrev cX4_child : ByteArray := prog_6_method_14_code
def yX4_child : MethodName := ⟨RX4, "child", "(I)I"⟩
abbrev cX4_readKey : ByteArray := prog_6_method_15_code
def yX4_readKey : MethodName := ⟨RX4, "readKey", "(ILSortedPages$Key;)V"⟩
abbrev cX4_compare : ByteArray := prog_6_method_16_code
def yX4_compare : MethodName := ⟨RX4, "compare", "(ILSortedPages$Key;)I"⟩
abbrev cX4_isEntry : ByteArray := prog_6_method_17_code
def yX4_isEntry : MethodName := ⟨RX4, "isEntry", "(ILSortedPages$Key;)Z"⟩
abbrev cX4_entriesBelow : ByteArray := prog_6_method_18_code
def yX4_entriesBelow : MethodName := ⟨RX4, "entriesBelow", "(LSortedPages$Key;Z)I"⟩
abbrev cX4_entriesThatBegin : ByteArray := prog_6_method_19_code
def yX4_entriesThatBegin : MethodName := ⟨RX4, "entriesThatBegin", "(LSortedPages$Key;)I"⟩
abbrev cX4_release : ByteArray := prog_6_method_20_code
def yX4_release : MethodName := ⟨RX4, "release", "()V"⟩
abbrev cX4_begin : ByteArray := prog_6_method_21_code
def yX4_begin : MethodName := ⟨RX4, "begin", "(II)V"⟩
abbrev cX4_copyFrom : ByteArray := prog_6_method_22_code
def yX4_copyFrom : MethodName := ⟨RX4, "copyFrom", "(LSortedPages$Page;)V"⟩
abbrev cX4_append : ByteArray := prog_6_method_23_code
def yX4_append : MethodName := ⟨RX4, "append", "(LSortedPages$Page;II)V"⟩
abbrev cX4_insert : ByteArray := prog_6_method_24_code
def yX4_insert : MethodName := ⟨RX4, "insert", "(ILSortedPages$Key;I)V"⟩
abbrev cX4_remove : ByteArray := prog_6_method_25_code
def yX4_remove : MethodName := ⟨RX4, "remove", "(I)V"⟩
abbrev cX4_half : ByteArray := prog_6_method_26_code
def yX4_half : MethodName := ⟨RX4, "half", "()I"⟩
def RX5 : String := "SortedPages$Text"
def TX5 : u_T := fun k => match k with
  | 0 => ("SortedPages$Text", "bytes", "[I", true)
  | 1 => ("SortedPages$Text", "length", "I", false)
  | 2 => ("SortedPages$Text", "start", "I", false)
  | 3 => ("SortedPages$Text", "end", "I", false)
  | 4 => ("SortedPages$Text", "kind", "I", false)
  | 5 => ("SortedPages$Text", "figures", "I", false)
  | 6 => ("SortedPages$Text", "command", "I", false)
  | 7 => ("SortedPages$Text", "key", "LSortedPages$Key;", true)
  | _ => ("SortedPages$Text", "numbers", "[I", true)
def tyX5 : Nat → FieldType := fun k => match k with
  | 0 => .array .int
  | 1 => .int
  | 2 => .int
  | 3 => .int
  | 4 => .int
  | 5 => .int
  | 6 => .int
  | 7 => .object "SortedPages$Key"
  | _ => .array .int
abbrev wsX50 : List Cond := u_ws RX5 TX5 9
theorem nmX5 : ∀ a, a < 9 → ∀ b, b < 9 → a ≠ b → (TX5 a).2.1 ≠ (TX5 b).2.1 := by decide +kernel
theorem tyX5_ok : ∀ k, k < 9 → parseFieldDescriptor (TX5 k).2.2.1 = some (tyX5 k) := by decide +kernel
abbrev cX5_init : ByteArray := prog_7_method_1_code
def yX5_init : MethodName := ⟨RX5, "<init>", "()V"⟩
abbrev cX5_add : ByteArray := prog_7_method_2_code
def yX5_add : MethodName := ⟨RX5, "add", "(I)Z"⟩
abbrev cX5_at : ByteArray := prog_7_method_3_code
def yX5_at : MethodName := ⟨RX5, "at", "(I)I"⟩
abbrev cX5_rewind : ByteArray := prog_7_method_4_code
def yX5_rewind : MethodName := ⟨RX5, "rewind", "()V"⟩
abbrev cX5_firstFault : ByteArray := prog_7_method_5_code
def yX5_firstFault : MethodName := ⟨RX5, "firstFault", "()I"⟩
abbrev cX5_hasMore : ByteArray := prog_7_method_6_code
def yX5_hasMore : MethodName := ⟨RX5, "hasMore", "()Z"⟩
abbrev cX5_readCommand : ByteArray := prog_7_method_7_code
def yX5_readCommand : MethodName := ⟨RX5, "readCommand", "()Z"⟩
abbrev cX5_number : ByteArray := prog_7_method_8_code
def yX5_number : MethodName := ⟨RX5, "number", "(I)I"⟩
abbrev cX5_readKey : ByteArray := prog_7_method_9_code
def yX5_readKey : MethodName := ⟨RX5, "readKey", "()Z"⟩
abbrev cX5_readNumber : ByteArray := prog_7_method_10_code
def yX5_readNumber : MethodName := ⟨RX5, "readNumber", "(III)Z"⟩
abbrev cX5_readStop : ByteArray := prog_7_method_11_code
def yX5_readStop : MethodName := ⟨RX5, "readStop", "()Z"⟩
abbrev cX5_isWord : ByteArray := prog_7_method_12_code
def yX5_isWord : MethodName := ⟨RX5, "isWord", "(Ljava/lang/String;)Z"⟩
abbrev cX5_readToken : ByteArray := prog_7_method_13_code
def yX5_readToken : MethodName := ⟨RX5, "readToken", "()V"⟩
abbrev cX5_readFigures : ByteArray := prog_7_method_14_code
def yX5_readFigures : MethodName := ⟨RX5, "readFigures", "()V"⟩
abbrev cX5_isFigure : ByteArray := prog_7_method_15_code
def yX5_isFigure : MethodName := ⟨RX5, "isFigure", "(I)Z"⟩
def RX6 : String := "SortedPages$Tree"
def TX6 : u_T := fun k => match k with
  | 0 => ("SortedPages$Tree", "pages", "[LSortedPages$Page;", true)
  | 1 => ("SortedPages$Tree", "nowhere", "LSortedPages$Page;", true)
  | 2 => ("SortedPages$Tree", "way", "[I", true)
  | 3 => ("SortedPages$Tree", "slots", "[I", true)
  | 4 => ("SortedPages$Tree", "root", "I", false)
  | _ => ("SortedPages$Tree", "levels", "I", false)
def tyX6 : Nat → FieldType := fun k => match k with
  | 0 => .array (.object "SortedPages$Page")
  | 1 => .object "SortedPages$Page"
  | 2 => .array .int
  | 3 => .array .int
  | 4 => .int
  | _ => .int
abbrev wsX60 : List Cond := u_ws RX6 TX6 6
theorem nmX6 : ∀ a, a < 6 → ∀ b, b < 6 → a ≠ b → (TX6 a).2.1 ≠ (TX6 b).2.1 := by decide +kernel
theorem tyX6_ok : ∀ k, k < 6 → parseFieldDescriptor (TX6 k).2.2.1 = some (tyX6 k) := by decide +kernel
abbrev cX6_init : ByteArray := prog_8_method_1_code
def yX6_init : MethodName := ⟨RX6, "<init>", "()V"⟩
abbrev cX6_pageOf : ByteArray := prog_8_method_2_code
def yX6_pageOf : MethodName := ⟨RX6, "pageOf", "(I)LSortedPages$Page;"⟩
abbrev cX6_lowestFree : ByteArray := prog_8_method_3_code
def yX6_lowestFree : MethodName := ⟨RX6, "lowestFree", "()I"⟩
abbrev cX6_goDown : ByteArray := prog_8_method_4_code
def yX6_goDown : MethodName := ⟨RX6, "goDown", "(LSortedPages$Key;)V"⟩
abbrev cX6_numberOn : ByteArray := prog_8_method_5_code
def yX6_numberOn : MethodName := ⟨RX6, "numberOn", "(I)I"⟩
abbrev cX6_pageOn : ByteArray := prog_8_method_6_code
def yX6_pageOn : MethodName := ⟨RX6, "pageOn", "(I)LSortedPages$Page;"⟩
abbrev cX6_slotOn : ByteArray := prog_8_method_7_code
def yX6_slotOn : MethodName := ⟨RX6, "slotOn", "(I)I"⟩
abbrev cX6_firstLeaf : ByteArray := prog_8_method_8_code
def yX6_firstLeaf : MethodName := ⟨RX6, "firstLeaf", "()I"⟩
abbrev cX6_placeOfKey : ByteArray := prog_8_method_9_code
def yX6_placeOfKey : MethodName := ⟨RX6, "placeOfKey", "(I)I"⟩
abbrev cX6_pagesOfSort : ByteArray := prog_8_method_10_code
def yX6_pagesOfSort : MethodName := ⟨RX6, "pagesOfSort", "(I)I"⟩
abbrev cX6_keys : ByteArray := prog_8_method_11_code
def yX6_keys : MethodName := ⟨RX6, "keys", "()I"⟩
abbrev cX6_usedOfAll : ByteArray := prog_8_method_12_code
def yX6_usedOfAll : MethodName := ⟨RX6, "usedOfAll", "()I"⟩
abbrev cX6_separatorLetters : ByteArray := prog_8_method_13_code
def yX6_separatorLetters : MethodName := ⟨RX6, "separatorLetters", "()I"⟩
def RX7 : String := "SortedPages"
def TX7 : u_T := fun k => match k with
  | 0 => ("SortedPages", "tree", "LSortedPages$Tree;", true)
  | 1 => ("SortedPages", "changer", "LSortedPages$Changer;", true)
  | 2 => ("SortedPages", "checker", "LSortedPages$Checker;", true)
  | 3 => ("SortedPages", "text", "LSortedPages$Text;", true)
  | 4 => ("SortedPages", "images", "[LSortedPages$Image;", true)
  | _ => ("SortedPages", "spelled", "LSortedPages$Key;", true)
def tyX7 : Nat → FieldType := fun k => match k with
  | 0 => .object "SortedPages$Tree"
  | 1 => .object "SortedPages$Changer"
  | 2 => .object "SortedPages$Checker"
  | 3 => .object "SortedPages$Text"
  | 4 => .array (.object "SortedPages$Image")
  | _ => .object "SortedPages$Key"
abbrev wsX70 : List Cond := u_ws RX7 TX7 6
theorem nmX7 : ∀ a, a < 6 → ∀ b, b < 6 → a ≠ b → (TX7 a).2.1 ≠ (TX7 b).2.1 := by decide +kernel
theorem tyX7_ok : ∀ k, k < 6 → parseFieldDescriptor (TX7 k).2.2.1 = some (tyX7 k) := by decide +kernel
abbrev cX7_init : ByteArray := prog_1_method_1_code
def yX7_init : MethodName := ⟨RX7, "<init>", "()V"⟩
abbrev cX7_type : ByteArray := prog_1_method_2_code
def yX7_type : MethodName := ⟨RX7, "type", "(I)I"⟩
abbrev cX7_clear : ByteArray := prog_1_method_3_code
def yX7_clear : MethodName := ⟨RX7, "clear", "()I"⟩
abbrev cX7_run : ByteArray := prog_1_method_4_code
def yX7_run : MethodName := ⟨RX7, "run", "()I"⟩
abbrev cX7_put : ByteArray := prog_1_method_5_code
def yX7_put : MethodName := ⟨RX7, "put", "(III)I"⟩
abbrev cX7_take : ByteArray := prog_1_method_6_code
def yX7_take : MethodName := ⟨RX7, "take", "(II)I"⟩
abbrev cX7_load : ByteArray := prog_1_method_7_code
def yX7_load : MethodName := ⟨RX7, "load", "(III)I"⟩
abbrev cX7_find : ByteArray := prog_1_method_8_code
def yX7_find : MethodName := ⟨RX7, "find", "(II)I"⟩
abbrev cX7_rank : ByteArray := prog_1_method_9_code
def yX7_rank : MethodName := ⟨RX7, "rank", "(III)I"⟩
abbrev cX7_path : ByteArray := prog_1_method_10_code
def yX7_path : MethodName := ⟨RX7, "path", "(III)I"⟩
abbrev cX7_letter : ByteArray := prog_1_method_11_code
def yX7_letter : MethodName := ⟨RX7, "letter", "(II)I"⟩
abbrev cX7_value : ByteArray := prog_1_method_12_code
def yX7_value : MethodName := ⟨RX7, "value", "(I)I"⟩
abbrev cX7_page : ByteArray := prog_1_method_13_code
def yX7_page : MethodName := ⟨RX7, "page", "(II)I"⟩
abbrev cX7_byteAt : ByteArray := prog_1_method_14_code
def yX7_byteAt : MethodName := ⟨RX7, "byteAt", "(II)I"⟩
abbrev cX7_check : ByteArray := prog_1_method_15_code
def yX7_check : MethodName := ⟨RX7, "check", "(III)I"⟩
abbrev cX7_count : ByteArray := prog_1_method_16_code
def yX7_count : MethodName := ⟨RX7, "count", "(I)I"⟩
abbrev cX7_digest : ByteArray := prog_1_method_17_code
def yX7_digest : MethodName := ⟨RX7, "digest", "()J"⟩
abbrev cX7_keep : ByteArray := prog_1_method_18_code
def yX7_keep : MethodName := ⟨RX7, "keep", "(I)I"⟩
abbrev cX7_back : ByteArray := prog_1_method_19_code
def yX7_back : MethodName := ⟨RX7, "back", "(I)I"⟩
abbrev cX7_times : ByteArray := prog_1_method_20_code
def yX7_times : MethodName := ⟨RX7, "times", "(I)I"⟩
abbrev cX7_isWithin : ByteArray := prog_1_method_21_code
def yX7_isWithin : MethodName := ⟨RX7, "isWithin", "(III)Z"⟩
abbrev cX7_isByte : ByteArray := prog_1_method_22_code
def yX7_isByte : MethodName := ⟨RX7, "isByte", "(I)Z"⟩
abbrev cX7_isPage : ByteArray := prog_1_method_23_code
def yX7_isPage : MethodName := ⟨RX7, "isPage", "(I)Z"⟩
abbrev cX7_isLetter : ByteArray := prog_1_method_24_code
def yX7_isLetter : MethodName := ⟨RX7, "isLetter", "(I)Z"⟩
abbrev cX7_endsInTime : ByteArray := prog_1_method_25_code
def yX7_endsInTime : MethodName := ⟨RX7, "endsInTime", "(III)Z"⟩
abbrev cX7_isSpelled : ByteArray := prog_1_method_26_code
def yX7_isSpelled : MethodName := ⟨RX7, "isSpelled", "(II)Z"⟩
def RX8 : String := "SortedPagesModel"
def TX8 : u_T := fun k => match k with
  | 0 => ("SortedPagesModel", "bytes", "[I", true)
  | 1 => ("SortedPagesModel", "root", "I", false)
  | 2 => ("SortedPagesModel", "levels", "I", false)
  | 3 => ("SortedPagesModel", "splits", "I", false)
  | 4 => ("SortedPagesModel", "joins", "I", false)
  | 5 => ("SortedPagesModel", "shares", "I", false)
  | 6 => ("SortedPagesModel", "many", "I", false)
  | 7 => ("SortedPagesModel", "sizes", "[I", true)
  | 8 => ("SortedPagesModel", "words", "[I", true)
  | 9 => ("SortedPagesModel", "tells", "[I", true)
  | 10 => ("SortedPagesModel", "upSize", "I", false)
  | 11 => ("SortedPagesModel", "up", "[I", true)
  | 12 => ("SortedPagesModel", "keySize", "I", false)
  | 13 => ("SortedPagesModel", "key", "[I", true)
  | 14 => ("SortedPagesModel", "ways", "[I", true)
  | 15 => ("SortedPagesModel", "turns", "[I", true)
  | 16 => ("SortedPagesModel", "otherAt", "I", false)
  | 17 => ("SortedPagesModel", "otherByte", "I", false)
  | 18 => ("SortedPagesModel", "met", "[Z", true)
  | 19 => ("SortedPagesModel", "waiting", "I", false)
  | 20 => ("SortedPagesModel", "waitPage", "[I", true)
  | 21 => ("SortedPagesModel", "waitLevel", "[I", true)
  | 22 => ("SortedPagesModel", "waitLow", "[I", true)
  | 23 => ("SortedPagesModel", "waitHigh", "[I", true)
  | 24 => ("SortedPagesModel", "leafMany", "I", false)
  | 25 => ("SortedPagesModel", "leaves", "[I", true)
  | 26 => ("SortedPagesModel", "images", "[I", true)
  | 27 => ("SortedPagesModel", "imageRoot", "[I", true)
  | 28 => ("SortedPagesModel", "imageLevels", "[I", true)
  | 29 => ("SortedPagesModel", "text", "[I", true)
  | 30 => ("SortedPagesModel", "size", "I", false)
  | 31 => ("SortedPagesModel", "readAt", "I", false)
  | 32 => ("SortedPagesModel", "readNumber", "I", false)
  | 33 => ("SortedPagesModel", "readFirst", "I", false)
  | _ => ("SortedPagesModel", "readStep", "I", false)
def tyX8 : Nat → FieldType := fun k => match k with
  | 0 => .array .int
  | 1 => .int
  | 2 => .int
  | 3 => .int
  | 4 => .int
  | 5 => .int
  | 6 => .int
  | 7 => .array .int
  | 8 => .array .int
  | 9 => .array .int
  | 10 => .int
  | 11 => .array .int
  | 12 => .int
  | 13 => .array .int
  | 14 => .array .int
  | 15 => .array .int
  | 16 => .int
  | 17 => .int
  | 18 => .array .boolean
  | 19 => .int
  | 20 => .array .int
  | 21 => .array .int
  | 22 => .array .int
  | 23 => .array .int
  | 24 => .int
  | 25 => .array .int
  | 26 => .array .int
  | 27 => .array .int
  | 28 => .array .int
  | 29 => .array .int
  | 30 => .int
  | 31 => .int
  | 32 => .int
  | 33 => .int
  | _ => .int
abbrev wsX80 : List Cond := u_ws RX8 TX8 35
theorem nmX8 : ∀ a, a < 35 → ∀ b, b < 35 → a ≠ b → (TX8 a).2.1 ≠ (TX8 b).2.1 := by decide +kernel
theorem tyX8_ok : ∀ k, k < 35 → parseFieldDescriptor (TX8 k).2.2.1 = some (tyX8 k) := by decide +kernel
abbrev cX8_in : ByteArray := prog_10_method_1_code
def yX8_in : MethodName := ⟨RX8, "in", "(III)Z"⟩
abbrev cX8_init : ByteArray := prog_10_method_2_code
def yX8_init : MethodName := ⟨RX8, "<init>", "()V"⟩
abbrev cX8_at : ByteArray := prog_10_method_3_code
def yX8_at : MethodName := ⟨RX8, "at", "(II)I"⟩
abbrev cX8_clears : ByteArray := prog_10_method_4_code
def yX8_clears : MethodName := ⟨RX8, "clears", "(I)V"⟩
abbrev cX8_lowestFree : ByteArray := prog_10_method_5_code
def yX8_lowestFree : MethodName := ⟨RX8, "lowestFree", "()I"⟩
abbrev cX8_freeMany : ByteArray := prog_10_method_6_code
def yX8_freeMany : MethodName := ⟨RX8, "freeMany", "()I"⟩
abbrev cX8_startOf : ByteArray := prog_10_method_7_code
def yX8_startOf : MethodName := ⟨RX8, "startOf", "(II)I"⟩
abbrev cX8_usedOf : ByteArray := prog_10_method_8_code
def yX8_usedOf : MethodName := ⟨RX8, "usedOf", "(I)I"⟩
abbrev cX8_childOf : ByteArray := prog_10_method_9_code
def yX8_childOf : MethodName := ⟨RX8, "childOf", "(II)I"⟩
abbrev cX8_bytesOf : ByteArray := prog_10_method_10_code
def yX8_bytesOf : MethodName := ⟨RX8, "bytesOf", "(II)I"⟩
abbrev cX8_comeOut : ByteArray := prog_10_method_11_code
def yX8_comeOut : MethodName := ⟨RX8, "comeOut", "(I)V"⟩
abbrev cX8_goBack : ByteArray := prog_10_method_12_code
def yX8_goBack : MethodName := ⟨RX8, "goBack", "(IIIII)V"⟩
abbrev cX8_copies : ByteArray := prog_10_method_13_code
def yX8_copies : MethodName := ⟨RX8, "copies", "(II)V"⟩
abbrev cX8_comesIn : ByteArray := prog_10_method_14_code
def yX8_comesIn : MethodName := ⟨RX8, "comesIn", "(I[III)V"⟩
abbrev cX8_goesOut : ByteArray := prog_10_method_15_code
def yX8_goesOut : MethodName := ⟨RX8, "goesOut", "(I)V"⟩
abbrev cX8_half : ByteArray := prog_10_method_16_code
def yX8_half : MethodName := ⟨RX8, "half", "()I"⟩
abbrev cX8_shortest : ByteArray := prog_10_method_17_code
def yX8_shortest : MethodName := ⟨RX8, "shortest", "(I)I"⟩
abbrev cX8_goesUp : ByteArray := prog_10_method_18_code
def yX8_goesUp : MethodName := ⟨RX8, "goesUp", "(II)V"⟩
abbrev cX8_setUp : ByteArray := prog_10_method_19_code
def yX8_setUp : MethodName := ⟨RX8, "setUp", "(II)V"⟩
abbrev cX8_share : ByteArray := prog_10_method_20_code
def yX8_share : MethodName := ⟨RX8, "share", "(IIIII)V"⟩
abbrev cX8_spells : ByteArray := prog_10_method_21_code
def yX8_spells : MethodName := ⟨RX8, "spells", "(II)V"⟩
abbrev cX8_isSpelled : ByteArray := prog_10_method_22_code
def yX8_isSpelled : MethodName := ⟨RX8, "isSpelled", "(II)Z"⟩
abbrev cX8_against : ByteArray := prog_10_method_23_code
def yX8_against : MethodName := ⟨RX8, "against", "(II)I"⟩
abbrev cX8_goesDown : ByteArray := prog_10_method_24_code
def yX8_goesDown : MethodName := ⟨RX8, "goesDown", "()V"⟩
abbrev cX8_placeIn : ByteArray := prog_10_method_25_code
def yX8_placeIn : MethodName := ⟨RX8, "placeIn", "(I)I"⟩
abbrev cX8_isAt : ByteArray := prog_10_method_26_code
def yX8_isAt : MethodName := ⟨RX8, "isAt", "(II)Z"⟩
abbrev cX8_tellAt : ByteArray := prog_10_method_27_code
def yX8_tellAt : MethodName := ⟨RX8, "tellAt", "(II)I"⟩
abbrev cX8_valueOf : ByteArray := prog_10_method_28_code
def yX8_valueOf : MethodName := ⟨RX8, "valueOf", "()I"⟩
abbrev cX8_putKey : ByteArray := prog_10_method_29_code
def yX8_putKey : MethodName := ⟨RX8, "putKey", "(I)I"⟩
abbrev cX8_newRoot : ByteArray := prog_10_method_30_code
def yX8_newRoot : MethodName := ⟨RX8, "newRoot", "(II)V"⟩
abbrev cX8_put : ByteArray := prog_10_method_31_code
def yX8_put : MethodName := ⟨RX8, "put", "(III)I"⟩
abbrev cX8_takeKey : ByteArray := prog_10_method_32_code
def yX8_takeKey : MethodName := ⟨RX8, "takeKey", "()I"⟩
abbrev cX8_mends : ByteArray := prog_10_method_33_code
def yX8_mends : MethodName := ⟨RX8, "mends", "(I)Z"⟩
abbrev cX8_take : ByteArray := prog_10_method_34_code
def yX8_take : MethodName := ⟨RX8, "take", "(II)I"⟩
abbrev cX8_isLoad : ByteArray := prog_10_method_35_code
def yX8_isLoad : MethodName := ⟨RX8, "isLoad", "(III)Z"⟩
abbrev cX8_loads : ByteArray := prog_10_method_36_code
def yX8_loads : MethodName := ⟨RX8, "loads", "(III)I"⟩
abbrev cX8_loadsInner : ByteArray := prog_10_method_37_code
def yX8_loadsInner : MethodName := ⟨RX8, "loadsInner", "(I)V"⟩
abbrev cX8_load : ByteArray := prog_10_method_38_code
def yX8_load : MethodName := ⟨RX8, "load", "(III)I"⟩
abbrev cX8_find : ByteArray := prog_10_method_39_code
def yX8_find : MethodName := ⟨RX8, "find", "(II)I"⟩
abbrev cX8_firstLeaf : ByteArray := prog_10_method_40_code
def yX8_firstLeaf : MethodName := ⟨RX8, "firstLeaf", "()I"⟩
abbrev cX8_nextLeaf : ByteArray := prog_10_method_41_code
def yX8_nextLeaf : MethodName := ⟨RX8, "nextLeaf", "(I)I"⟩
abbrev cX8_beginsSo : ByteArray := prog_10_method_42_code
def yX8_beginsSo : MethodName := ⟨RX8, "beginsSo", "(II)Z"⟩
abbrev cX8_rank : ByteArray := prog_10_method_43_code
def yX8_rank : MethodName := ⟨RX8, "rank", "(III)I"⟩
abbrev cX8_path : ByteArray := prog_10_method_44_code
def yX8_path : MethodName := ⟨RX8, "path", "(III)I"⟩
abbrev cX8_keys : ByteArray := prog_10_method_45_code
def yX8_keys : MethodName := ⟨RX8, "keys", "()I"⟩
abbrev cX8_whereIs : ByteArray := prog_10_method_46_code
def yX8_whereIs : MethodName := ⟨RX8, "whereIs", "(I)I"⟩
abbrev cX8_letter : ByteArray := prog_10_method_47_code
def yX8_letter : MethodName := ⟨RX8, "letter", "(II)I"⟩
abbrev cX8_value : ByteArray := prog_10_method_48_code
def yX8_value : MethodName := ⟨RX8, "value", "(I)I"⟩
abbrev cX8_isPage : ByteArray := prog_10_method_49_code
def yX8_isPage : MethodName := ⟨RX8, "isPage", "(I)Z"⟩
abbrev cX8_page : ByteArray := prog_10_method_50_code
def yX8_page : MethodName := ⟨RX8, "page", "(II)I"⟩
abbrev cX8_byteAt : ByteArray := prog_10_method_51_code
def yX8_byteAt : MethodName := ⟨RX8, "byteAt", "(II)I"⟩
abbrev cX8_as : ByteArray := prog_10_method_52_code
def yX8_as : MethodName := ⟨RX8, "as", "(II)I"⟩
abbrev cX8_isRead : ByteArray := prog_10_method_53_code
def yX8_isRead : MethodName := ⟨RX8, "isRead", "(II)Z"⟩
abbrev cX8_compares : ByteArray := prog_10_method_54_code
def yX8_compares : MethodName := ⟨RX8, "compares", "(II)I"⟩
abbrev cX8_rises : ByteArray := prog_10_method_55_code
def yX8_rises : MethodName := ⟨RX8, "rises", "(I)Z"⟩
abbrev cX8_isWithin : ByteArray := prog_10_method_56_code
def yX8_isWithin : MethodName := ⟨RX8, "isWithin", "(III)Z"⟩
abbrev cX8_childAs : ByteArray := prog_10_method_57_code
def yX8_childAs : MethodName := ⟨RX8, "childAs", "(II)I"⟩
abbrev cX8_hasChildren : ByteArray := prog_10_method_58_code
def yX8_hasChildren : MethodName := ⟨RX8, "hasChildren", "(I)Z"⟩
abbrev cX8_why : ByteArray := prog_10_method_59_code
def yX8_why : MethodName := ⟨RX8, "why", "(IIII)I"⟩
abbrev cX8_waits : ByteArray := prog_10_method_60_code
def yX8_waits : MethodName := ⟨RX8, "waits", "(IIII)V"⟩
abbrev cX8_childrenWait : ByteArray := prog_10_method_61_code
def yX8_childrenWait : MethodName := ⟨RX8, "childrenWait", "(IIII)V"⟩
abbrev cX8_startAs : ByteArray := prog_10_method_62_code
def yX8_startAs : MethodName := ⟨RX8, "startAs", "(II)I"⟩
abbrev cX8_wrongDown : ByteArray := prog_10_method_63_code
def yX8_wrongDown : MethodName := ⟨RX8, "wrongDown", "()I"⟩
abbrev cX8_wrongNext : ByteArray := prog_10_method_64_code
def yX8_wrongNext : MethodName := ⟨RX8, "wrongNext", "()I"⟩
abbrev cX8_wrongFree : ByteArray := prog_10_method_65_code
def yX8_wrongFree : MethodName := ⟨RX8, "wrongFree", "()I"⟩
abbrev cX8_check : ByteArray := prog_10_method_66_code
def yX8_check : MethodName := ⟨RX8, "check", "(III)I"⟩
abbrev cX8_usedAll : ByteArray := prog_10_method_67_code
def yX8_usedAll : MethodName := ⟨RX8, "usedAll", "()I"⟩
abbrev cX8_sorted : ByteArray := prog_10_method_68_code
def yX8_sorted : MethodName := ⟨RX8, "sorted", "(I)I"⟩
abbrev cX8_separators : ByteArray := prog_10_method_69_code
def yX8_separators : MethodName := ⟨RX8, "separators", "()I"⟩
abbrev cX8_count : ByteArray := prog_10_method_70_code
def yX8_count : MethodName := ⟨RX8, "count", "(I)I"⟩
abbrev cX8_digest : ByteArray := prog_10_method_71_code
def yX8_digest : MethodName := ⟨RX8, "digest", "()J"⟩
abbrev cX8_keep : ByteArray := prog_10_method_72_code
def yX8_keep : MethodName := ⟨RX8, "keep", "(I)I"⟩
abbrev cX8_back : ByteArray := prog_10_method_73_code
def yX8_back : MethodName := ⟨RX8, "back", "(I)I"⟩
abbrev cX8_type : ByteArray := prog_10_method_74_code
def yX8_type : MethodName := ⟨RX8, "type", "(I)I"⟩
abbrev cX8_clear : ByteArray := prog_10_method_75_code
def yX8_clear : MethodName := ⟨RX8, "clear", "()I"⟩
abbrev cX8_times : ByteArray := prog_10_method_76_code
def yX8_times : MethodName := ⟨RX8, "times", "(I)I"⟩
abbrev cX8_here : ByteArray := prog_10_method_77_code
def yX8_here : MethodName := ⟨RX8, "here", "()I"⟩
abbrev cX8_skip : ByteArray := prog_10_method_78_code
def yX8_skip : MethodName := ⟨RX8, "skip", "()V"⟩
abbrev cX8_lettersHere : ByteArray := prog_10_method_79_code
def yX8_lettersHere : MethodName := ⟨RX8, "lettersHere", "()I"⟩
abbrev cX8_number : ByteArray := prog_10_method_80_code
def yX8_number : MethodName := ⟨RX8, "number", "(II)Z"⟩
abbrev cX8_ends : ByteArray := prog_10_method_81_code
def yX8_ends : MethodName := ⟨RX8, "ends", "()Z"⟩
abbrev cX8_readsKey : ByteArray := prog_10_method_82_code
def yX8_readsKey : MethodName := ⟨RX8, "readsKey", "()Z"⟩
abbrev cX8_letterAt : ByteArray := prog_10_method_83_code
def yX8_letterAt : MethodName := ⟨RX8, "letterAt", "(I)I"⟩
abbrev cX8_commandHere : ByteArray := prog_10_method_84_code
def yX8_commandHere : MethodName := ⟨RX8, "commandHere", "()I"⟩
abbrev cX8_readsLoad : ByteArray := prog_10_method_85_code
def yX8_readsLoad : MethodName := ⟨RX8, "readsLoad", "()Z"⟩
abbrev cX8_readsRest : ByteArray := prog_10_method_86_code
def yX8_readsRest : MethodName := ⟨RX8, "readsRest", "(I)Z"⟩
abbrev cX8_readsCommand : ByteArray := prog_10_method_87_code
def yX8_readsCommand : MethodName := ⟨RX8, "readsCommand", "()I"⟩
abbrev cX8_does : ByteArray := prog_10_method_88_code
def yX8_does : MethodName := ⟨RX8, "does", "(I)Z"⟩
abbrev cX8_run : ByteArray := prog_10_method_89_code
def yX8_run : MethodName := ⟨RX8, "run", "()I"⟩
def RJx145de : String := "java/io/Serializable"
def TJx145de : u_T := fun k => match k with
  | _ => ("", "", "", false)
def tyJx145de : Nat → FieldType := fun k => match k with
  | _ => .int
abbrev wsJx145de0 : List Cond := u_ws RJx145de TJx145de 0
theorem nmJx145de : ∀ a, a < 0 → ∀ b, b < 0 → a ≠ b → (TJx145de a).2.1 ≠ (TJx145de b).2.1 := by decide +kernel
theorem tyJx145de_ok : ∀ k, k < 0 → parseFieldDescriptor (TJx145de k).2.2.1 = some (tyJx145de k) := by decide +kernel
def RJx9f9b0 : String := "java/lang/CharSequence"
def TJx9f9b0 : u_T := fun k => match k with
  | _ => ("", "", "", false)
def tyJx9f9b0 : Nat → FieldType := fun k => match k with
  | _ => .int
abbrev wsJx9f9b00 : List Cond := u_ws RJx9f9b0 TJx9f9b0 0
theorem nmJx9f9b0 : ∀ a, a < 0 → ∀ b, b < 0 → a ≠ b → (TJx9f9b0 a).2.1 ≠ (TJx9f9b0 b).2.1 := by decide +kernel
theorem tyJx9f9b0_ok : ∀ k, k < 0 → parseFieldDescriptor (TJx9f9b0 k).2.2.1 = some (tyJx9f9b0 k) := by decide +kernel
def RJxb160c : String := "java/lang/Comparable"
def TJxb160c : u_T := fun k => match k with
  | _ => ("", "", "", false)
def tyJxb160c : Nat → FieldType := fun k => match k with
  | _ => .int
abbrev wsJxb160c0 : List Cond := u_ws RJxb160c TJxb160c 0
theorem nmJxb160c : ∀ a, a < 0 → ∀ b, b < 0 → a ≠ b → (TJxb160c a).2.1 ≠ (TJxb160c b).2.1 := by decide +kernel
theorem tyJxb160c_ok : ∀ k, k < 0 → parseFieldDescriptor (TJxb160c k).2.2.1 = some (tyJxb160c k) := by decide +kernel
def RJ9 : String := "java/lang/Math"
def TJ9 : u_T := fun k => match k with
  | _ => ("", "", "", false)
def tyJ9 : Nat → FieldType := fun k => match k with
  | _ => .int
abbrev wsJ90 : List Cond := u_ws RJ9 TJ9 0
theorem nmJ9 : ∀ a, a < 0 → ∀ b, b < 0 → a ≠ b → (TJ9 a).2.1 ≠ (TJ9 b).2.1 := by decide +kernel
theorem tyJ9_ok : ∀ k, k < 0 → parseFieldDescriptor (TJ9 k).2.2.1 = some (tyJ9 k) := by decide +kernel
abbrev cJ9_max_7cf53 : ByteArray := prog_11_method_65_code
def yJ9_max_7cf53 : MethodName := ⟨RJ9, "max", "(II)I"⟩
abbrev cJ9_min_7cf53 : ByteArray := prog_11_method_69_code
def yJ9_min_7cf53 : MethodName := ⟨RJ9, "min", "(II)I"⟩
def RJ0 : String := "java/lang/String"
def TJ0 : u_T := fun k => match k with
  | _ => ("", "", "", false)
def tyJ0 : Nat → FieldType := fun k => match k with
  | _ => .int
abbrev wsJ00 : List Cond := u_ws RJ0 TJ0 0
theorem nmJ0 : ∀ a, a < 0 → ∀ b, b < 0 → a ≠ b → (TJ0 a).2.1 ≠ (TJ0 b).2.1 := by decide +kernel
theorem tyJ0_ok : ∀ k, k < 0 → parseFieldDescriptor (TJ0 k).2.2.1 = some (tyJ0 k) := by decide +kernel
abbrev cJ0_length_8abf5 : ByteArray := prog_12_method_54_code
def yJ0_length_8abf5 : MethodName := ⟨RJ0, "length", "()I"⟩
abbrev cJ0_charAt_5068e : ByteArray := prog_12_method_56_code
def yJ0_charAt_5068e : MethodName := ⟨RJ0, "charAt", "(I)C"⟩
abbrev cJ0_coder_7d493 : ByteArray := prog_12_method_152_code
def yJ0_coder_7d493 : MethodName := ⟨RJ0, "coder", "()B"⟩
abbrev cJ0_isLatin1_aae02 : ByteArray := prog_12_method_154_code
def yJ0_isLatin1_aae02 : MethodName := ⟨RJ0, "isLatin1", "()Z"⟩
abbrev cJ0_checkIndex_df160 : ByteArray := prog_12_method_155_code
def yJ0_checkIndex_df160 : MethodName := ⟨RJ0, "checkIndex", "(II)V"⟩
def RJ1 : String := "java/lang/StringLatin1"
def TJ1 : u_T := fun k => match k with
  | _ => ("", "", "", false)
def tyJ1 : Nat → FieldType := fun k => match k with
  | _ => .int
abbrev wsJ10 : List Cond := u_ws RJ1 TJ1 0
theorem nmJ1 : ∀ a, a < 0 → ∀ b, b < 0 → a ≠ b → (TJ1 a).2.1 ≠ (TJ1 b).2.1 := by decide +kernel
theorem tyJ1_ok : ∀ k, k < 0 → parseFieldDescriptor (TJ1 k).2.2.1 = some (tyJ1 k) := by decide +kernel
abbrev cJ1_charAt_3b067 : ByteArray := prog_13_method_2_code
def yJ1_charAt_3b067 : MethodName := ⟨RJ1, "charAt", "([BI)C"⟩
def RJ2 : String := "java/lang/StringUTF16"
def TJ2 : u_T := fun k => match k with
  | _ => ("", "", "", false)
def tyJ2 : Nat → FieldType := fun k => match k with
  | _ => .int
abbrev wsJ20 : List Cond := u_ws RJ2 TJ2 0
theorem nmJ2 : ∀ a, a < 0 → ∀ b, b < 0 → a ≠ b → (TJ2 a).2.1 ≠ (TJ2 b).2.1 := by decide +kernel
theorem tyJ2_ok : ∀ k, k < 0 → parseFieldDescriptor (TJ2 k).2.2.1 = some (tyJ2 k) := by decide +kernel
abbrev cJ2_getChar_3b067 : ByteArray := prog_14_method_5_code
def yJ2_getChar_3b067 : MethodName := ⟨RJ2, "getChar", "([BI)C"⟩
abbrev cJ2_length_9d52b : ByteArray := prog_14_method_6_code
def yJ2_length_9d52b : MethodName := ⟨RJ2, "length", "([B)I"⟩
abbrev cJ2_charAt_3b067 : ByteArray := prog_14_method_83_code
def yJ2_charAt_3b067 : MethodName := ⟨RJ2, "charAt", "([BI)C"⟩
abbrev cJ2_checkIndex_2214a : ByteArray := prog_14_method_91_code
def yJ2_checkIndex_2214a : MethodName := ⟨RJ2, "checkIndex", "(I[B)V"⟩
def RJxfd54e : String := "java/lang/constant/Constable"
def TJxfd54e : u_T := fun k => match k with
  | _ => ("", "", "", false)
def tyJxfd54e : Nat → FieldType := fun k => match k with
  | _ => .int
abbrev wsJxfd54e0 : List Cond := u_ws RJxfd54e TJxfd54e 0
theorem nmJxfd54e : ∀ a, a < 0 → ∀ b, b < 0 → a ≠ b → (TJxfd54e a).2.1 ≠ (TJxfd54e b).2.1 := by decide +kernel
theorem tyJxfd54e_ok : ∀ k, k < 0 → parseFieldDescriptor (TJxfd54e k).2.2.1 = some (tyJxfd54e k) := by decide +kernel
def RJx3cf43 : String := "java/lang/constant/ConstantDesc"
def TJx3cf43 : u_T := fun k => match k with
  | _ => ("", "", "", false)
def tyJx3cf43 : Nat → FieldType := fun k => match k with
  | _ => .int
abbrev wsJx3cf430 : List Cond := u_ws RJx3cf43 TJx3cf43 0
theorem nmJx3cf43 : ∀ a, a < 0 → ∀ b, b < 0 → a ≠ b → (TJx3cf43 a).2.1 ≠ (TJx3cf43 b).2.1 := by decide +kernel
theorem tyJx3cf43_ok : ∀ k, k < 0 → parseFieldDescriptor (TJx3cf43 k).2.2.1 = some (tyJx3cf43 k) := by decide +kernel
def RJ7 : String := "java/util/Arrays"
def TJ7 : u_T := fun k => match k with
  | _ => ("", "", "", false)
def tyJ7 : Nat → FieldType := fun k => match k with
  | _ => .int
abbrev wsJ70 : List Cond := u_ws RJ7 TJ7 0
theorem nmJ7 : ∀ a, a < 0 → ∀ b, b < 0 → a ≠ b → (TJ7 a).2.1 ≠ (TJ7 b).2.1 := by decide +kernel
theorem tyJ7_ok : ∀ k, k < 0 → parseFieldDescriptor (TJ7 k).2.2.1 = some (tyJ7 k) := by decide +kernel
abbrev cJ7_fill_53178 : ByteArray := prog_15_method_103_code
def yJ7_fill_53178 : MethodName := ⟨RJ7, "fill", "([II)V"⟩
def RJ3 : String := "jdk/internal/util/Preconditions"
def TJ3 : u_T := fun k => match k with
  | _ => ("", "", "", false)
def tyJ3 : Nat → FieldType := fun k => match k with
  | _ => .int
abbrev wsJ30 : List Cond := u_ws RJ3 TJ3 0
theorem nmJ3 : ∀ a, a < 0 → ∀ b, b < 0 → a ≠ b → (TJ3 a).2.1 ≠ (TJ3 b).2.1 := by decide +kernel
theorem tyJ3_ok : ∀ k, k < 0 → parseFieldDescriptor (TJ3 k).2.2.1 = some (tyJ3 k) := by decide +kernel
abbrev cJ3_checkIndex_8e157 : ByteArray := prog_16_method_11_code
def yJ3_checkIndex_8e157 : MethodName := ⟨RJ3, "checkIndex", "(IILjava/util/function/BiFunction;)I"⟩
def RL : String := "SortedPagesLaw"
abbrev cL_law : ByteArray := code
def yL_law : MethodName := ⟨RL, "law", "([I)Z"⟩
end
section
/-! THE WORLD: a fixed graph of 114 cells; what changes are numbers alone: M k j, the number at slot j of cell k. Cells 0 .. 94 are the class's, 95 .. 113 the model's. -/
abbrev Mem : Type := Nat → Nat → Int
def I (z : Int) : Int32 := Int32.ofInt z
def LL (z : Int) : Int64 := Int64.ofInt z
def up (M : Mem) (k j : Nat) (z : Int) : Mem := fun a b => if a = k ∧ b = j then z else M a b
def mrg (C X : Mem) : Mem := fun k j => if k < 95 then C k j else X k j
theorem mrg_c {C X : Mem} {k j : Nat} (h : k < 95) : mrg C X k j = C k j := if_pos h
theorem mrg_x {C X : Mem} {k j : Nat} (h : 95 ≤ k) : mrg C X k j = X k j := if_neg (by omega)
theorem up_c {C X : Mem} {k j : Nat} {z : Int} (h : k < 95) : up (mrg C X) k j z = mrg (up C k j z) X := by
  funext a b
  unfold up mrg
  by_cases h1 : a = k ∧ b = j
  · obtain ⟨rfl, rfl⟩ := h1
    simp [h]
  · by_cases h2 : a < 95 <;> simp [h1, h2]
theorem up_x {C X : Mem} {k j : Nat} {z : Int} (h : 95 ≤ k) : up (mrg C X) k j z = mrg C (up X k j z) := by
  funext a b
  unfold up mrg
  by_cases h1 : a = k ∧ b = j
  · obtain ⟨rfl, rfl⟩ := h1
    have : ¬ a < 95 := by omega
    simp [this]
  · by_cases h2 : a < 95 <;> simp [h1, h2]
/-- length of a page's bytes: 33 is the wide one -/
def pl (i : Nat) : Nat := if i = 33 then 256 else 64
/-- the shape of a cell: an array (kind 0 int, 1 boolean, 2 images, 3 pages; its length), or an object (its class; of each field the cell that it names, or none: a number) -/
def shS (k : Nat) : (Nat × Nat) ⊕ (Nat × List (Option Nat)) := match k with
  | 0 => .inr (7, [some 1, some 2, some 3, some 4, some 5, some (10 + 2 * 0)])
  | 1 => .inr (6, [some 20, some (27 + 32), some 21, some 22, none, none])
  | 2 => .inr (0, [some 1, some (27 + 33), some (10 + 2 * 1), some (10 + 2 * 2), none, none, none])
  | 3 => .inr (1, [some 1, some 23, some 24, some (10 + 2 * 3), none])
  | 4 => .inr (5, [some 25, none, none, none, none, none, none, some (10 + 2 * 4), some 26])
  | 5 => .inl (2, 2)
  | 6 => .inr (2, [some 8, none, none, none])
  | 7 => .inr (2, [some 9, none, none, none])
  | 8 => .inl (0, 2048)
  | 9 => .inl (0, 2048)
  | 10 => .inr (3, [some 11, none])
  | 11 => .inl (0, 8)
  | 12 => .inr (3, [some 13, none])
  | 13 => .inl (0, 8)
  | 14 => .inr (3, [some 15, none])
  | 15 => .inl (0, 8)
  | 16 => .inr (3, [some 17, none])
  | 17 => .inl (0, 8)
  | 18 => .inr (3, [some 19, none])
  | 19 => .inl (0, 8)
  | 20 => .inl (3, 32)
  | 21 => .inl (0, 32)
  | 22 => .inl (0, 32)
  | 23 => .inl (1, 32)
  | 24 => .inl (0, 32)
  | 25 => .inl (0, 120)
  | 26 => .inl (0, 3)
  | 95 => .inr (8, [some 96, none, none, none, none, none, none, some 97, some 98, some 99, none, some 100, none, some 101, some 102, some 103, none, none, some 104, none, some 105, some 106, some 107, some 108, none, some 109, some 110, some 111, some 112, some 113, none, none, none, none, none])
  | 96 => .inl (0, 2048)
  | 97 => .inl (0, 48)
  | 98 => .inl (0, 384)
  | 99 => .inl (0, 48)
  | 100 => .inl (0, 8)
  | 101 => .inl (0, 8)
  | 102 => .inl (0, 32)
  | 103 => .inl (0, 32)
  | 104 => .inl (1, 32)
  | 105 => .inl (0, 800)
  | 106 => .inl (0, 800)
  | 107 => .inl (0, 800)
  | 108 => .inl (0, 800)
  | 109 => .inl (0, 800)
  | 110 => .inl (0, 4096)
  | 111 => .inl (0, 2)
  | 112 => .inl (0, 2)
  | 113 => .inl (0, 120)
  | _ => .inl (0, 0)
def sh (k : Nat) : (Nat × Nat) ⊕ (Nat × List (Option Nat)) :=
  if 27 ≤ k ∧ k < 61 then .inr (4, [some (61 + (k - 27))]) else if 61 ≤ k ∧ k < 95 then .inl (0, pl (k - 61)) else shS k
theorem sh_page {i : Nat} (h : i < 34) : sh (27 + i) = .inr (4, [some (61 + i)]) := by
  unfold sh
  rw [if_pos (by omega), show 27 + i - 27 = i by omega]
theorem sh_pb {i : Nat} (h : i < 34) : sh (61 + i) = .inl (0, pl i) := by
  unfold sh
  rw [if_neg (by omega), if_pos (by omega), show 61 + i - 61 = i by omega]
theorem sh_key {j : Nat} (h : j < 5) : sh (10 + 2 * j) = .inr (3, [some (11 + 2 * j), none]) := by
  rcases (show j = 0 ∨ j = 1 ∨ j = 2 ∨ j = 3 ∨ j = 4 by omega) with rfl | rfl | rfl | rfl | rfl <;> rfl
theorem sh_kl {j : Nat} (h : j < 5) : sh (11 + 2 * j) = .inl (0, 8) := by
  rcases (show j = 0 ∨ j = 1 ∨ j = 2 ∨ j = 3 ∨ j = 4 by omega) with rfl | rfl | rfl | rfl | rfl <;> rfl
theorem sh_img {j : Nat} (h : j < 2) : sh (6 + j) = .inr (2, [some (8 + j), none, none, none]) := by
  rcases (show j = 0 ∨ j = 1 by omega) with rfl | rfl <;> rfl
theorem sh_ib {j : Nat} (h : j < 2) : sh (8 + j) = .inl (0, 2048) := by
  rcases (show j = 0 ∨ j = 1 by omega) with rfl | rfl <;> rfl
/-- what is fixed in a run: where classes and slots are, the array classes, the cells' addresses, which cells may change, the texts' cells -/
abbrev GT : Type := va_G × (Nat → ClassId) × (Nat → Nat) × (Nat → Prop) × (Nat → Nat) × (Nat → Nat)
def gD (g : GT) : va_G := g.1
def gC (g : GT) : Nat → ClassId := g.2.1
def gA (g : GT) : Nat → Nat := g.2.2.1
def gS (g : GT) : Nat → Prop := g.2.2.2.1
def gK (g : GT) : Nat → Nat := g.2.2.2.2.1
def gV (g : GT) : Nat → Nat := g.2.2.2.2.2
abbrev vwCl : List vw_C := [(RX0, TX0, 7), (RX1, TX1, 5), (RX2, TX2, 4), (RX3, TX3, 2), (RX4, TX4, 1), (RX5, TX5, 9), (RX6, TX6, 6), (RX7, TX7, 6), (RX8, TX8, 35)]
def tys (g : GT) : List (ClassId × FieldType) := [(gC g 0, .int), (gC g 1, .boolean), (gC g 2, .object "SortedPages$Image"), (gC g 3, .object "SortedPages$Page")]
def fv (g : GT) (M : Mem) (k : Nat) : Nat → List (Option Nat) → List Value
  | _, [] => []
  | j, some k' :: r => .ref (gA g k') :: fv g M k (j + 1) r
  | j, none :: r => .int (I (M k j)) :: fv g M k (j + 1) r
def rb (t : Nat) : Nat := if t = 2 then 6 else 27
def av (g : GT) (M : Mem) (k t n : Nat) : vp_A := if t < 2 then (n, .inl (fun j => I (M k j))) else (n, .inr (.inr (.inr (.inr (fun j => some (gA g (rb t + j)))))))
def cellAt (g : GT) (M : Mem) (k : Nat) : va_E := match sh k with
  | .inl (t, n) => .inl (gC g t, av g M k t n)
  | .inr (ci, fl) => .inr (ci, fv g M k 0 fl)
def wsM (g : GT) (M : Mem) : va_W := (List.range 114).map (fun k => (gA g k, cellAt g M k))
theorem wsM_at {g : GT} {M : Mem} {k : Nat} (h : k < 114) : (wsM g M)[k]? = some (gA g k, cellAt g M k) := by
  simp [wsM, h]
theorem wsM_len {g : GT} {M : Mem} : (wsM g M).length = 114 := by simp [wsM]
theorem wsM_set {g : GT} {M M' : Mem} {k : Nat} {e : va_E} (h : k < 114) (he : cellAt g M' k = e) (ho : ∀ j, j ≠ k → cellAt g M' j = cellAt g M j) : (wsM g M).set k (gA g k, e) = wsM g M' := by
  apply List.ext_getElem?
  intro j
  rw [List.getElem?_set]
  by_cases hj : k = j
  · subst hj
    rw [if_pos rfl, if_pos (by rw [wsM_len]; exact h), wsM_at h, he]
  · rw [if_neg hj]
    by_cases hl : j < 114
    · rw [wsM_at hl, wsM_at hl, ho j (fun e => hj e.symm)]
    · rw [List.getElem?_eq_none (by rw [wsM_len]; omega), List.getElem?_eq_none (by rw [wsM_len]; omega)]
theorem wsM_D {g : GT} {A : Nat → Prop} {M M' : Mem} (h : va_D A (wsM g M)) : va_D A (wsM g M') := by
  have hh : ∀ (M : Mem) (k : Nat) (q : Nat × va_E), (wsM g M)[k]? = some q → k < 114 ∧ q.1 = gA g k := by
    intro M k q hq
    have hk : k < 114 := by
      rcases Nat.lt_or_ge k 114 with h | h
      · exact h
      · rw [List.getElem?_eq_none (by rw [wsM_len]; omega)] at hq; cases hq
    rw [wsM_at hk] at hq
    cases hq
    exact ⟨hk, rfl⟩
  refine ⟨fun i j p q hp hq e => ?_, fun k q hq => ?_⟩
  · obtain ⟨h1, h2⟩ := hh M' i p hp
    obtain ⟨h3, h4⟩ := hh M' j q hq
    exact h.1 i j _ _ (wsM_at h1) (wsM_at h3) (by rw [h2, h4] at e; exact e)
  · obtain ⟨h1, h2⟩ := hh M' k q hq
    rw [h2]
    exact h.2 k _ (wsM_at h1)
theorem cellAt_o {g : GT} {M : Mem} {k ci : Nat} {fl : List (Option Nat)} (h : sh k = .inr (ci, fl)) : cellAt g M k = .inr (ci, fv g M k 0 fl) := by
  unfold cellAt; rw [h]
theorem cellAt_a {g : GT} {M : Mem} {k t n : Nat} (h : sh k = .inl (t, n)) : cellAt g M k = .inl (gC g t, av g M k t n) := by
  unfold cellAt; rw [h]
theorem fv_get_n {g : GT} {M : Mem} {k : Nat} : ∀ {fl : List (Option Nat)} {b j : Nat}, fl[j]? = some none → (fv g M k b fl)[j]? = some (.int (I (M k (b + j))))
  | [], b, j, h => by simp at h
  | some x :: r, b, 0, h => by simp at h
  | none :: r, b, 0, h => by simp [fv]
  | some x :: r, b, j + 1, h => by
    have := fv_get_n (g := g) (M := M) (k := k) (fl := r) (b := b + 1) (j := j) (by simpa using h)
    simpa [fv, Nat.add_assoc, Nat.add_comm 1 j] using this
  | none :: r, b, j + 1, h => by
    have := fv_get_n (g := g) (M := M) (k := k) (fl := r) (b := b + 1) (j := j) (by simpa using h)
    simpa [fv, Nat.add_assoc, Nat.add_comm 1 j] using this
theorem fv_get_s {g : GT} {M : Mem} {k k' : Nat} : ∀ {fl : List (Option Nat)} {b j : Nat}, fl[j]? = some (some k') → (fv g M k b fl)[j]? = some (.ref (gA g k'))
  | [], b, j, h => by simp at h
  | some x :: r, b, 0, h => by simp at h; subst h; simp [fv]
  | none :: r, b, 0, h => by simp at h
  | some x :: r, b, j + 1, h => by
    have := fv_get_s (g := g) (M := M) (k := k) (k' := k') (fl := r) (b := b + 1) (j := j) (by simpa using h)
    simpa [fv] using this
  | none :: r, b, j + 1, h => by
    have := fv_get_s (g := g) (M := M) (k := k) (k' := k') (fl := r) (b := b + 1) (j := j) (by simpa using h)
    simpa [fv] using this
theorem fv_len {g : GT} {M : Mem} {k : Nat} : ∀ {fl : List (Option Nat)} {b : Nat}, (fv g M k b fl).length = fl.length
  | [], b => rfl
  | some x :: r, b => by simp [fv, fv_len (fl := r)]
  | none :: r, b => by simp [fv, fv_len (fl := r)]
theorem fv_cong {g : GT} {M M' : Mem} {k : Nat} : ∀ {fl : List (Option Nat)} {b : Nat}, (∀ j, b ≤ j → M k j = M' k j) → fv g M k b fl = fv g M' k b fl
  | [], b, h => rfl
  | some x :: r, b, h => by simp [fv, fv_cong (g := g) (M := M) (M' := M') (k := k) (fl := r) (b := b + 1) (fun j hj => h j (by omega))]
  | none :: r, b, h => by simp [fv, fv_cong (g := g) (M := M) (M' := M') (k := k) (fl := r) (b := b + 1) (fun j hj => h j (by omega)), h b (Nat.le_refl b)]
theorem fv_set {g : GT} {M : Mem} {k : Nat} {z : Int} : ∀ {fl : List (Option Nat)} {b j : Nat}, fl[j]? = some none → (fv g M k b fl).set j (.int (I z)) = fv g (up M k (b + j) z) k b fl
  | [], b, j, h => by simp at h
  | some x :: r, b, 0, h => by simp at h
  | none :: r, b, 0, h => by
    have e : fv g (up M k b z) k (b + 1) r = fv g M k (b + 1) r := fv_cong (fun j hj => by unfold up; rw [if_neg (by omega)])
    simp [fv, e, up]
  | some x :: r, b, j + 1, h => by
    have := fv_set (g := g) (M := M) (k := k) (z := z) (fl := r) (b := b + 1) (j := j) (by simpa using h)
    simp only [fv, List.set_cons_succ]
    rw [this, show b + 1 + j = b + (j + 1) by omega]
  | none :: r, b, j + 1, h => by
    have := fv_set (g := g) (M := M) (k := k) (z := z) (fl := r) (b := b + 1) (j := j) (by simpa using h)
    simp only [fv, List.set_cons_succ]
    rw [this, show b + 1 + j = b + (j + 1) by omega]
    have e : up M k (b + (j + 1)) z k b = M k b := by unfold up; rw [if_neg (by omega)]
    rw [e]
theorem cellAt_other {g : GT} {M : Mem} {k j i : Nat} {z : Int} (h : i ≠ k) : cellAt g (up M k j z) i = cellAt g M i := by
  have hu : ∀ b, up M k j z i b = M i b := fun b => by unfold up; rw [if_neg (fun q => h q.1)]
  unfold cellAt
  split
  · simp only [av, hu]
  · rw [fv_cong (fun b _ => hu b)]
theorem ws_putf {g : GT} {M : Mem} {k j ci : Nat} {fl : List (Option Nat)} {z : Int} (hk : k < 114) (h : sh k = .inr (ci, fl)) (hj : fl[j]? = some none) :
    (wsM g M).set k (gA g k, .inr (ci, (fv g M k 0 fl).set j (.int (I z)))) = wsM g (up M k j z) := by
  refine wsM_set hk ?_ (fun i hi => cellAt_other hi)
  rw [cellAt_o h, fv_set hj, Nat.zero_add]
theorem ws_puta {g : GT} {M : Mem} {k j t n : Nat} {z : Int} (hk : k < 114) (h : sh k = .inl (t, n)) (ht : t < 2) :
    (wsM g M).set k (gA g k, .inl (gC g t, n, .inl (upd (fun b => I (M k b)) j (I z)))) = wsM g (up M k j z) := by
  refine wsM_set hk ?_ (fun i hi => cellAt_other hi)
  rw [cellAt_a h, av, if_pos ht]
  congr 4
  funext b
  by_cases hb : b = j
  · subst hb
    simp [up, upd]
  · simp [up, upd, hb]
/-! the tables: words that go from caller to callee (TB), those that don't (NS: links between nest mates) -/
def TB : List Cond := lw_tbl.filter goodWord
def isN : Cond → Bool
  | .fieldLinkNest .. => true
  | .methodLinkNest .. => true
  | _ => false
def NS : List Cond := lw_tbl.filter isN
theorem TB_good {w : Cond} (h : w ∈ TB) : goodWord w = true := (List.mem_filter.mp h).2
theorem TB_GoodIn {ws : List Cond} (h : ∀ w ∈ ws, w ∈ TB) : GoodIn TB ws := fun w hw => ⟨h w hw, good_of_word (TB_good (h w hw))⟩
def txB : List (List Int32) := [[112, 117, 116], [116, 97, 107, 101], [108, 111, 97, 100]]
def txL : List Nat := [3, 4, 4]
def Ext (g : GT) (U : State) : Prop := (∀ w ∈ NS, va_Nw w U) ∧ vk_S 3 txL txB (gK g) (gV g) (gS g) U U.heap ∧ vk_R RX5 51 "put" (gK g 0) U ∧ vk_R RX5 70 "take" (gK g 1) U ∧ vk_R RX5 72 "load" (gK g 2) U ∧ va_Z "java/lang/String" "COMPACT_STRINGS" "Z" (.int 1) (gS g) U U.heap
def World (g : GT) (M : Mem) (U : State) : Prop := va_P (gD g) vwCl (wsM g M) U.heap ∧ va_K (gD g) vwCl (tys g) U ∧ va_D (gS g) (wsM g M) ∧ Ext g U
theorem NS_warm {w : Cond} {s U : State} (hw : isN w = true) (hW : s.WarmedH U.vm) (h : va_Nw w s) : va_Nw w U := by
  cases w <;> first | exact va_Nw.warmF hW h | exact va_Nw.warmM hW h | (simp [isN] at hw)
theorem Ext.warm {g : GT} {s t : State} (h : Ext g s) (hW : s.WarmedH t.vm) (hk : ∀ q : Nat, q < s.heap.size → ¬ gS g q → t.heap[q]? = s.heap[q]?) : Ext g t := by
  obtain ⟨h1, h2, h3, h4, h5, h6⟩ := h
  exact ⟨fun w hw => NS_warm (List.mem_filter.mp hw).2 hW (h1 w hw), vk_S.moved hW.alike (vk_S.kept h2 hk), vk_R.warm hW h3, vk_R.warm hW h4, vk_R.warm hW h5, va_Z.moved hW.alike (va_Z.kept h6 hk)⟩
theorem Ext.same {g : GT} {s t : State} (h : Ext g s) (hv : s.vm = t.vm) (hh : t.heap = s.heap) : Ext g t := by
  obtain ⟨h1, h2, h3, h4, h5, h6⟩ := h
  have hk : ∀ q : Nat, q < s.heap.size → ¬ gS g q → t.heap[q]? = s.heap[q]? := fun q _ _ => by rw [hh]
  have hal : s.vm.Alike t.vm := by rw [hv]; exact Vm.Alike.refl _
  exact ⟨fun w hw => va_Nw.same (by have := (List.mem_filter.mp hw).2; cases w <;> first | rfl | (simp [isN] at this)) hv (h1 w hw), vk_S.moved hal (vk_S.kept h2 hk), vk_R.same hv.symm h3, vk_R.same hv.symm h4, vk_R.same hv.symm h5, va_Z.moved hal (va_Z.kept h6 hk)⟩
end
section
/-! ROWS: an instruction each, over the flat memory. K bundles what a walk holds fixed. -/
abbrev KT : Type := Program × Launch × Env × Room × State × MethodId × Array Value × List Frame × Method × Code × (State → Prop) × Nat
def kP (K : KT) : Program := K.1
def kL (K : KT) : Launch := K.2.1
def kE (K : KT) : Env := K.2.2.1
def kR (K : KT) : Room := K.2.2.2.1
def kS (K : KT) : State := K.2.2.2.2.1
def kM (K : KT) : MethodId := K.2.2.2.2.2.1
def kA (K : KT) : Array Value := K.2.2.2.2.2.2.1
def kB (K : KT) : List Frame := K.2.2.2.2.2.2.2.1
def kMe (K : KT) : Method := K.2.2.2.2.2.2.2.2.1
def kC (K : KT) : Code := K.2.2.2.2.2.2.2.2.2.1
def kQ (K : KT) : State → Prop := K.2.2.2.2.2.2.2.2.2.2.1
def kN (K : KT) : Nat := K.2.2.2.2.2.2.2.2.2.2.2
def lh (ls : Array Slot) (n : Nat) (lv : List (Option Value)) : Prop := ls.size = n ∧ lv_wf ls ∧ ∀ (i : Nat) (v : Value), lv[i]? = some (some v) → ls[i]? = some (.val v)
def Wn (K : KT) (g : GT) (M : Mem) (pc : Nat) (lv : List (Option Value)) (st : List Value) : Prop :=
  ∀ (H : Heap) (locs : List Loc) (ls : Array Slot), va_P (gD g) vwCl (wsM g M) H → va_S (gS g) (kS K).heap H locs → lh ls (kN K) lv → W (kP K) (kL K) (kE K) (kR K) (kS K) (kM K) (kA K) (kB K) (kMe K) (kC K) H locs 0 0 (kQ K) (F0 (kM K) pc ls st)
def rm (d : Nat) : Room := { frames := d, cells := 0, slots := 0, locals := 40 * d }
def Kok (K : KT) (g : GT) (cc : ByteArray) (own : String) (d : Nat) : Prop :=
  (kP K).tables.exec = Jvm.exec ∧ (kC K).code = cc ∧ (kC K).maxLocals = kN K ∧ (kS K).vm.findClass own = some (kM K).cls ∧ (∀ w ∈ TB, w.before (kA K) (kS K) = true) ∧ va_K (gD g) vwCl (tys g) (kS K) ∧ (∀ M : Mem, va_D (gS g) (wsM g M)) ∧ Ext g (kS K) ∧ (kMe K).locks = false ∧ d ≤ (kR K).frames ∧ 40 * d ≤ (kR K).locals
section RW
variable {K : KT} {g : GT} {cc : ByteArray} {own : String} {d : Nat} {M : Mem} {pc : Nat} {lv : List (Option Value)} {st : List Value}
theorem Kok.x (h : Kok K g cc own d) : (kP K).tables.exec = Jvm.exec := h.1
theorem Kok.b (h : Kok K g cc own d) : (kC K).code = cc := h.2.1
theorem Kok.ml (h : Kok K g cc own d) : (kC K).maxLocals = kN K := h.2.2.1
theorem Kok.o (h : Kok K g cc own d) : (kS K).vm.findClass own = some (kM K).cls := h.2.2.2.1
theorem Kok.t (h : Kok K g cc own d) : ∀ w ∈ TB, w.before (kA K) (kS K) = true := h.2.2.2.2.1
theorem Kok.k (h : Kok K g cc own d) : va_K (gD g) vwCl (tys g) (kS K) := h.2.2.2.2.2.1
theorem Kok.dd (h : Kok K g cc own d) (M : Mem) : va_D (gS g) (wsM g M) := h.2.2.2.2.2.2.1 M
theorem Kok.e (h : Kok K g cc own d) : Ext g (kS K) := h.2.2.2.2.2.2.2.1
theorem Kok.lk (h : Kok K g cc own d) : (kMe K).locks = false := h.2.2.2.2.2.2.2.2.1
theorem Kok.f (h : Kok K g cc own d) : d ≤ (kR K).frames := h.2.2.2.2.2.2.2.2.2.1
theorem Kok.l (h : Kok K g cc own d) : 40 * d ≤ (kR K).locals := h.2.2.2.2.2.2.2.2.2.2
/-- numbers -/
abbrev R32 (z : Int) : Prop := -2147483648 ≤ z ∧ z < 2147483648
theorem I_add (a b : Int) : I a + I b = I (a + b) := by unfold I; exact (Int32.ofInt_add a b).symm
theorem I_sub (a b : Int) : I a - I b = I (a - b) := by unfold I; exact (Int32.ofInt_sub a b).symm
theorem I_mul (a b : Int) : I a * I b = I (a * b) := by unfold I; exact (Int32.ofInt_mul a b).symm
theorem I_to {a : Int} (h : R32 a) : (I a).toInt = a := by
  unfold I; exact Int32.toInt_ofInt_of_le (by have := h.1; simpa using this) (by have := h.2; simpa using this)
theorem I_lt {a b : Int} (ha : R32 a) (hb : R32 b) : I a < I b ↔ a < b := by rw [Int32.lt_iff_toInt_lt, I_to ha, I_to hb]
theorem I_le {a b : Int} (ha : R32 a) (hb : R32 b) : I a ≤ I b ↔ a ≤ b := by rw [Int32.le_iff_toInt_le, I_to ha, I_to hb]
theorem I_eq {a b : Int} (ha : R32 a) (hb : R32 b) : I a = I b ↔ a = b := by
  constructor
  · intro h
    have := congrArg Int32.toInt h
    rwa [I_to ha, I_to hb] at this
  · intro h; rw [h]
theorem I_0 : (0 : Int32) = I 0 := by decide
theorem R32_0 : R32 0 := by unfold R32; omega
theorem I_nat {a : Int} {n : Nat} (h0 : 0 ≤ a) (h : a < n) (hn : n < 2147483648) : vp_in (I a) n ∧ (I a).toNatClampNeg = a.toNat := by
  have hr : R32 a := ⟨by omega, by omega⟩
  refine ⟨?_, ?_⟩
  · rw [vp_in_iff, I_to hr]; omega
  · show (I a).toInt.toNat = a.toNat
    rw [I_to hr]
/-! pure answers: f's value is none where the machine would throw, or a number is out of its range at a test -/
def wpO {α : Type} (o : Option (Mem × α)) (Q : Mem → α → Prop) : Prop := ∃ C z, o = some (C, z) ∧ Q C z
def bd {α β : Type} (o : Option (Mem × α)) (k : Mem → α → Option (Mem × β)) : Option (Mem × β) := match o with
  | none => none
  | some (C, z) => k C z
def cLt {β : Type} (a b : Int) (x y : Option β) : Option β := if R32 a ∧ R32 b then (if a < b then x else y) else none
def cEq {β : Type} (a b : Int) (x y : Option β) : Option β := if R32 a ∧ R32 b then (if a = b then x else y) else none
def ix {β : Type} (i : Int) (n : Nat) (x : Option β) : Option β := if 0 ≤ i ∧ i < n then x else none
def dv {β : Type} (a : Int) (x : Option β) : Option β := if 0 ≤ a ∧ a < 2147483648 then x else none
def rg {β : Type} (a b : Int) (x : Option β) : Option β := if R32 a ∧ R32 b then x else none
def jn {α β : Type} (k : α) (b : α → β) : β := b k
theorem wpO_some {α : Type} {C : Mem} {z : α} {Q : Mem → α → Prop} (h : wpO (some (C, z)) Q) : Q C z := by
  obtain ⟨C', z', h1, h2⟩ := h
  cases h1; exact h2
theorem wpO_none {α : Type} {Q : Mem → α → Prop} (h : wpO (none : Option (Mem × α)) Q) : False := by
  obtain ⟨C', z', h1, h2⟩ := h
  cases h1
theorem wpO_bd {α β : Type} {o : Option (Mem × α)} {k : Mem → α → Option (Mem × β)} {Q : Mem → β → Prop} (h : wpO (bd o k) Q) : wpO o (fun C z => wpO (k C z) Q) := by
  match o, h with
  | none, h => exact (wpO_none h).elim
  | some (C, z), h => exact ⟨C, z, rfl, h⟩
theorem wpO_ix {α : Type} {i : Int} {n : Nat} {x : Option (Mem × α)} {Q : Mem → α → Prop} (h : wpO (ix i n x) Q) : (0 ≤ i ∧ i < n) ∧ wpO x Q := by
  unfold ix at h
  by_cases hc : 0 ≤ i ∧ i < n
  · rw [if_pos hc] at h; exact ⟨hc, h⟩
  · rw [if_neg hc] at h; exact (wpO_none h).elim
theorem wpO_dv {α : Type} {a : Int} {x : Option (Mem × α)} {Q : Mem → α → Prop} (h : wpO (dv a x) Q) : (0 ≤ a ∧ a < 2147483648) ∧ wpO x Q := by
  unfold dv at h
  by_cases hc : 0 ≤ a ∧ a < 2147483648
  · rw [if_pos hc] at h; exact ⟨hc, h⟩
  · rw [if_neg hc] at h; exact (wpO_none h).elim
theorem wpO_rg {α : Type} {a b : Int} {x : Option (Mem × α)} {Q : Mem → α → Prop} (h : wpO (rg a b x) Q) : (R32 a ∧ R32 b) ∧ wpO x Q := by
  unfold rg at h
  by_cases hc : R32 a ∧ R32 b
  · rw [if_pos hc] at h; exact ⟨hc, h⟩
  · rw [if_neg hc] at h; exact (wpO_none h).elim
theorem wpO_lt {α : Type} {a b : Int} {x y : Option (Mem × α)} {Q : Mem → α → Prop} (h : wpO (cLt a b x y) Q) : (R32 a ∧ R32 b) ∧ (a < b → wpO x Q) ∧ (¬ a < b → wpO y Q) := by
  unfold cLt at h
  by_cases hc : R32 a ∧ R32 b
  · rw [if_pos hc] at h
    refine ⟨hc, fun h1 => ?_, fun h1 => ?_⟩
    · rw [if_pos h1] at h; exact h
    · rw [if_neg h1] at h; exact h
  · rw [if_neg hc] at h; exact (wpO_none h).elim
theorem wpO_eq {α : Type} {a b : Int} {x y : Option (Mem × α)} {Q : Mem → α → Prop} (h : wpO (cEq a b x y) Q) : (R32 a ∧ R32 b) ∧ (a = b → wpO x Q) ∧ (¬ a = b → wpO y Q) := by
  unfold cEq at h
  by_cases hc : R32 a ∧ R32 b
  · rw [if_pos hc] at h
    refine ⟨hc, fun h1 => ?_, fun h1 => ?_⟩
    · rw [if_pos h1] at h; exact h
    · rw [if_neg h1] at h; exact h
  · rw [if_neg hc] at h; exact (wpO_none h).elim
theorem r_jn {α β : Type} {k : α} {b : α → Option (Mem × β)} {Q : Mem → β → Prop} {P : Prop} (J : α → Prop) (h : wpO (jn k b) Q) (hJ : J k) (hb : J k → wpO (b k) Q → P) : P := hb hJ h
/-! locals -/
def noL (lv : List (Option Value)) : Bool := lv.all (fun o => match o with | some (.long _) => false | some (.double _) => false | _ => true)
theorem noL_cat {lv : List (Option Value)} (h : noL lv = true) {i : Nat} {v : Value} (hv : lv[i]? = some (some v)) : ¬ v.category = 2 := by
  have h1 := List.all_eq_true.mp h _ (List.mem_of_getElem? hv)
  cases v <;> simp_all [Value.category]
def ta (lv : List (Option Value)) : List (Nat × Value) := (List.range lv.length).filterMap (fun i => match lv[i]? with | some (some v) => some (i, v) | _ => none)
theorem ta_mem {lv : List (Option Value)} {i : Nat} {v : Value} : (i, v) ∈ ta lv ↔ lv[i]? = some (some v) := by
  unfold ta
  rw [List.mem_filterMap]
  constructor
  · rintro ⟨j, hj, h⟩
    split at h
    · rename_i w hw
      cases h; exact hw
    · cases h
  · intro h
    refine ⟨i, List.mem_range.mpr ?_, by rw [h]⟩
    rcases Nat.lt_or_ge i lv.length with q | q
    · exact q
    · rw [List.getElem?_eq_none q] at h; cases h
theorem lh.has {ls : Array Slot} {n : Nat} (h : lh ls n lv) : lv_has ls n (ta lv) := ⟨h.1, h.2.1, fun q hq => h.2.2 q.1 q.2 (ta_mem.mp hq)⟩
theorem lh.sub {ls : Array Slot} {n : Nat} {lv' : List (Option Value)} (h : lh ls n lv) (hs : ∀ (i : Nat) (v : Value), lv'[i]? = some (some v) → lv[i]? = some (some v)) : lh ls n lv' := ⟨h.1, h.2.1, fun i v hv => h.2.2 i v (hs i v hv)⟩
theorem lh.put {ls : Array Slot} {n i : Nat} {v : Value} {lv' : List (Option Value)} (hL : noL lv = true) (h : lv_has ls n ((i, v) :: (ta lv).filter (fun q => !(q.1 == i) && !(q.1 + 1 == i && q.2.category == 2)))) (hl : lv.set i (some v) = lv') : lh ls n lv' := by
  subst hl
  refine ⟨h.1, h.2.1, fun j w hw => ?_⟩
  rw [List.getElem?_set] at hw
  by_cases hj : i = j
  · subst hj
    rw [if_pos rfl] at hw
    split at hw
    · cases hw
      exact h.2.2 (i, v) List.mem_cons_self
    · cases hw
  · rw [if_neg hj] at hw
    refine h.2.2 (j, w) (List.mem_cons_of_mem _ (List.mem_filter.mpr ⟨ta_mem.mpr hw, ?_⟩))
    have h2 := noL_cat hL hw
    simp
    exact ⟨fun e => hj e.symm, Or.inr h2⟩
theorem r_sub {lv' : List (Option Value)} (hs : ∀ (i : Nat) (v : Value), lv'[i]? = some (some v) → lv[i]? = some (some v)) (k : Wn K g M pc lv' st) : Wn K g M pc lv st := fun H locs ls hP hS hl => k H locs ls hP hS (hl.sub hs)
/-- fewer locals: place by place -/
def lsub : List (Option Value) → List (Option Value) → Prop
  | [], _ => True
  | none :: r, [] => lsub r []
  | none :: r, _ :: r' => lsub r r'
  | some _ :: _, [] => False
  | some v :: r, w :: r' => w = some v ∧ lsub r r'
theorem lsub_get : ∀ {a b : List (Option Value)}, lsub a b → ∀ (i : Nat) (v : Value), a[i]? = some (some v) → b[i]? = some (some v)
  | [], _, _, i, v, h => by simp at h
  | none :: r, [], hs, 0, v, h => by simp at h
  | none :: r, [], hs, i + 1, v, h => by
    have := lsub_get (a := r) (b := []) hs i v (by simpa using h)
    simp at this
  | none :: r, _ :: r', hs, 0, v, h => by simp at h
  | none :: r, _ :: r', hs, i + 1, v, h => by
    have := lsub_get (a := r) (b := r') hs i v (by simpa using h)
    simpa using this
  | some _ :: _, [], hs, i, v, h => hs.elim
  | some w :: r, x :: r', hs, 0, v, h => by
    simp at h; subst h
    simp [hs.1]
  | some w :: r, x :: r', hs, i + 1, v, h => by
    have := lsub_get (a := r) (b := r') hs.2 i v (by simpa using h)
    simpa using this
theorem r_ls {lv' : List (Option Value)} (hs : lsub lv' lv) (k : Wn K g M pc lv' st) : Wn K g M pc lv st := r_sub (lsub_get hs) k
/-! constants, locals, stack, arithmetic -/
theorem r_iconst (hK : Kok K g cc own d) {n : Int} (hd : decode cc pc = .ok (.iconst n, 1)) (k : Wn K g M (pc + 1) lv (.int (I n) :: st)) : Wn K g M pc lv st :=
  fun H locs ls hP hS hl => lv_iconst hK.x hK.b hd rfl (k H locs ls hP hS hl)
theorem r_bipush (hK : Kok K g cc own d) {n : Int} (hd : decode cc pc = .ok (.bipush n, 2)) (hv : (Int8.ofInt n).toInt32 = I n) (k : Wn K g M (pc + 2) lv (.int (I n) :: st)) : Wn K g M pc lv st :=
  fun H locs ls hP hS hl => lv_bipush hK.x hK.b hd hv (k H locs ls hP hS hl)
theorem r_sipush (hK : Kok K g cc own d) {n : Int} (hd : decode cc pc = .ok (.sipush n, 3)) (hv : (Int16.ofInt n).toInt32 = I n) (k : Wn K g M (pc + 3) lv (.int (I n) :: st)) : Wn K g M pc lv st :=
  fun H locs ls hP hS hl => lv_sipush hK.x hK.b hd hv (k H locs ls hP hS hl)
theorem r_ldc (hK : Kok K g cc own d) {idx : Nat} {n : Int} (hw : Cond.constant own idx (I n) ∈ TB) (hd : decode cc pc = .ok (.ldc idx, 2)) (k : Wn K g M (pc + 2) lv (.int (I n) :: st)) : Wn K g M pc lv st :=
  fun H locs ls hP hS hl => lv_ldc hK.x hK.b hK.o (hK.t _ hw) hd (k H locs ls hP hS hl)
theorem r_ldc2 (hK : Kok K g cc own d) {idx : Nat} {n : Int} (hw : Cond.constantLong own idx (LL n) ∈ TB) (hd : decode cc pc = .ok (.ldc2_w idx, 3)) (k : Wn K g M (pc + 3) lv (.long (LL n) :: st)) : Wn K g M pc lv st :=
  fun H locs ls hP hS hl => lv_ldc2 hK.x hK.b hK.o (hK.t _ hw) hd (k H locs ls hP hS hl)
theorem r_iload_n (hK : Kok K g cc own d) {i : Fin 4} {z : Int32} (hd : decode cc pc = .ok (.iload_n i, 1)) (hv : lv[(i : Nat)]? = some (some (.int z))) (k : Wn K g M (pc + 1) lv (.int z :: st)) : Wn K g M pc lv st :=
  fun H locs ls hP hS hl => lv_iload_n hK.x hK.b hd rfl (hl.2.2 _ _ hv) (k H locs ls hP hS hl)
theorem r_iload (hK : Kok K g cc own d) {i : Nat} {z : Int32} (hd : decode cc pc = .ok (.iload i, 2)) (hv : lv[i]? = some (some (.int z))) (k : Wn K g M (pc + 2) lv (.int z :: st)) : Wn K g M pc lv st :=
  fun H locs ls hP hS hl => lv_iload hK.x hK.b hd (hl.2.2 _ _ hv) (k H locs ls hP hS hl)
theorem r_aload_n (hK : Kok K g cc own d) {i : Fin 4} {a : Nat} (hd : decode cc pc = .ok (.aload_n i, 1)) (hv : lv[(i : Nat)]? = some (some (.ref a))) (k : Wn K g M (pc + 1) lv (.ref a :: st)) : Wn K g M pc lv st :=
  fun H locs ls hP hS hl => lv_aload_n hK.x hK.b hd rfl (hl.2.2 _ _ hv) (k H locs ls hP hS hl)
theorem r_aload (hK : Kok K g cc own d) {i : Nat} {a : Nat} (hd : decode cc pc = .ok (.aload i, 2)) (hv : lv[i]? = some (some (.ref a))) (k : Wn K g M (pc + 2) lv (.ref a :: st)) : Wn K g M pc lv st :=
  fun H locs ls hP hS hl => lv_aload hK.x hK.b hd (hl.2.2 _ _ hv) (k H locs ls hP hS hl)
theorem r_istore_n (hK : Kok K g cc own d) {i : Fin 4} {z : Int32} {lv' : List (Option Value)} (hd : decode cc pc = .ok (.istore_n i, 1)) (hn : (i : Nat) < kN K) (hL : noL lv = true) (hl' : lv.set (i : Nat) (some (.int z)) = lv') (k : Wn K g M (pc + 1) lv' st) : Wn K g M pc lv (.int z :: st) :=
  fun H locs ls hP hS hl => lv_istore_n hK.x hK.b hd rfl hl.has hn rfl (fun ls' h => k H locs ls' hP hS (lh.put hL h hl'))
theorem r_istore (hK : Kok K g cc own d) {i : Nat} {z : Int32} {lv' : List (Option Value)} (hd : decode cc pc = .ok (.istore i, 2)) (hn : i < kN K) (hL : noL lv = true) (hl' : lv.set i (some (.int z)) = lv') (k : Wn K g M (pc + 2) lv' st) : Wn K g M pc lv (.int z :: st) :=
  fun H locs ls hP hS hl => lv_istore hK.x hK.b hd hl.has hn rfl (fun ls' h => k H locs ls' hP hS (lh.put hL h hl'))
theorem r_astore_n (hK : Kok K g cc own d) {i : Fin 4} {a : Nat} {lv' : List (Option Value)} (hd : decode cc pc = .ok (.astore_n i, 1)) (hn : (i : Nat) < kN K) (hL : noL lv = true) (hl' : lv.set (i : Nat) (some (.ref a)) = lv') (k : Wn K g M (pc + 1) lv' st) : Wn K g M pc lv (.ref a :: st) :=
  fun H locs ls hP hS hl => lv_astore_n hK.x hK.b hd rfl hl.has hn rfl (fun ls' h => k H locs ls' hP hS (lh.put hL h hl'))
theorem r_astore (hK : Kok K g cc own d) {i : Nat} {a : Nat} {lv' : List (Option Value)} (hd : decode cc pc = .ok (.astore i, 2)) (hn : i < kN K) (hL : noL lv = true) (hl' : lv.set i (some (.ref a)) = lv') (k : Wn K g M (pc + 2) lv' st) : Wn K g M pc lv (.ref a :: st) :=
  fun H locs ls hP hS hl => lv_astore hK.x hK.b hd hl.has hn rfl (fun ls' h => k H locs ls' hP hS (lh.put hL h hl'))
theorem r_iinc (hK : Kok K g cc own d) {i : Nat} {n z : Int} {lv' : List (Option Value)} (hd : decode cc pc = .ok (.iinc i n, 3)) (hn : i < kN K) (hL : noL lv = true) (hv : lv[i]? = some (some (.int (I z)))) (hl' : lv.set i (some (.int (I (z + n)))) = lv') (k : Wn K g M (pc + 3) lv' st) : Wn K g M pc lv st := by
  intro H locs ls hP hS hl
  obtain ⟨q, hq⟩ := List.getElem?_of_mem (ta_mem.mpr hv)
  exact lv_iinc (k := q) hK.x hK.b hd hl.has hq (v := I (z + n)) (I_add z n) hn rfl (fun ls' h => k H locs ls' hP hS (lh.put hL h hl'))
theorem r_iadd (hK : Kok K g cc own d) {a b : Int} (hd : decode cc pc = .ok (.iadd, 1)) (k : Wn K g M (pc + 1) lv (.int (I (a + b)) :: st)) : Wn K g M pc lv (.int (I b) :: .int (I a) :: st) :=
  fun H locs ls hP hS hl => lv_iadd hK.x hK.b hd (by rw [I_add]; exact k H locs ls hP hS hl)
theorem r_isub (hK : Kok K g cc own d) {a b : Int} (hd : decode cc pc = .ok (.isub, 1)) (k : Wn K g M (pc + 1) lv (.int (I (a - b)) :: st)) : Wn K g M pc lv (.int (I b) :: .int (I a) :: st) :=
  fun H locs ls hP hS hl => lv_isub hK.x hK.b hd (by rw [I_sub]; exact k H locs ls hP hS hl)
theorem r_imul (hK : Kok K g cc own d) {a b : Int} (hd : decode cc pc = .ok (.imul, 1)) (k : Wn K g M (pc + 1) lv (.int (I (a * b)) :: st)) : Wn K g M pc lv (.int (I b) :: .int (I a) :: st) :=
  fun H locs ls hP hS hl => lv_imul hK.x hK.b hd (by rw [I_mul]; exact k H locs ls hP hS hl)
theorem I_div {a b : Int} (ha : 0 ≤ a ∧ a < 2147483648) (hb : 0 < b ∧ b < 2147483648) : I a / I b = I (a / b) := by
  obtain ⟨n, rfl⟩ := Int.eq_ofNat_of_zero_le ha.1
  obtain ⟨m, rfl⟩ := Int.eq_ofNat_of_zero_le (Int.le_of_lt hb.1)
  have h := pk_div (a := n) (d := m) (by omega) (by omega) (by omega)
  have e : ∀ q : Nat, nI q = I (q : Int) := fun q => rfl
  rw [e, e, e] at h
  rw [h]; congr 1
theorem I_rem {a b : Int} (ha : 0 ≤ a ∧ a < 2147483648) (hb : 0 < b ∧ b < 2147483648) : I a - I a / I b * I b = I (a % b) := by
  rw [I_div ha hb, I_mul, I_sub]
  congr 1
  have := Int.emod_add_mul_ediv a b
  rw [Int.mul_comm] at this
  omega
theorem r_idiv (hK : Kok K g cc own d) {a b : Int} (ha : 0 ≤ a ∧ a < 2147483648) (hb : 0 < b ∧ b < 2147483648) (hd : decode cc pc = .ok (.idiv, 1)) (k : Wn K g M (pc + 1) lv (.int (I (a / b)) :: st)) : Wn K g M pc lv (.int (I b) :: .int (I a) :: st) :=
  fun H locs ls hP hS hl => lv_idiv hK.x hK.b hd (by rw [I_0, I_eq (by unfold R32; omega) R32_0]; omega) (by rw [I_div ha hb]; exact k H locs ls hP hS hl)
theorem r_irem (hK : Kok K g cc own d) {a b : Int} (ha : 0 ≤ a ∧ a < 2147483648) (hb : 0 < b ∧ b < 2147483648) (hd : decode cc pc = .ok (.irem, 1)) (k : Wn K g M (pc + 1) lv (.int (I (a % b)) :: st)) : Wn K g M pc lv (.int (I b) :: .int (I a) :: st) :=
  fun H locs ls hP hS hl => lv_irem hK.x hK.b hd (by rw [I_0, I_eq (by unfold R32; omega) R32_0]; omega) (by rw [I_rem ha hb]; exact k H locs ls hP hS hl)
theorem r_dup (hK : Kok K g cc own d) {v : Value} (hd : decode cc pc = .ok (.dup, 1)) (hv : v.category = 1) (k : Wn K g M (pc + 1) lv (v :: v :: st)) : Wn K g M pc lv (v :: st) :=
  fun H locs ls hP hS hl => lv_dup hK.x hK.b hd hv (k H locs ls hP hS hl)
theorem r_dup2 (hK : Kok K g cc own d) {v w : Value} (hd : decode cc pc = .ok (.dup2, 1)) (hv : v.category = 1) (hw : w.category = 1) (k : Wn K g M (pc + 1) lv (v :: w :: v :: w :: st)) : Wn K g M pc lv (v :: w :: st) :=
  fun H locs ls hP hS hl => lv_dup2_11 hK.x hK.b hd hv hw (k H locs ls hP hS hl)
theorem r_goto (hK : Kok K g cc own d) {off : Int} {t : Nat} (hd : decode cc pc = .ok (.goto off, 3)) (ht : (pc : Int) + off = (t : Int)) (k : Wn K g M t lv st) : Wn K g M pc lv st :=
  fun H locs ls hP hS hl => lv_goto hK.x hK.b hd ht (k H locs ls hP hS hl)
/-! branches: h is what the pure value says of both ways -/
theorem r_icmp_lt (hK : Kok K g cc own d) {a b : Int} {off : Int} {t : Nat} {A B : Prop} (hd : decode cc pc = .ok (.if_icmp .lt off, 3)) (ht : (pc : Int) + off = (t : Int)) (h : (R32 a ∧ R32 b) ∧ (a < b → A) ∧ (¬ a < b → B)) (kt : A → Wn K g M t lv st) (kf : B → Wn K g M (pc + 3) lv st) : Wn K g M pc lv (.int (I b) :: .int (I a) :: st) :=
  fun H locs ls hP hS hl => lv_icmp_lt hK.x hK.b hd ht (fun c => kt (h.2.1 ((I_lt h.1.1 h.1.2).mp c)) H locs ls hP hS hl) (fun c => kf (h.2.2 (fun q => c ((I_lt h.1.1 h.1.2).mpr q))) H locs ls hP hS hl)
theorem r_icmp_ge (hK : Kok K g cc own d) {a b : Int} {off : Int} {t : Nat} {A B : Prop} (hd : decode cc pc = .ok (.if_icmp .ge off, 3)) (ht : (pc : Int) + off = (t : Int)) (h : (R32 a ∧ R32 b) ∧ (a < b → A) ∧ (¬ a < b → B)) (kf : A → Wn K g M (pc + 3) lv st) (kt : B → Wn K g M t lv st) : Wn K g M pc lv (.int (I b) :: .int (I a) :: st) :=
  fun H locs ls hP hS hl => lv_icmp_ge hK.x hK.b hd ht (fun c => kt (h.2.2 (by have := (I_le h.1.2 h.1.1).mp c; omega)) H locs ls hP hS hl) (fun c => kf (h.2.1 (by have := mt (I_le h.1.2 h.1.1).mpr c; omega)) H locs ls hP hS hl)
theorem r_icmp_gt (hK : Kok K g cc own d) {a b : Int} {off : Int} {t : Nat} {A B : Prop} (hd : decode cc pc = .ok (.if_icmp .gt off, 3)) (ht : (pc : Int) + off = (t : Int)) (h : (R32 b ∧ R32 a) ∧ (b < a → A) ∧ (¬ b < a → B)) (kt : A → Wn K g M t lv st) (kf : B → Wn K g M (pc + 3) lv st) : Wn K g M pc lv (.int (I b) :: .int (I a) :: st) :=
  fun H locs ls hP hS hl => lv_icmp_gt hK.x hK.b hd ht (fun c => kt (h.2.1 ((I_lt h.1.1 h.1.2).mp c)) H locs ls hP hS hl) (fun c => kf (h.2.2 (fun q => c ((I_lt h.1.1 h.1.2).mpr q))) H locs ls hP hS hl)
theorem r_icmp_le (hK : Kok K g cc own d) {a b : Int} {off : Int} {t : Nat} {A B : Prop} (hd : decode cc pc = .ok (.if_icmp .le off, 3)) (ht : (pc : Int) + off = (t : Int)) (h : (R32 b ∧ R32 a) ∧ (b < a → A) ∧ (¬ b < a → B)) (kf : A → Wn K g M (pc + 3) lv st) (kt : B → Wn K g M t lv st) : Wn K g M pc lv (.int (I b) :: .int (I a) :: st) :=
  fun H locs ls hP hS hl => lv_icmp_le hK.x hK.b hd ht (fun c => kt (h.2.2 (by have := (I_le h.1.2 h.1.1).mp c; omega)) H locs ls hP hS hl) (fun c => kf (h.2.1 (by have := mt (I_le h.1.2 h.1.1).mpr c; omega)) H locs ls hP hS hl)
theorem r_icmp_eq (hK : Kok K g cc own d) {a b : Int} {off : Int} {t : Nat} {A B : Prop} (hd : decode cc pc = .ok (.if_icmp .eq off, 3)) (ht : (pc : Int) + off = (t : Int)) (h : (R32 a ∧ R32 b) ∧ (a = b → A) ∧ (¬ a = b → B)) (kt : A → Wn K g M t lv st) (kf : B → Wn K g M (pc + 3) lv st) : Wn K g M pc lv (.int (I b) :: .int (I a) :: st) :=
  fun H locs ls hP hS hl => lv_icmp_eq hK.x hK.b hd ht (fun c => kt (h.2.1 ((I_eq h.1.1 h.1.2).mp c)) H locs ls hP hS hl) (fun c => kf (h.2.2 (fun q => c ((I_eq h.1.1 h.1.2).mpr q))) H locs ls hP hS hl)
theorem r_icmp_ne (hK : Kok K g cc own d) {a b : Int} {off : Int} {t : Nat} {A B : Prop} (hd : decode cc pc = .ok (.if_icmp .ne off, 3)) (ht : (pc : Int) + off = (t : Int)) (h : (R32 a ∧ R32 b) ∧ (a = b → A) ∧ (¬ a = b → B)) (kf : A → Wn K g M (pc + 3) lv st) (kt : B → Wn K g M t lv st) : Wn K g M pc lv (.int (I b) :: .int (I a) :: st) :=
  fun H locs ls hP hS hl => lv_icmp_ne hK.x hK.b hd ht (fun c => kt (h.2.2 (fun q => c ((I_eq h.1.1 h.1.2).mpr q))) H locs ls hP hS hl) (fun c => kf (h.2.1 ((I_eq h.1.1 h.1.2).mp c)) H locs ls hP hS hl)
theorem r_if_eq (hK : Kok K g cc own d) {a : Int} {off : Int} {t : Nat} {A B : Prop} (hd : decode cc pc = .ok (.ifCond .eq off, 3)) (ht : (pc : Int) + off = (t : Int)) (h : (R32 a ∧ R32 0) ∧ (a = 0 → A) ∧ (¬ a = 0 → B)) (kt : A → Wn K g M t lv st) (kf : B → Wn K g M (pc + 3) lv st) : Wn K g M pc lv (.int (I a) :: st) :=
  fun H locs ls hP hS hl => lv_if_eq hK.x hK.b hd ht (fun c => kt (h.2.1 ((I_eq h.1.1 R32_0).mp c)) H locs ls hP hS hl) (fun c => kf (h.2.2 (fun q => c ((I_eq h.1.1 R32_0).mpr q))) H locs ls hP hS hl)
theorem r_if_ne (hK : Kok K g cc own d) {a : Int} {off : Int} {t : Nat} {A B : Prop} (hd : decode cc pc = .ok (.ifCond .ne off, 3)) (ht : (pc : Int) + off = (t : Int)) (h : (R32 a ∧ R32 0) ∧ (a = 0 → A) ∧ (¬ a = 0 → B)) (kf : A → Wn K g M (pc + 3) lv st) (kt : B → Wn K g M t lv st) : Wn K g M pc lv (.int (I a) :: st) :=
  fun H locs ls hP hS hl => lv_if_ne hK.x hK.b hd ht (fun c => kt (h.2.2 (fun q => c ((I_eq h.1.1 R32_0).mpr q))) H locs ls hP hS hl) (fun c => kf (h.2.1 ((I_eq h.1.1 R32_0).mp c)) H locs ls hP hS hl)
theorem r_if_lt (hK : Kok K g cc own d) {a : Int} {off : Int} {t : Nat} {A B : Prop} (hd : decode cc pc = .ok (.ifCond .lt off, 3)) (ht : (pc : Int) + off = (t : Int)) (h : (R32 a ∧ R32 0) ∧ (a < 0 → A) ∧ (¬ a < 0 → B)) (kt : A → Wn K g M t lv st) (kf : B → Wn K g M (pc + 3) lv st) : Wn K g M pc lv (.int (I a) :: st) :=
  fun H locs ls hP hS hl => lv_if_lt hK.x hK.b hd ht (fun c => kt (h.2.1 ((I_lt h.1.1 R32_0).mp c)) H locs ls hP hS hl) (fun c => kf (h.2.2 (fun q => c ((I_lt h.1.1 R32_0).mpr q))) H locs ls hP hS hl)
theorem r_if_ge (hK : Kok K g cc own d) {a : Int} {off : Int} {t : Nat} {A B : Prop} (hd : decode cc pc = .ok (.ifCond .ge off, 3)) (ht : (pc : Int) + off = (t : Int)) (h : (R32 a ∧ R32 0) ∧ (a < 0 → A) ∧ (¬ a < 0 → B)) (kf : A → Wn K g M (pc + 3) lv st) (kt : B → Wn K g M t lv st) : Wn K g M pc lv (.int (I a) :: st) :=
  fun H locs ls hP hS hl => lv_if_ge hK.x hK.b hd ht (fun c => kt (h.2.2 (by have := (I_le R32_0 h.1.1).mp c; omega)) H locs ls hP hS hl) (fun c => kf (h.2.1 (by have := mt (I_le R32_0 h.1.1).mpr c; omega)) H locs ls hP hS hl)
theorem r_if_gt (hK : Kok K g cc own d) {a : Int} {off : Int} {t : Nat} {A B : Prop} (hd : decode cc pc = .ok (.ifCond .gt off, 3)) (ht : (pc : Int) + off = (t : Int)) (h : (R32 0 ∧ R32 a) ∧ (0 < a → A) ∧ (¬ 0 < a → B)) (kt : A → Wn K g M t lv st) (kf : B → Wn K g M (pc + 3) lv st) : Wn K g M pc lv (.int (I a) :: st) :=
  fun H locs ls hP hS hl => lv_if_gt hK.x hK.b hd ht (fun c => kt (h.2.1 ((I_lt R32_0 h.1.2).mp c)) H locs ls hP hS hl) (fun c => kf (h.2.2 (fun q => c ((I_lt R32_0 h.1.2).mpr q))) H locs ls hP hS hl)
theorem r_if_le (hK : Kok K g cc own d) {a : Int} {off : Int} {t : Nat} {A B : Prop} (hd : decode cc pc = .ok (.ifCond .le off, 3)) (ht : (pc : Int) + off = (t : Int)) (h : (R32 0 ∧ R32 a) ∧ (0 < a → A) ∧ (¬ 0 < a → B)) (kf : A → Wn K g M (pc + 3) lv st) (kt : B → Wn K g M t lv st) : Wn K g M pc lv (.int (I a) :: st) :=
  fun H locs ls hP hS hl => lv_if_le hK.x hK.b hd ht (fun c => kt (h.2.2 (by have := (I_le h.1.2 R32_0).mp c; omega)) H locs ls hP hS hl) (fun c => kf (h.2.1 (by have := mt (I_le h.1.2 R32_0).mpr c; omega)) H locs ls hP hS hl)
end RW
end
section
/-! ROWS of the heap, of calls and of ends. -/
/-- a class as the tables have it -/
def ClsOk (ci : Nat) (C : String) (T : u_T) (N : Nat) (ty : Nat → FieldType) : Prop := vwCl[ci]? = some (C, T, N) ∧ (∀ w ∈ u_ws C T N, w ∈ TB) ∧ (∀ k, k < N → parseFieldDescriptor (T k).2.2.1 = some (ty k)) ∧ (∀ a, a < N → ∀ b, b < N → a ≠ b → (T a).2.1 ≠ (T b).2.1) ∧ (∀ k, k < N → (T k).1 = C)
section HP
variable {K : KT} {g : GT} {cc : ByteArray} {own : String} {d : Nat} {M : Mem} {pc : Nat} {lv : List (Option Value)} {st : List Value} {C : String} {T : u_T} {N ci j k k' idx : Nat} {ty : Nat → FieldType} {fl : List (Option Nat)} {host : String}
theorem ws_o (hk : k < 114) (hs : sh k = .inr (ci, fl)) : (wsM g M)[k]? = some (gA g k, .inr (ci, fv g M k 0 fl)) := by rw [wsM_at hk, cellAt_o hs]
theorem ws_a {t n : Nat} (hk : k < 114) (hs : sh k = .inl (t, n)) (ht : t < 2) : (wsM g M)[k]? = some (gA g k, .inl (gC g t, n, .inl (fun j => I (M k j)))) := by rw [wsM_at hk, cellAt_a hs, av, if_pos ht]
theorem ws_r {t n : Nat} (hk : k < 114) (hs : sh k = .inl (t, n)) (ht : ¬ t < 2) : (wsM g M)[k]? = some (gA g k, .inl (gC g t, n, .inr (.inr (.inr (.inr (fun j => some (gA g (rb t + j)))))))) := by rw [wsM_at hk, cellAt_a hs, av, if_neg ht]
/-- getfield: a reference, a number -/
theorem r_getR (hK : Kok K g cc own d) (hc : ClsOk ci C T N ty) (hw : Cond.fieldLink own idx C (T j).2.1 (T j).2.2.1 ∈ TB) (hj : j < N) (hk : k < 114) (hs : sh k = .inr (ci, fl)) (hf : fl[j]? = some (some k')) (hd : decode cc pc = .ok (.getfield idx, 3))
    (kk : Wn K g M (pc + 3) lv (.ref (gA g k') :: st)) : Wn K g M pc lv (.ref (gA g k) :: st) :=
  fun H locs ls hP hS hl => va_get hK.x hK.b hK.t hc.2.1 hK.o hK.k hP k (ws_o hk hs) hc.1 j hj (hK.t _ hw) (fun x h => by rw [hc.2.2.2.2 j hj] at h; exact h) (fv_get_s hf) hd (kk H locs ls hP hS hl)
theorem r_getI (hK : Kok K g cc own d) (hc : ClsOk ci C T N ty) (hw : Cond.fieldLink own idx C (T j).2.1 (T j).2.2.1 ∈ TB) (hj : j < N) (hk : k < 114) (hs : sh k = .inr (ci, fl)) (hf : fl[j]? = some none) (hd : decode cc pc = .ok (.getfield idx, 3)) {z : Int} (hz : M k j = z)
    (kk : Wn K g M (pc + 3) lv (.int (I z) :: st)) : Wn K g M pc lv (.ref (gA g k) :: st) :=
  fun H locs ls hP hS hl => va_get hK.x hK.b hK.t hc.2.1 hK.o hK.k hP k (ws_o hk hs) hc.1 j hj (hK.t _ hw) (fun x h => by rw [hc.2.2.2.2 j hj] at h; exact h) (by have := fv_get_n (g := g) (M := M) (k := k) (b := 0) hf; rw [Nat.zero_add, hz] at this; exact this) hd (kk H locs ls hP hS hl)
theorem nest_w (hK : Kok K g cc own d) {w : Cond} (hn : w ∈ NS) : w.before (kA K) (kS K) = true := va_Nw.use (by have := (List.mem_filter.mp hn).2; cases w <;> first | rfl | (simp [isN] at this)) (hK.e.1 _ hn)
theorem r_getRN (hK : Kok K g cc own d) (hc : ClsOk ci C T N ty) (hw : Cond.fieldLinkNest own idx C (T j).2.1 (T j).2.2.1 host ∈ NS) (hj : j < N) (hk : k < 114) (hs : sh k = .inr (ci, fl)) (hf : fl[j]? = some (some k')) (hd : decode cc pc = .ok (.getfield idx, 3))
    (kk : Wn K g M (pc + 3) lv (.ref (gA g k') :: st)) : Wn K g M pc lv (.ref (gA g k) :: st) :=
  fun H locs ls hP hS hl => va_getN hK.x hK.b hK.t hc.2.1 hK.o hK.k hP k (ws_o hk hs) hc.1 j hj (nest_w hK hw) (fun x h => by rw [hc.2.2.2.2 j hj] at h; exact h) (fv_get_s hf) hd (kk H locs ls hP hS hl)
theorem r_getIN (hK : Kok K g cc own d) (hc : ClsOk ci C T N ty) (hw : Cond.fieldLinkNest own idx C (T j).2.1 (T j).2.2.1 host ∈ NS) (hj : j < N) (hk : k < 114) (hs : sh k = .inr (ci, fl)) (hf : fl[j]? = some none) (hd : decode cc pc = .ok (.getfield idx, 3)) {z : Int} (hz : M k j = z)
    (kk : Wn K g M (pc + 3) lv (.int (I z) :: st)) : Wn K g M pc lv (.ref (gA g k) :: st) :=
  fun H locs ls hP hS hl => va_getN hK.x hK.b hK.t hc.2.1 hK.o hK.k hP k (ws_o hk hs) hc.1 j hj (nest_w hK hw) (fun x h => by rw [hc.2.2.2.2 j hj] at h; exact h) (by have := fv_get_n (g := g) (M := M) (k := k) (b := 0) hf; rw [Nat.zero_add, hz] at this; exact this) hd (kk H locs ls hP hS hl)
/-- putfield of a number (M' the memory behind it) -/
theorem r_put (hK : Kok K g cc own d) (hc : ClsOk ci C T N ty) (hw : Cond.fieldLink own idx C (T j).2.1 (T j).2.2.1 ∈ TB) (hj : j < N) (hk : k < 114) (hs : sh k = .inr (ci, fl)) (hf : fl[j]? = some none) (hfin : (T j).2.2.2 = false) {z : Int} (hn : narrow (ty j) (.int (I z)) = .int (I z)) (hfit : fits (ty j) (.int (I z)) = true) (hd : decode cc pc = .ok (.putfield idx, 3)) {M' : Mem} (hM : up M k j z = M')
    (kk : Wn K g M' (pc + 3) lv st) : Wn K g M pc lv (.int (I z) :: .ref (gA g k) :: st) := by
  intro H locs ls hP hS hl
  refine va_put (ty := ty j) hK.x hK.b hK.t hc.2.1 ty hc.2.2.1 hc.2.2.2.1 hK.o hK.k hP (hK.dd M) hS k (ws_o hk hs) hc.1 j hj (hK.t _ hw) (fun x h => by rw [hc.2.2.2.2 j hj] at h; exact h) hfin (hc.2.2.1 j hj) hn hfit (by rw [fv_len]; rcases Nat.lt_or_ge j fl.length with q | q; exact q; rw [List.getElem?_eq_none q] at hf; cases hf) hd (fun H1 locs1 hP1 hD1 hS1 => ?_)
  rw [ws_putf hk hs hf, hM] at hP1
  exact kk H1 locs1 ls hP1 hS1 hl
theorem r_putN (hK : Kok K g cc own d) (hc : ClsOk ci C T N ty) (hw : Cond.fieldLinkNest own idx C (T j).2.1 (T j).2.2.1 host ∈ NS) (hj : j < N) (hk : k < 114) (hs : sh k = .inr (ci, fl)) (hf : fl[j]? = some none) (hfin : (T j).2.2.2 = false) {z : Int} (hn : narrow (ty j) (.int (I z)) = .int (I z)) (hfit : fits (ty j) (.int (I z)) = true) (hd : decode cc pc = .ok (.putfield idx, 3)) {M' : Mem} (hM : up M k j z = M')
    (kk : Wn K g M' (pc + 3) lv st) : Wn K g M pc lv (.int (I z) :: .ref (gA g k) :: st) := by
  intro H locs ls hP hS hl
  refine va_putN (ty := ty j) hK.x hK.b hK.t hc.2.1 ty hc.2.2.1 hc.2.2.2.1 hK.o hK.k hP (hK.dd M) hS k (ws_o hk hs) hc.1 j hj (nest_w hK hw) (fun x h => by rw [hc.2.2.2.2 j hj] at h; exact h) hfin (hc.2.2.1 j hj) hn hfit (by rw [fv_len]; rcases Nat.lt_or_ge j fl.length with q | q; exact q; rw [List.getElem?_eq_none q] at hf; cases hf) hd (fun H1 locs1 hP1 hD1 hS1 => ?_)
  rw [ws_putf hk hs hf, hM] at hP1
  exact kk H1 locs1 ls hP1 hS1 hl
/-- arrays -/
theorem r_alen (hK : Kok K g cc own d) {t n : Nat} (hk : k < 114) (hs : sh k = .inl (t, n)) (ht : t < 4) (hd : decode cc pc = .ok (.arraylength, 1)) (kk : Wn K g M (pc + 1) lv (.int (I n) :: st)) : Wn K g M pc lv (.ref (gA g k) :: st) := by
  intro H locs ls hP hS hl
  have hq : ∃ y, (tys g)[t]? = some (gC g t, y) := by
    rcases (show t = 0 ∨ t = 1 ∨ t = 2 ∨ t = 3 by omega) with rfl | rfl | rfl | rfl <;> exact ⟨_, rfl⟩
  obtain ⟨y, hy⟩ := hq
  have hx : (av g M k t n).1 = n := by unfold av; split <;> rfl
  exact va_alen hK.x hK.b hK.k hP k t (x := av g M k t n) (by rw [wsM_at hk, cellAt_a hs]) hy (v := I n) (by rw [hx]; rfl) hd (kk H locs ls hP hS hl)
theorem r_iaload (hK : Kok K g cc own d) {n : Nat} {i : Int} (hk : k < 114) (hs : sh k = .inl (0, n)) (hn : n < 2147483648) (hi : 0 ≤ i ∧ i < n) (hd : decode cc pc = .ok (.iaload, 1)) {z : Int} (hz : M k i.toNat = z)
    (kk : Wn K g M (pc + 1) lv (.int (I z) :: st)) : Wn K g M pc lv (.int (I i) :: .ref (gA g k) :: st) := by
  intro H locs ls hP hS hl
  obtain ⟨h1, h2⟩ := I_nat hi.1 hi.2 hn
  refine va_iald hK.x hK.b hK.k hP k 0 (ws_a hk hs (by decide)) rfl h1 hd ?_
  rw [h2, hz]
  exact kk H locs ls hP hS hl
theorem r_baload (hK : Kok K g cc own d) {n : Nat} {i : Int} (hk : k < 114) (hs : sh k = .inl (1, n)) (hn : n < 2147483648) (hi : 0 ≤ i ∧ i < n) (hd : decode cc pc = .ok (.baload, 1)) {z : Int} (hz : M k i.toNat = z)
    (kk : Wn K g M (pc + 1) lv (.int (I z) :: st)) : Wn K g M pc lv (.int (I i) :: .ref (gA g k) :: st) := by
  intro H locs ls hP hS hl
  obtain ⟨h1, h2⟩ := I_nat hi.1 hi.2 hn
  refine va_zald hK.x hK.b hK.k hP k 1 (ws_a hk hs (by decide)) rfl h1 hd ?_
  rw [h2, hz]
  exact kk H locs ls hP hS hl
theorem r_aaload (hK : Kok K g cc own d) {t n : Nat} {i : Int} (hk : k < 114) (hs : sh k = .inl (t, n)) (ht : t = 2 ∨ t = 3) (hn : n < 2147483648) (hi : 0 ≤ i ∧ i < n) (hd : decode cc pc = .ok (.aaload, 1))
    (kk : Wn K g M (pc + 1) lv (.ref (gA g (rb t + i.toNat)) :: st)) : Wn K g M pc lv (.int (I i) :: .ref (gA g k) :: st) := by
  intro H locs ls hP hS hl
  obtain ⟨h1, h2⟩ := I_nat hi.1 hi.2 hn
  rcases ht with rfl | rfl
  · refine va_aldq hK.x hK.b hK.k hP k 2 (ws_r hk hs (by decide)) rfl h1 hd ?_
    rw [h2]
    exact kk H locs ls hP hS hl
  · refine va_aldq hK.x hK.b hK.k hP k 3 (ws_r hk hs (by decide)) rfl h1 hd ?_
    rw [h2]
    exact kk H locs ls hP hS hl
theorem r_iastore (hK : Kok K g cc own d) {n : Nat} {i z : Int} (hk : k < 114) (hs : sh k = .inl (0, n)) (hn : n < 2147483648) (hi : 0 ≤ i ∧ i < n) (hd : decode cc pc = .ok (.iastore, 1)) {M' : Mem} (hM : up M k i.toNat z = M')
    (kk : Wn K g M' (pc + 1) lv st) : Wn K g M pc lv (.int (I z) :: .int (I i) :: .ref (gA g k) :: st) := by
  intro H locs ls hP hS hl
  obtain ⟨h1, h2⟩ := I_nat hi.1 hi.2 hn
  refine va_iast hK.x hK.b hK.k hP (hK.dd M) hS k 0 (ws_a hk hs (by decide)) rfl h1 hd (fun H1 locs1 hP1 hD1 hS1 => ?_)
  rw [h2, ws_puta hk hs (by decide), hM] at hP1
  exact kk H1 locs1 ls hP1 hS1 hl
theorem r_bastore (hK : Kok K g cc own d) {n : Nat} {i z : Int} (hk : k < 114) (hs : sh k = .inl (1, n)) (hn : n < 2147483648) (hi : 0 ≤ i ∧ i < n) (hz : vp_nar .boolean (I z) = I z) (hd : decode cc pc = .ok (.bastore, 1)) {M' : Mem} (hM : up M k i.toNat z = M')
    (kk : Wn K g M' (pc + 1) lv st) : Wn K g M pc lv (.int (I z) :: .int (I i) :: .ref (gA g k) :: st) := by
  intro H locs ls hP hS hl
  obtain ⟨h1, h2⟩ := I_nat hi.1 hi.2 hn
  refine va_zast hK.x hK.b hK.k hP (hK.dd M) hS k 1 (ws_a hk hs (by decide)) rfl h1 hd (fun H1 locs1 hP1 hD1 hS1 => ?_)
  rw [h2, hz, ws_puta hk hs (by decide), hM] at hP1
  exact kk H1 locs1 ls hP1 hS1 hl
end HP
/-! contracts: Qv says what comes back, and the memory then -/
def Qc (g : GT) (Qv : Option Value → Mem → Prop) : Array Value → State → Outcome → State → Prop := fun _ st oc t => (∃ (v : Option Value) (M : Mem), oc = .returned v ∧ Qv v M ∧ World g M t) ∧ va_F (gS g) st t
def MetC (l : Launch) (y : MethodName) (cc : ByteArray) (nL : Nat) (ret : Option FieldType) (d : Nat) (g : GT) (vals : List Value) (M : Mem) (Qv : Option Value → Mem → Prop) : Prop :=
  Met l y (Cond.code y cc nL ret :: TB) (rm d) (va_Pc vals (World g M)) (Qc g Qv) 0 0 (gS g)
def QI (φ : Mem → Mem) (Q : Mem → Int → Prop) : Option Value → Mem → Prop := fun v M => ∃ C z, v = some (.int (I z)) ∧ M = φ C ∧ Q C z
def QV (φ : Mem → Mem) (Q : Mem → Int → Prop) : Option Value → Mem → Prop := fun v M => ∃ C, v = none ∧ M = φ C ∧ Q C 0
def QL (φ : Mem → Mem) (Q : Mem → Int → Prop) : Option Value → Mem → Prop := fun v M => ∃ C z, v = some (.long (LL z)) ∧ M = φ C ∧ Q C z
def QP (g : GT) (φ : Mem → Mem) (Q : Mem → Nat → Prop) : Option Value → Mem → Prop := fun v M => ∃ C i, v = some (.ref (gA g (27 + i))) ∧ i < 34 ∧ M = φ C ∧ Q C i
section EN
variable {K : KT} {g : GT} {cc : ByteArray} {own : String} {d : Nat} {M : Mem} {pc : Nat} {lv : List (Option Value)} {st : List Value}
theorem World.warm {U V : State} (h : World g M U) (hW : U.WarmedH V.vm) (hh : V.heap = U.heap) : World g M V := by
  obtain ⟨h1, h2, h3, h4⟩ := h
  exact ⟨by rw [hh]; exact h1, va_K.moved hW.alike h2, h3, h4.warm hW (fun q _ _ => by rw [hh])⟩
theorem World.blind (vals : List Value) : FrameBlind (va_Pc vals (World g M)) := by
  intro a U gg mk h
  obtain ⟨h0, h1, h2, h3, h4⟩ := h
  exact ⟨h0, h1, va_K.moved (u := U) (U := U.calling gg mk a) (Vm.Alike.refl U.vm) h2, h3, h4.same rfl rfl⟩
/-- the state behind some rows is the world again -/
theorem world_at (hK : Kok K g cc own d) {H : Heap} {locs : List Loc} {t : State} (hP : va_P (gD g) vwCl (wsM g M) H) (hS : va_S (gS g) (kS K).heap H locs) (ht : t.heap = H) (hW : (kS K).WarmedH t.vm) : World g M t :=
  ⟨by rw [ht]; exact hP, va_K.moved hW.alike hK.k, hK.dd M, hK.e.warm hW (fun q h1 h2 => by rw [ht]; exact hS.2.1 q h1 h2)⟩
/-- ends -/
theorem r_ireturn (hK : Kok K g cc own d) {ty : FieldType} (hr : (kMe K).sig.returnType = some ty) {z : Int} {Qv : Option Value → Mem → Prop} (hQ : kQ K = MQ (kB K) (Qc g Qv) (kA K) (kS K) 0 0 (gS g)) (hn : narrow ty (.int (I z)) = .int (I z)) (hd : decode cc pc = .ok (.ireturn, 1)) (h : Qv (some (.int (I z))) M) : Wn K g M pc lv [.int (I z)] := by
  intro H locs ls hP hS hl
  rw [hQ]
  exact W.zret hK.x hK.b hr hn (fun t ht hW => ⟨⟨_, M, rfl, h, world_at hK hP hS ht hW⟩, hS.F ht⟩) hS.2.2 hd hK.lk
theorem r_return (hK : Kok K g cc own d) (hr : (kMe K).sig.returnType = none) {Qv : Option Value → Mem → Prop} (hQ : kQ K = MQ (kB K) (Qc g Qv) (kA K) (kS K) 0 0 (gS g)) (hd : decode cc pc = .ok (.return_, 1)) (h : Qv none M) : Wn K g M pc lv [] := by
  intro H locs ls hP hS hl
  rw [hQ]
  exact W.vret hK.x hK.b hr (fun t ht hW => ⟨⟨_, M, rfl, h, world_at hK hP hS ht hW⟩, hS.F ht⟩) hS.2.2 hd hK.lk
theorem r_lreturn (hK : Kok K g cc own d) (hr : (kMe K).sig.returnType = some .long) {z : Int} {Qv : Option Value → Mem → Prop} (hQ : kQ K = MQ (kB K) (Qc g Qv) (kA K) (kS K) 0 0 (gS g)) (hd : decode cc pc = .ok (.lreturn, 1)) (h : Qv (some (.long (LL z))) M) : Wn K g M pc lv [.long (LL z)] := by
  intro H locs ls hP hS hl
  rw [hQ]
  exact W.lret hK.x hK.b hr (fun t ht hW => ⟨⟨_, M, rfl, h, world_at hK hP hS ht hW⟩, hS.F ht⟩) hS.2.2 hd hK.lk
theorem r_areturn (hK : Kok K g cc own d) {n : String} (hr : (kMe K).sig.returnType = some (.object n)) {a : Nat} {Qv : Option Value → Mem → Prop} (hQ : kQ K = MQ (kB K) (Qc g Qv) (kA K) (kS K) 0 0 (gS g)) (hd : decode cc pc = .ok (.areturn, 1)) (h : Qv (some (.ref a)) M) : Wn K g M pc lv [.ref a] := by
  intro H locs ls hP hS hl
  rw [hQ]
  exact W.aret hK.x hK.b hr (Or.inl ⟨n, rfl⟩) (Or.inr ⟨a, rfl⟩) (fun t ht hW => ⟨⟨_, M, rfl, h, world_at hK hP hS ht hW⟩, hS.F ht⟩) hS.2.2 hd hK.lk
/-- a contract out of a walk -/
theorem met_of {l : Launch} {y : MethodName} {nL : Nat} {ret : Option FieldType} {vals : List Value} {Qv : Option Value → Mem → Prop} (hy : plainName y.cls = true) (hlen : (lg_sl vals).length ≤ nL) (hlv : ∀ (i : Nat) (v : Value), lv[i]? = some (some v) → (i, v) ∈ lv_args 0 vals)
    (body : ∀ K : KT, Kok K g cc y.cls d → kN K = nL → kL K = l → (kMe K).sig.returnType = ret → kQ K = MQ (kB K) (Qc g Qv) (kA K) (kS K) 0 0 (gS g) → (kMe K).name = y.name → Wn K g M 0 lv []) : MetC l y cc nL ret d g vals M Qv := by
  refine Met.ofW (cc := cc) (maxL := nL) (ret := ret) hy rfl ?_
  intro p e s m args below meth c s₁ B hml hv
  obtain ⟨rfl, hP, hK, hD, hE⟩ := hv
  have hts := atoms_spec (ws := Cond.code y cc nL ret :: TB) B.pre
  have h := body (p, l, e, rm d, s, m, vals.toArray, below, meth, c, MQ below (Qc g Qv) vals.toArray s 0 0 (gS g), nL) ⟨B.exec, B.bytes, hml, findClass_of_methodNamed B.named, fun w hw => hts w (List.mem_cons_of_mem _ hw), hK, fun M' => wsM_D hD, hE, B.notSynchronized, Nat.le_refl _, Nat.le_refl _⟩ rfl rfl B.returns rfl (name_of_methodNamed B.named B.method).1
  have hl := lv_entry vals (n := nL) hlen
  rw [lg_entry_eq]
  exact h s.heap [] _ hP va_S.rf ⟨hl.1, hl.2.1, fun i v hi => hl.2.2 (i, v) (hlv i v hi)⟩
/-- calls -/
theorem w_call {vals rest : List Value} {H : Heap} {locs : List Loc} {ls : Array Slot} {st0 : List Value} {Qv : Option Value → Mem → Prop} (hK : Kok K g cc own d)
    (hr : va_Run (kP K) (kL K) (kE K) (kR K) (kS K) (kM K) (kA K) (kB K) (kMe K) (kC K) H locs 0 0 0 0 (F0 (kM K) pc ls st0) rest (Qc g Qv vals.toArray) (gS g)) (hS : va_S (gS g) (kS K).heap H locs) (hl : lh ls (kN K) lv)
    (kk : ∀ (v : Option Value) (M' : Mem), Qv v M' → Wn K g M' (pc + 3) lv (v.toList ++ rest)) : W (kP K) (kL K) (kE K) (kR K) (kS K) (kM K) (kA K) (kB K) (kMe K) (kC K) H locs 0 0 (kQ K) (F0 (kM K) pc ls st0) := by
  intro T hT X
  obtain ⟨v, st₀, t, T', L, h0, X', hL, e1, e2, ⟨⟨v', M', hv, hq, hw⟩, hz, hk⟩, go⟩ := hr T hT X
  cases hv
  rw [h0] at hz hk
  have hS' : va_S (gS g) (kS K).heap T'.heap (locs ++ L) := by
    refine ⟨Nat.le_trans hS.1 (by rw [e1]; exact hz), fun q h1 h2 => ?_, fun q hq => ?_⟩
    · rw [e1, hk q (Nat.lt_of_lt_of_le h1 hS.1) h2]
      exact hS.2.1 q h1 h2
    · rcases List.mem_append.mp hq with h | h
      · exact hS.2.2 q h
      · exact hL q h
  obtain ⟨t2, a1, b1⟩ := kk v M' hq T'.heap (locs ++ L) ls (by rw [e1]; exact hw.1) hS' hl T' rfl X'
  exact ⟨t2, go t2 a1, b1⟩
/-- what the tables say of a method that is called -/
def CkB (y : MethodName) (cc : ByteArray) (nL : Nat) (ret : Option FieldType) (n : Nat) : Prop := Cond.code y cc nL ret ∈ TB ∧ Cond.initialized y.cls ∈ TB ∧ (y.cls ≠ "java/lang/invoke/MethodHandle" ∧ y.cls ≠ "java/lang/invoke/VarHandle" ∧ (parseMethodDescriptor y.desc).map (fun d => d.parameters.length) = some n) ∧ nL ≤ 21
variable {y : MethodName} {c2 : ByteArray} {nL n d' idx k ci : Nat} {ret : Option FieldType} {As : List Value} {Qv : Option Value → Mem → Prop} {fl : List (Option Nat)} {C : String} {T : u_T} {N : Nat} {ty : Nat → FieldType} {host : String}
theorem ck_gd (hy : CkB y c2 nL ret n) : GoodIn TB (Cond.code y c2 nL ret :: TB) := TB_GoodIn (fun w h => (List.mem_cons.mp h).elim (fun e => by rw [e]; exact hy.1) id)
theorem room_le (hK : Kok K g cc own d) (hd : d' + 1 ≤ d) (hn : nL ≤ 21) : (rm d').frames + 1 ≤ (kR K).frames ∧ 8 + (nL + 11) + (rm d').locals ≤ (kR K).locals := by
  have h1 := hK.f
  have h2 := hK.l
  refine ⟨?_, ?_⟩
  · show d' + 1 ≤ _; omega
  · show 8 + (nL + 11) + 40 * d' ≤ _; omega
theorem ck_B (hK : Kok K g cc own d) (hy : CkB y c2 nL ret n) (hw : Cond.methodLink own idx y ∈ TB) (hdd : d' + 1 ≤ d) : CallB (kR K) (kS K) (kA K) own idx y c2 nL ret (Cond.code y c2 nL ret :: TB) (rm d') 0 0 n :=
  callB_of n hK.t (ck_gd hy) rfl rfl rfl (hK.t _ hy.2.1) (hK.t _ hw) hy.2.2.1 (room_le hK hdd hy.2.2.2)
theorem ck_N (hK : Kok K g cc own d) (hy : CkB y c2 nL ret n) (hw : Cond.methodLinkNest own idx y host ∈ NS) (hdd : d' + 1 ≤ d) : va_CN (kR K) (kS K) (kA K) own idx y host c2 nL ret (Cond.code y c2 nL ret :: TB) (rm d') 0 0 n :=
  va_cnB n hK.t (ck_gd hy) rfl rfl rfl (hK.e.1 _ hw) (hK.t _ hy.2.1) hy.2.2.1 (room_le hK hdd hy.2.2.2)
theorem r_callV (hK : Kok K g cc own d) (hy : CkB y c2 nL ret n) (hi : Cond.instanceMethod y ∈ TB) (hsel : Cond.selects y.cls y y ∈ TB) (hw : Cond.methodLink own idx y ∈ TB) (hdd : d' + 1 ≤ d) (hm : MetC (kL K) y c2 nL ret d' g (.ref (gA g k) :: As) M Qv) (hc : ClsOk ci y.cls T N ty) (hk : k < 114) (hs : sh k = .inr (ci, fl)) (hn : As.length = n) (hst : (st.map fun v => v.category).sum ≤ 8) (hd : decode cc pc = .ok (.invokevirtual idx, 3))
    (kk : ∀ (v : Option Value) (M' : Mem), Qv v M' → Wn K g M' (pc + 3) lv (v.toList ++ st)) : Wn K g M pc lv (As.reverse ++ .ref (gA g k) :: st) := by
  intro H locs ls hP hS hl
  refine w_call hK (vals := .ref (gA g k) :: As) (rest := st) (va_runV (As := As) (rest := st) ⟨hK.x, hK.b, hK.ml, hK.o, hK.t⟩ hm ⟨ck_B hK hy hw hdd, hK.t _ hi, hK.t _ hsel⟩ ⟨World.blind _, va_recv hK.k hP hc.1 (ws_o hk hs), fun U hU hW => ⟨rfl, world_at hK hP hS hU hW⟩⟩ rfl hn hl.1 rfl (lv_room hst) hd ⟨Nat.zero_le _, Nat.zero_le _⟩) hS hl kk
theorem r_callS (hK : Kok K g cc own d) (hy : CkB y c2 nL ret n) (hi : Cond.static y ∈ TB) (hw : Cond.methodLink own idx y ∈ TB) (hdd : d' + 1 ≤ d) (hm : MetC (kL K) y c2 nL ret d' g As M Qv) (hn : As.length = n) (hst : (st.map fun v => v.category).sum ≤ 8) (hd : decode cc pc = .ok (.invokestatic idx, 3))
    (kk : ∀ (v : Option Value) (M' : Mem), Qv v M' → Wn K g M' (pc + 3) lv (v.toList ++ st)) : Wn K g M pc lv (As.reverse ++ st) := by
  intro H locs ls hP hS hl
  refine w_call hK (vals := As) (rest := st) (va_runS (As := As) (rest := st) ⟨hK.x, hK.b, hK.ml, hK.o, hK.t⟩ hm ⟨ck_B hK hy hw hdd, hK.t _ hi⟩ ⟨World.blind _, fun U hU hW => ⟨rfl, world_at hK hP hS hU hW⟩⟩ rfl hn hl.1 rfl (lv_room hst) hd ⟨Nat.zero_le _, Nat.zero_le _⟩) hS hl kk
theorem r_callSN (hK : Kok K g cc own d) (hy : CkB y c2 nL ret n) (hi : Cond.static y ∈ TB) (hw : Cond.methodLinkNest own idx y host ∈ NS) (hdd : d' + 1 ≤ d) (hm : MetC (kL K) y c2 nL ret d' g As M Qv) (hn : As.length = n) (hst : (st.map fun v => v.category).sum ≤ 8) (hd : decode cc pc = .ok (.invokestatic idx, 3))
    (kk : ∀ (v : Option Value) (M' : Mem), Qv v M' → Wn K g M' (pc + 3) lv (v.toList ++ st)) : Wn K g M pc lv (As.reverse ++ st) := by
  intro H locs ls hP hS hl
  refine w_call hK (vals := As) (rest := st) (va_runSN (As := As) (rest := st) ⟨hK.x, hK.b, hK.ml, hK.o, hK.t⟩ hm ⟨ck_N hK hy hw hdd, hK.t _ hi, trivial⟩ ⟨World.blind _, fun U hU hW => ⟨rfl, world_at hK hP hS hU hW⟩⟩ rfl hn hl.1 rfl (lv_room hst) hd ⟨Nat.zero_le _, Nat.zero_le _⟩) hS hl kk
theorem r_callVN (hK : Kok K g cc own d) (hy : CkB y c2 nL ret n) (hi : Cond.instanceMethod y ∈ TB) (hsel : Cond.selects y.cls y y ∈ TB) (hw : Cond.methodLinkNest own idx y host ∈ NS) (hdd : d' + 1 ≤ d) (hm : MetC (kL K) y c2 nL ret d' g (.ref (gA g k) :: As) M Qv) (hc : ClsOk ci y.cls T N ty) (hk : k < 114) (hs : sh k = .inr (ci, fl)) (hn : As.length = n) (hst : (st.map fun v => v.category).sum ≤ 8) (hd : decode cc pc = .ok (.invokevirtual idx, 3))
    (kk : ∀ (v : Option Value) (M' : Mem), Qv v M' → Wn K g M' (pc + 3) lv (v.toList ++ st)) : Wn K g M pc lv (As.reverse ++ .ref (gA g k) :: st) := by
  intro H locs ls hP hS hl
  refine w_call hK (vals := .ref (gA g k) :: As) (rest := st) (va_runVN (As := As) (rest := st) ⟨hK.x, hK.b, hK.ml, hK.o, hK.t⟩ hm ⟨ck_N hK hy hw hdd, hK.t _ hi, hK.t _ hsel⟩ ⟨World.blind _, va_recv hK.k hP hc.1 (ws_o hk hs), fun U hU hW => ⟨rfl, world_at hK hP hS hU hW⟩⟩ rfl hn hl.1 rfl (lv_room hst) hd ⟨Nat.zero_le _, Nat.zero_le _⟩) hS hl kk
end EN
end
section
theorem dX0_init_0 : decode cX0_init 0 = .ok (.aload_n 0, 1) := by decide +kernel
theorem dX0_init_1 : decode cX0_init 1 = .ok (.invokespecial 3, 3) := by decide +kernel
theorem dX0_init_4 : decode cX0_init 4 = .ok (.aload_n 0, 1) := by decide +kernel
theorem dX0_init_5 : decode cX0_init 5 = .ok (.new 9, 3) := by decide +kernel
theorem dX0_init_8 : decode cX0_init 8 = .ok (.dup, 1) := by decide +kernel
theorem dX0_init_9 : decode cX0_init 9 = .ok (.sipush 256, 3) := by decide +kernel
theorem dX0_init_12 : decode cX0_init 12 = .ok (.invokespecial 11, 3) := by decide +kernel
theorem dX0_init_15 : decode cX0_init 15 = .ok (.putfield 14, 3) := by decide +kernel
theorem dX0_init_18 : decode cX0_init 18 = .ok (.aload_n 0, 1) := by decide +kernel
theorem dX0_init_19 : decode cX0_init 19 = .ok (.new 20, 3) := by decide +kernel
theorem dX0_init_22 : decode cX0_init 22 = .ok (.dup, 1) := by decide +kernel
theorem dX0_init_23 : decode cX0_init 23 = .ok (.invokespecial 22, 3) := by decide +kernel
theorem dX0_init_26 : decode cX0_init 26 = .ok (.putfield 23, 3) := by decide +kernel
theorem dX0_init_29 : decode cX0_init 29 = .ok (.aload_n 0, 1) := by decide +kernel
theorem dX0_init_30 : decode cX0_init 30 = .ok (.new 20, 3) := by decide +kernel
theorem dX0_init_33 : decode cX0_init 33 = .ok (.dup, 1) := by decide +kernel
theorem dX0_init_34 : decode cX0_init 34 = .ok (.invokespecial 22, 3) := by decide +kernel
theorem dX0_init_37 : decode cX0_init 37 = .ok (.putfield 27, 3) := by decide +kernel
theorem dX0_init_40 : decode cX0_init 40 = .ok (.aload_n 0, 1) := by decide +kernel
theorem dX0_init_41 : decode cX0_init 41 = .ok (.aload_n 1, 1) := by decide +kernel
theorem dX0_init_42 : decode cX0_init 42 = .ok (.putfield 30, 3) := by decide +kernel
theorem dX0_init_45 : decode cX0_init 45 = .ok (.return_, 1) := by decide +kernel
theorem dX0_putKey_0 : decode cX0_putKey 0 = .ok (.aload_n 0, 1) := by decide +kernel
theorem dX0_putKey_1 : decode cX0_putKey 1 = .ok (.getfield 30, 3) := by decide +kernel
theorem dX0_putKey_4 : decode cX0_putKey 4 = .ok (.aload_n 1, 1) := by decide +kernel
theorem dX0_putKey_5 : decode cX0_putKey 5 = .ok (.invokevirtual 34, 3) := by decide +kernel
theorem dX0_putKey_8 : decode cX0_putKey 8 = .ok (.aload_n 0, 1) := by decide +kernel
theorem dX0_putKey_9 : decode cX0_putKey 9 = .ok (.getfield 30, 3) := by decide +kernel
theorem dX0_putKey_12 : decode cX0_putKey 12 = .ok (.aload_n 0, 1) := by decide +kernel
theorem dX0_putKey_13 : decode cX0_putKey 13 = .ok (.getfield 30, 3) := by decide +kernel
theorem dX0_putKey_16 : decode cX0_putKey 16 = .ok (.getfield 40, 3) := by decide +kernel
theorem dX0_putKey_19 : decode cX0_putKey 19 = .ok (.iconst 1, 1) := by decide +kernel
theorem dX0_putKey_20 : decode cX0_putKey 20 = .ok (.isub, 1) := by decide +kernel
theorem dX0_putKey_21 : decode cX0_putKey 21 = .ok (.invokevirtual 44, 3) := by decide +kernel
theorem dX0_putKey_24 : decode cX0_putKey 24 = .ok (.astore_n 3, 1) := by decide +kernel
theorem dX0_putKey_25 : decode cX0_putKey 25 = .ok (.aload_n 3, 1) := by decide +kernel
theorem dX0_putKey_26 : decode cX0_putKey 26 = .ok (.aload_n 1, 1) := by decide +kernel
theorem dX0_putKey_27 : decode cX0_putKey 27 = .ok (.iconst 0, 1) := by decide +kernel
theorem dX0_putKey_28 : decode cX0_putKey 28 = .ok (.invokevirtual 48, 3) := by decide +kernel
theorem dX0_putKey_31 : decode cX0_putKey 31 = .ok (.istore 4, 2) := by decide +kernel
theorem dX0_putKey_33 : decode cX0_putKey 33 = .ok (.aload_n 3, 1) := by decide +kernel
theorem dX0_putKey_34 : decode cX0_putKey 34 = .ok (.iload 4, 2) := by decide +kernel
theorem dX0_putKey_36 : decode cX0_putKey 36 = .ok (.aload_n 1, 1) := by decide +kernel
theorem dX0_putKey_37 : decode cX0_putKey 37 = .ok (.invokevirtual 52, 3) := by decide +kernel
theorem dX0_putKey_40 : decode cX0_putKey 40 = .ok (.ifCond .eq 21, 3) := by decide +kernel
theorem dX0_putKey_43 : decode cX0_putKey 43 = .ok (.aload_n 3, 1) := by decide +kernel
theorem dX0_putKey_44 : decode cX0_putKey 44 = .ok (.iload 4, 2) := by decide +kernel
theorem dX0_putKey_46 : decode cX0_putKey 46 = .ok (.invokevirtual 56, 3) := by decide +kernel
theorem dX0_putKey_49 : decode cX0_putKey 49 = .ok (.istore 5, 2) := by decide +kernel
theorem dX0_putKey_51 : decode cX0_putKey 51 = .ok (.aload_n 3, 1) := by decide +kernel
theorem dX0_putKey_52 : decode cX0_putKey 52 = .ok (.iload 4, 2) := by decide +kernel
theorem dX0_putKey_54 : decode cX0_putKey 54 = .ok (.iload_n 2, 1) := by decide +kernel
theorem dX0_putKey_55 : decode cX0_putKey 55 = .ok (.invokevirtual 60, 3) := by decide +kernel
theorem dX0_putKey_58 : decode cX0_putKey 58 = .ok (.iload 5, 2) := by decide +kernel
theorem dX0_putKey_60 : decode cX0_putKey 60 = .ok (.ireturn, 1) := by decide +kernel
theorem dX0_putKey_61 : decode cX0_putKey 61 = .ok (.aload_n 0, 1) := by decide +kernel
theorem dX0_putKey_62 : decode cX0_putKey 62 = .ok (.getfield 30, 3) := by decide +kernel
theorem dX0_putKey_65 : decode cX0_putKey 65 = .ok (.iconst 0, 1) := by decide +kernel
theorem dX0_putKey_66 : decode cX0_putKey 66 = .ok (.invokevirtual 64, 3) := by decide +kernel
theorem dX0_putKey_69 : decode cX0_putKey 69 = .ok (.aload_n 0, 1) := by decide +kernel
theorem dX0_putKey_70 : decode cX0_putKey 70 = .ok (.getfield 30, 3) := by decide +kernel
theorem dX0_putKey_73 : decode cX0_putKey 73 = .ok (.getfield 40, 3) := by decide +kernel
theorem dX0_putKey_76 : decode cX0_putKey 76 = .ok (.if_icmp .gt 6, 3) := by decide +kernel
theorem dX0_putKey_79 : decode cX0_putKey 79 = .ok (.bipush (-3), 2) := by decide +kernel
theorem dX0_putKey_81 : decode cX0_putKey 81 = .ok (.ireturn, 1) := by decide +kernel
theorem dX0_putKey_82 : decode cX0_putKey 82 = .ok (.aload_n 0, 1) := by decide +kernel
theorem dX0_putKey_83 : decode cX0_putKey 83 = .ok (.getfield 23, 3) := by decide +kernel
theorem dX0_putKey_86 : decode cX0_putKey 86 = .ok (.aload_n 1, 1) := by decide +kernel
theorem dX0_putKey_87 : decode cX0_putKey 87 = .ok (.invokevirtual 67, 3) := by decide +kernel
theorem dX0_putKey_90 : decode cX0_putKey 90 = .ok (.aload_n 0, 1) := by decide +kernel
theorem dX0_putKey_91 : decode cX0_putKey 91 = .ok (.iload 4, 2) := by decide +kernel
theorem dX0_putKey_93 : decode cX0_putKey 93 = .ok (.iload_n 2, 1) := by decide +kernel
theorem dX0_putKey_94 : decode cX0_putKey 94 = .ok (.invokevirtual 70, 3) := by decide +kernel
theorem dX0_putKey_97 : decode cX0_putKey 97 = .ok (.bipush (-9), 2) := by decide +kernel
theorem dX0_putKey_99 : decode cX0_putKey 99 = .ok (.ireturn, 1) := by decide +kernel
theorem dX0_insertUpward_0 : decode cX0_insertUpward 0 = .ok (.iload_n 1, 1) := by decide +kernel
theorem dX0_insertUpward_1 : decode cX0_insertUpward 1 = .ok (.istore_n 3, 1) := by decide +kernel
theorem dX0_insertUpward_2 : decode cX0_insertUpward 2 = .ok (.iload_n 2, 1) := by decide +kernel
theorem dX0_insertUpward_3 : decode cX0_insertUpward 3 = .ok (.istore 4, 2) := by decide +kernel
theorem dX0_insertUpward_5 : decode cX0_insertUpward 5 = .ok (.aload_n 0, 1) := by decide +kernel
theorem dX0_insertUpward_6 : decode cX0_insertUpward 6 = .ok (.getfield 30, 3) := by decide +kernel
theorem dX0_insertUpward_9 : decode cX0_insertUpward 9 = .ok (.getfield 40, 3) := by decide +kernel
theorem dX0_insertUpward_12 : decode cX0_insertUpward 12 = .ok (.iconst 1, 1) := by decide +kernel
theorem dX0_insertUpward_13 : decode cX0_insertUpward 13 = .ok (.isub, 1) := by decide +kernel
theorem dX0_insertUpward_14 : decode cX0_insertUpward 14 = .ok (.istore 5, 2) := by decide +kernel
theorem dX0_insertUpward_16 : decode cX0_insertUpward 16 = .ok (.iload 5, 2) := by decide +kernel
theorem dX0_insertUpward_18 : decode cX0_insertUpward 18 = .ok (.ifCond .lt 83, 3) := by decide +kernel
theorem dX0_insertUpward_21 : decode cX0_insertUpward 21 = .ok (.aload_n 0, 1) := by decide +kernel
theorem dX0_insertUpward_22 : decode cX0_insertUpward 22 = .ok (.getfield 30, 3) := by decide +kernel
theorem dX0_insertUpward_25 : decode cX0_insertUpward 25 = .ok (.iload 5, 2) := by decide +kernel
theorem dX0_insertUpward_27 : decode cX0_insertUpward 27 = .ok (.invokevirtual 44, 3) := by decide +kernel
theorem dX0_insertUpward_30 : decode cX0_insertUpward 30 = .ok (.astore 6, 2) := by decide +kernel
theorem dX0_insertUpward_32 : decode cX0_insertUpward 32 = .ok (.aload_n 0, 1) := by decide +kernel
theorem dX0_insertUpward_33 : decode cX0_insertUpward 33 = .ok (.getfield 14, 3) := by decide +kernel
theorem dX0_insertUpward_36 : decode cX0_insertUpward 36 = .ok (.aload 6, 2) := by decide +kernel
theorem dX0_insertUpward_38 : decode cX0_insertUpward 38 = .ok (.invokevirtual 73, 3) := by decide +kernel
theorem dX0_insertUpward_41 : decode cX0_insertUpward 41 = .ok (.aload_n 0, 1) := by decide +kernel
theorem dX0_insertUpward_42 : decode cX0_insertUpward 42 = .ok (.getfield 14, 3) := by decide +kernel
theorem dX0_insertUpward_45 : decode cX0_insertUpward 45 = .ok (.iload_n 3, 1) := by decide +kernel
theorem dX0_insertUpward_46 : decode cX0_insertUpward 46 = .ok (.aload_n 0, 1) := by decide +kernel
theorem dX0_insertUpward_47 : decode cX0_insertUpward 47 = .ok (.getfield 23, 3) := by decide +kernel
theorem dX0_insertUpward_50 : decode cX0_insertUpward 50 = .ok (.iload 4, 2) := by decide +kernel
theorem dX0_insertUpward_52 : decode cX0_insertUpward 52 = .ok (.invokevirtual 76, 3) := by decide +kernel
theorem dX0_insertUpward_55 : decode cX0_insertUpward 55 = .ok (.aload_n 0, 1) := by decide +kernel
theorem dX0_insertUpward_56 : decode cX0_insertUpward 56 = .ok (.getfield 14, 3) := by decide +kernel
theorem dX0_insertUpward_59 : decode cX0_insertUpward 59 = .ok (.invokevirtual 80, 3) := by decide +kernel
theorem dX0_insertUpward_62 : decode cX0_insertUpward 62 = .ok (.bipush 64, 2) := by decide +kernel
theorem dX0_insertUpward_64 : decode cX0_insertUpward 64 = .ok (.if_icmp .gt 13, 3) := by decide +kernel
theorem dX0_insertUpward_67 : decode cX0_insertUpward 67 = .ok (.aload 6, 2) := by decide +kernel
theorem dX0_insertUpward_69 : decode cX0_insertUpward 69 = .ok (.aload_n 0, 1) := by decide +kernel
theorem dX0_insertUpward_70 : decode cX0_insertUpward 70 = .ok (.getfield 14, 3) := by decide +kernel
theorem dX0_insertUpward_73 : decode cX0_insertUpward 73 = .ok (.invokevirtual 73, 3) := by decide +kernel
theorem dX0_insertUpward_76 : decode cX0_insertUpward 76 = .ok (.return_, 1) := by decide +kernel
theorem dX0_insertUpward_77 : decode cX0_insertUpward 77 = .ok (.aload_n 0, 1) := by decide +kernel
theorem dX0_insertUpward_78 : decode cX0_insertUpward 78 = .ok (.aload 6, 2) := by decide +kernel
theorem dX0_insertUpward_80 : decode cX0_insertUpward 80 = .ok (.invokevirtual 84, 3) := by decide +kernel
theorem dX0_insertUpward_83 : decode cX0_insertUpward 83 = .ok (.istore 4, 2) := by decide +kernel
theorem dX0_insertUpward_85 : decode cX0_insertUpward 85 = .ok (.aload_n 0, 1) := by decide +kernel
theorem dX0_insertUpward_86 : decode cX0_insertUpward 86 = .ok (.getfield 30, 3) := by decide +kernel
theorem dX0_insertUpward_89 : decode cX0_insertUpward 89 = .ok (.iload 5, 2) := by decide +kernel
theorem dX0_insertUpward_91 : decode cX0_insertUpward 91 = .ok (.invokevirtual 88, 3) := by decide +kernel
theorem dX0_insertUpward_94 : decode cX0_insertUpward 94 = .ok (.istore_n 3, 1) := by decide +kernel
theorem dX0_insertUpward_95 : decode cX0_insertUpward 95 = .ok (.iinc 5 (-1), 3) := by decide +kernel
theorem dX0_insertUpward_98 : decode cX0_insertUpward 98 = .ok (.goto (-82), 3) := by decide +kernel
theorem dX0_insertUpward_101 : decode cX0_insertUpward 101 = .ok (.aload_n 0, 1) := by decide +kernel
theorem dX0_insertUpward_102 : decode cX0_insertUpward 102 = .ok (.iload 4, 2) := by decide +kernel
theorem dX0_insertUpward_104 : decode cX0_insertUpward 104 = .ok (.invokevirtual 91, 3) := by decide +kernel
theorem dX0_insertUpward_107 : decode cX0_insertUpward 107 = .ok (.return_, 1) := by decide +kernel
theorem dX0_split_0 : decode cX0_split 0 = .ok (.aload_n 0, 1) := by decide +kernel
theorem dX0_split_1 : decode cX0_split 1 = .ok (.getfield 30, 3) := by decide +kernel
theorem dX0_split_4 : decode cX0_split 4 = .ok (.invokevirtual 94, 3) := by decide +kernel
theorem dX0_split_7 : decode cX0_split 7 = .ok (.istore_n 2, 1) := by decide +kernel
theorem dX0_split_8 : decode cX0_split 8 = .ok (.aload_n 0, 1) := by decide +kernel
theorem dX0_split_9 : decode cX0_split 9 = .ok (.getfield 30, 3) := by decide +kernel
theorem dX0_split_12 : decode cX0_split 12 = .ok (.iload_n 2, 1) := by decide +kernel
theorem dX0_split_13 : decode cX0_split 13 = .ok (.invokevirtual 97, 3) := by decide +kernel
theorem dX0_split_16 : decode cX0_split 16 = .ok (.astore_n 3, 1) := by decide +kernel
theorem dX0_split_17 : decode cX0_split 17 = .ok (.aload_n 0, 1) := by decide +kernel
theorem dX0_split_18 : decode cX0_split 18 = .ok (.getfield 14, 3) := by decide +kernel
theorem dX0_split_21 : decode cX0_split 21 = .ok (.invokevirtual 100, 3) := by decide +kernel
theorem dX0_split_24 : decode cX0_split 24 = .ok (.iconst 1, 1) := by decide +kernel
theorem dX0_split_25 : decode cX0_split 25 = .ok (.if_icmp .ne 18, 3) := by decide +kernel
theorem dX0_split_28 : decode cX0_split 28 = .ok (.aload_n 3, 1) := by decide +kernel
theorem dX0_split_29 : decode cX0_split 29 = .ok (.aload_n 1, 1) := by decide +kernel
theorem dX0_split_30 : decode cX0_split 30 = .ok (.invokevirtual 103, 3) := by decide +kernel
theorem dX0_split_33 : decode cX0_split 33 = .ok (.invokevirtual 106, 3) := by decide +kernel
theorem dX0_split_36 : decode cX0_split 36 = .ok (.aload_n 1, 1) := by decide +kernel
theorem dX0_split_37 : decode cX0_split 37 = .ok (.iload_n 2, 1) := by decide +kernel
theorem dX0_split_38 : decode cX0_split 38 = .ok (.iconst 1, 1) := by decide +kernel
theorem dX0_split_39 : decode cX0_split 39 = .ok (.iadd, 1) := by decide +kernel
theorem dX0_split_40 : decode cX0_split 40 = .ok (.invokevirtual 106, 3) := by decide +kernel
theorem dX0_split_43 : decode cX0_split 43 = .ok (.aload_n 0, 1) := by decide +kernel
theorem dX0_split_44 : decode cX0_split 44 = .ok (.getfield 14, 3) := by decide +kernel
theorem dX0_split_47 : decode cX0_split 47 = .ok (.invokevirtual 109, 3) := by decide +kernel
theorem dX0_split_50 : decode cX0_split 50 = .ok (.istore 4, 2) := by decide +kernel
theorem dX0_split_52 : decode cX0_split 52 = .ok (.aload_n 0, 1) := by decide +kernel
theorem dX0_split_53 : decode cX0_split 53 = .ok (.iload 4, 2) := by decide +kernel
theorem dX0_split_55 : decode cX0_split 55 = .ok (.invokevirtual 112, 3) := by decide +kernel
theorem dX0_split_58 : decode cX0_split 58 = .ok (.aload_n 0, 1) := by decide +kernel
theorem dX0_split_59 : decode cX0_split 59 = .ok (.iload 4, 2) := by decide +kernel
theorem dX0_split_61 : decode cX0_split 61 = .ok (.aload_n 1, 1) := by decide +kernel
theorem dX0_split_62 : decode cX0_split 62 = .ok (.aload_n 3, 1) := by decide +kernel
theorem dX0_split_63 : decode cX0_split 63 = .ok (.invokevirtual 115, 3) := by decide +kernel
theorem dX0_split_66 : decode cX0_split 66 = .ok (.aload_n 0, 1) := by decide +kernel
theorem dX0_split_67 : decode cX0_split 67 = .ok (.dup, 1) := by decide +kernel
theorem dX0_split_68 : decode cX0_split 68 = .ok (.getfield 119, 3) := by decide +kernel
theorem dX0_split_71 : decode cX0_split 71 = .ok (.iconst 1, 1) := by decide +kernel
theorem dX0_split_72 : decode cX0_split 72 = .ok (.iadd, 1) := by decide +kernel
theorem dX0_split_73 : decode cX0_split 73 = .ok (.putfield 119, 3) := by decide +kernel
theorem dX0_split_76 : decode cX0_split 76 = .ok (.iload_n 2, 1) := by decide +kernel
theorem dX0_split_77 : decode cX0_split 77 = .ok (.ireturn, 1) := by decide +kernel
theorem dX0_raiseRoot_0 : decode cX0_raiseRoot 0 = .ok (.aload_n 0, 1) := by decide +kernel
theorem dX0_raiseRoot_1 : decode cX0_raiseRoot 1 = .ok (.getfield 30, 3) := by decide +kernel
theorem dX0_raiseRoot_4 : decode cX0_raiseRoot 4 = .ok (.invokevirtual 94, 3) := by decide +kernel
theorem dX0_raiseRoot_7 : decode cX0_raiseRoot 7 = .ok (.istore_n 2, 1) := by decide +kernel
theorem dX0_raiseRoot_8 : decode cX0_raiseRoot 8 = .ok (.aload_n 0, 1) := by decide +kernel
theorem dX0_raiseRoot_9 : decode cX0_raiseRoot 9 = .ok (.getfield 30, 3) := by decide +kernel
theorem dX0_raiseRoot_12 : decode cX0_raiseRoot 12 = .ok (.iload_n 2, 1) := by decide +kernel
theorem dX0_raiseRoot_13 : decode cX0_raiseRoot 13 = .ok (.invokevirtual 97, 3) := by decide +kernel
theorem dX0_raiseRoot_16 : decode cX0_raiseRoot 16 = .ok (.astore_n 3, 1) := by decide +kernel
theorem dX0_raiseRoot_17 : decode cX0_raiseRoot 17 = .ok (.aload_n 3, 1) := by decide +kernel
theorem dX0_raiseRoot_18 : decode cX0_raiseRoot 18 = .ok (.iconst 2, 1) := by decide +kernel
theorem dX0_raiseRoot_19 : decode cX0_raiseRoot 19 = .ok (.aload_n 0, 1) := by decide +kernel
theorem dX0_raiseRoot_20 : decode cX0_raiseRoot 20 = .ok (.getfield 30, 3) := by decide +kernel
theorem dX0_raiseRoot_23 : decode cX0_raiseRoot 23 = .ok (.getfield 122, 3) := by decide +kernel
theorem dX0_raiseRoot_26 : decode cX0_raiseRoot 26 = .ok (.invokevirtual 125, 3) := by decide +kernel
theorem dX0_raiseRoot_29 : decode cX0_raiseRoot 29 = .ok (.aload_n 3, 1) := by decide +kernel
theorem dX0_raiseRoot_30 : decode cX0_raiseRoot 30 = .ok (.iconst 0, 1) := by decide +kernel
theorem dX0_raiseRoot_31 : decode cX0_raiseRoot 31 = .ok (.aload_n 0, 1) := by decide +kernel
theorem dX0_raiseRoot_32 : decode cX0_raiseRoot 32 = .ok (.getfield 23, 3) := by decide +kernel
theorem dX0_raiseRoot_35 : decode cX0_raiseRoot 35 = .ok (.iload_n 1, 1) := by decide +kernel
theorem dX0_raiseRoot_36 : decode cX0_raiseRoot 36 = .ok (.invokevirtual 76, 3) := by decide +kernel
theorem dX0_raiseRoot_39 : decode cX0_raiseRoot 39 = .ok (.aload_n 0, 1) := by decide +kernel
theorem dX0_raiseRoot_40 : decode cX0_raiseRoot 40 = .ok (.getfield 30, 3) := by decide +kernel
theorem dX0_raiseRoot_43 : decode cX0_raiseRoot 43 = .ok (.iload_n 2, 1) := by decide +kernel
theorem dX0_raiseRoot_44 : decode cX0_raiseRoot 44 = .ok (.putfield 122, 3) := by decide +kernel
theorem dX0_raiseRoot_47 : decode cX0_raiseRoot 47 = .ok (.aload_n 0, 1) := by decide +kernel
theorem dX0_raiseRoot_48 : decode cX0_raiseRoot 48 = .ok (.getfield 30, 3) := by decide +kernel
theorem dX0_raiseRoot_51 : decode cX0_raiseRoot 51 = .ok (.dup, 1) := by decide +kernel
theorem dX0_raiseRoot_52 : decode cX0_raiseRoot 52 = .ok (.getfield 40, 3) := by decide +kernel
theorem dX0_raiseRoot_55 : decode cX0_raiseRoot 55 = .ok (.iconst 1, 1) := by decide +kernel
theorem dX0_raiseRoot_56 : decode cX0_raiseRoot 56 = .ok (.iadd, 1) := by decide +kernel
theorem dX0_raiseRoot_57 : decode cX0_raiseRoot 57 = .ok (.putfield 40, 3) := by decide +kernel
theorem dX0_raiseRoot_60 : decode cX0_raiseRoot 60 = .ok (.return_, 1) := by decide +kernel
theorem dX0_readSeparator_0 : decode cX0_readSeparator 0 = .ok (.aload_n 0, 1) := by decide +kernel
theorem dX0_readSeparator_1 : decode cX0_readSeparator 1 = .ok (.getfield 14, 3) := by decide +kernel
theorem dX0_readSeparator_4 : decode cX0_readSeparator 4 = .ok (.iload_n 1, 1) := by decide +kernel
theorem dX0_readSeparator_5 : decode cX0_readSeparator 5 = .ok (.aload_n 0, 1) := by decide +kernel
theorem dX0_readSeparator_6 : decode cX0_readSeparator 6 = .ok (.getfield 23, 3) := by decide +kernel
theorem dX0_readSeparator_9 : decode cX0_readSeparator 9 = .ok (.invokevirtual 128, 3) := by decide +kernel
theorem dX0_readSeparator_12 : decode cX0_readSeparator 12 = .ok (.aload_n 0, 1) := by decide +kernel
theorem dX0_readSeparator_13 : decode cX0_readSeparator 13 = .ok (.getfield 14, 3) := by decide +kernel
theorem dX0_readSeparator_16 : decode cX0_readSeparator 16 = .ok (.invokevirtual 100, 3) := by decide +kernel
theorem dX0_readSeparator_19 : decode cX0_readSeparator 19 = .ok (.iconst 1, 1) := by decide +kernel
theorem dX0_readSeparator_20 : decode cX0_readSeparator 20 = .ok (.if_icmp .ne 28, 3) := by decide +kernel
theorem dX0_readSeparator_23 : decode cX0_readSeparator 23 = .ok (.aload_n 0, 1) := by decide +kernel
theorem dX0_readSeparator_24 : decode cX0_readSeparator 24 = .ok (.getfield 14, 3) := by decide +kernel
theorem dX0_readSeparator_27 : decode cX0_readSeparator 27 = .ok (.iload_n 1, 1) := by decide +kernel
theorem dX0_readSeparator_28 : decode cX0_readSeparator 28 = .ok (.iconst 1, 1) := by decide +kernel
theorem dX0_readSeparator_29 : decode cX0_readSeparator 29 = .ok (.isub, 1) := by decide +kernel
theorem dX0_readSeparator_30 : decode cX0_readSeparator 30 = .ok (.aload_n 0, 1) := by decide +kernel
theorem dX0_readSeparator_31 : decode cX0_readSeparator 31 = .ok (.getfield 27, 3) := by decide +kernel
theorem dX0_readSeparator_34 : decode cX0_readSeparator 34 = .ok (.invokevirtual 128, 3) := by decide +kernel
theorem dX0_readSeparator_37 : decode cX0_readSeparator 37 = .ok (.aload_n 0, 1) := by decide +kernel
theorem dX0_readSeparator_38 : decode cX0_readSeparator 38 = .ok (.getfield 23, 3) := by decide +kernel
theorem dX0_readSeparator_41 : decode cX0_readSeparator 41 = .ok (.aload_n 0, 1) := by decide +kernel
theorem dX0_readSeparator_42 : decode cX0_readSeparator 42 = .ok (.getfield 27, 3) := by decide +kernel
theorem dX0_readSeparator_45 : decode cX0_readSeparator 45 = .ok (.invokevirtual 132, 3) := by decide +kernel
theorem dX0_readSeparator_48 : decode cX0_readSeparator 48 = .ok (.return_, 1) := by decide +kernel
theorem dX0_deal_0 : decode cX0_deal 0 = .ok (.aload_n 0, 1) := by decide +kernel
theorem dX0_deal_1 : decode cX0_deal 1 = .ok (.getfield 14, 3) := by decide +kernel
theorem dX0_deal_4 : decode cX0_deal 4 = .ok (.invokevirtual 100, 3) := by decide +kernel
theorem dX0_deal_7 : decode cX0_deal 7 = .ok (.iconst 2, 1) := by decide +kernel
theorem dX0_deal_8 : decode cX0_deal 8 = .ok (.if_icmp .ne 7, 3) := by decide +kernel
theorem dX0_deal_11 : decode cX0_deal 11 = .ok (.iconst 1, 1) := by decide +kernel
theorem dX0_deal_12 : decode cX0_deal 12 = .ok (.goto 4, 3) := by decide +kernel
theorem dX0_deal_15 : decode cX0_deal 15 = .ok (.iconst 0, 1) := by decide +kernel
theorem dX0_deal_16 : decode cX0_deal 16 = .ok (.istore 4, 2) := by decide +kernel
theorem dX0_deal_18 : decode cX0_deal 18 = .ok (.aload_n 2, 1) := by decide +kernel
theorem dX0_deal_19 : decode cX0_deal 19 = .ok (.aload_n 0, 1) := by decide +kernel
theorem dX0_deal_20 : decode cX0_deal 20 = .ok (.getfield 14, 3) := by decide +kernel
theorem dX0_deal_23 : decode cX0_deal 23 = .ok (.invokevirtual 100, 3) := by decide +kernel
theorem dX0_deal_26 : decode cX0_deal 26 = .ok (.aload_n 2, 1) := by decide +kernel
theorem dX0_deal_27 : decode cX0_deal 27 = .ok (.invokevirtual 103, 3) := by decide +kernel
theorem dX0_deal_30 : decode cX0_deal 30 = .ok (.invokevirtual 125, 3) := by decide +kernel
theorem dX0_deal_33 : decode cX0_deal 33 = .ok (.aload_n 2, 1) := by decide +kernel
theorem dX0_deal_34 : decode cX0_deal 34 = .ok (.aload_n 0, 1) := by decide +kernel
theorem dX0_deal_35 : decode cX0_deal 35 = .ok (.getfield 14, 3) := by decide +kernel
theorem dX0_deal_38 : decode cX0_deal 38 = .ok (.iconst 0, 1) := by decide +kernel
theorem dX0_deal_39 : decode cX0_deal 39 = .ok (.iload_n 1, 1) := by decide +kernel
theorem dX0_deal_40 : decode cX0_deal 40 = .ok (.invokevirtual 135, 3) := by decide +kernel
theorem dX0_deal_43 : decode cX0_deal 43 = .ok (.aload_n 3, 1) := by decide +kernel
theorem dX0_deal_44 : decode cX0_deal 44 = .ok (.aload_n 0, 1) := by decide +kernel
theorem dX0_deal_45 : decode cX0_deal 45 = .ok (.getfield 14, 3) := by decide +kernel
theorem dX0_deal_48 : decode cX0_deal 48 = .ok (.invokevirtual 100, 3) := by decide +kernel
theorem dX0_deal_51 : decode cX0_deal 51 = .ok (.iload 4, 2) := by decide +kernel
theorem dX0_deal_53 : decode cX0_deal 53 = .ok (.ifCond .eq 14, 3) := by decide +kernel
theorem dX0_deal_56 : decode cX0_deal 56 = .ok (.aload_n 0, 1) := by decide +kernel
theorem dX0_deal_57 : decode cX0_deal 57 = .ok (.getfield 14, 3) := by decide +kernel
theorem dX0_deal_60 : decode cX0_deal 60 = .ok (.iload_n 1, 1) := by decide +kernel
theorem dX0_deal_61 : decode cX0_deal 61 = .ok (.invokevirtual 56, 3) := by decide +kernel
theorem dX0_deal_64 : decode cX0_deal 64 = .ok (.goto 7, 3) := by decide +kernel
theorem dX0_deal_67 : decode cX0_deal 67 = .ok (.aload_n 3, 1) := by decide +kernel
theorem dX0_deal_68 : decode cX0_deal 68 = .ok (.invokevirtual 103, 3) := by decide +kernel
theorem dX0_deal_71 : decode cX0_deal 71 = .ok (.invokevirtual 125, 3) := by decide +kernel
theorem dX0_deal_74 : decode cX0_deal 74 = .ok (.aload_n 3, 1) := by decide +kernel
theorem dX0_deal_75 : decode cX0_deal 75 = .ok (.aload_n 0, 1) := by decide +kernel
theorem dX0_deal_76 : decode cX0_deal 76 = .ok (.getfield 14, 3) := by decide +kernel
theorem dX0_deal_79 : decode cX0_deal 79 = .ok (.iload 4, 2) := by decide +kernel
theorem dX0_deal_81 : decode cX0_deal 81 = .ok (.ifCond .eq 9, 3) := by decide +kernel
theorem dX0_deal_84 : decode cX0_deal 84 = .ok (.iload_n 1, 1) := by decide +kernel
theorem dX0_deal_85 : decode cX0_deal 85 = .ok (.iconst 1, 1) := by decide +kernel
theorem dX0_deal_86 : decode cX0_deal 86 = .ok (.iadd, 1) := by decide +kernel
theorem dX0_deal_87 : decode cX0_deal 87 = .ok (.goto 4, 3) := by decide +kernel
theorem dX0_deal_90 : decode cX0_deal 90 = .ok (.iload_n 1, 1) := by decide +kernel
theorem dX0_deal_91 : decode cX0_deal 91 = .ok (.aload_n 0, 1) := by decide +kernel
theorem dX0_deal_92 : decode cX0_deal 92 = .ok (.getfield 14, 3) := by decide +kernel
theorem dX0_deal_95 : decode cX0_deal 95 = .ok (.invokevirtual 139, 3) := by decide +kernel
theorem dX0_deal_98 : decode cX0_deal 98 = .ok (.invokevirtual 135, 3) := by decide +kernel
theorem dX0_deal_101 : decode cX0_deal 101 = .ok (.return_, 1) := by decide +kernel
theorem dX0_takeKey_0 : decode cX0_takeKey 0 = .ok (.aload_n 0, 1) := by decide +kernel
theorem dX0_takeKey_1 : decode cX0_takeKey 1 = .ok (.getfield 30, 3) := by decide +kernel
theorem dX0_takeKey_4 : decode cX0_takeKey 4 = .ok (.aload_n 1, 1) := by decide +kernel
theorem dX0_takeKey_5 : decode cX0_takeKey 5 = .ok (.invokevirtual 34, 3) := by decide +kernel
theorem dX0_takeKey_8 : decode cX0_takeKey 8 = .ok (.aload_n 0, 1) := by decide +kernel
theorem dX0_takeKey_9 : decode cX0_takeKey 9 = .ok (.getfield 30, 3) := by decide +kernel
theorem dX0_takeKey_12 : decode cX0_takeKey 12 = .ok (.aload_n 0, 1) := by decide +kernel
theorem dX0_takeKey_13 : decode cX0_takeKey 13 = .ok (.getfield 30, 3) := by decide +kernel
theorem dX0_takeKey_16 : decode cX0_takeKey 16 = .ok (.getfield 40, 3) := by decide +kernel
theorem dX0_takeKey_19 : decode cX0_takeKey 19 = .ok (.iconst 1, 1) := by decide +kernel
theorem dX0_takeKey_20 : decode cX0_takeKey 20 = .ok (.isub, 1) := by decide +kernel
theorem dX0_takeKey_21 : decode cX0_takeKey 21 = .ok (.invokevirtual 44, 3) := by decide +kernel
theorem dX0_takeKey_24 : decode cX0_takeKey 24 = .ok (.astore_n 2, 1) := by decide +kernel
theorem dX0_takeKey_25 : decode cX0_takeKey 25 = .ok (.aload_n 2, 1) := by decide +kernel
theorem dX0_takeKey_26 : decode cX0_takeKey 26 = .ok (.aload_n 1, 1) := by decide +kernel
theorem dX0_takeKey_27 : decode cX0_takeKey 27 = .ok (.iconst 0, 1) := by decide +kernel
theorem dX0_takeKey_28 : decode cX0_takeKey 28 = .ok (.invokevirtual 48, 3) := by decide +kernel
theorem dX0_takeKey_31 : decode cX0_takeKey 31 = .ok (.istore_n 3, 1) := by decide +kernel
theorem dX0_takeKey_32 : decode cX0_takeKey 32 = .ok (.aload_n 2, 1) := by decide +kernel
theorem dX0_takeKey_33 : decode cX0_takeKey 33 = .ok (.iload_n 3, 1) := by decide +kernel
theorem dX0_takeKey_34 : decode cX0_takeKey 34 = .ok (.aload_n 1, 1) := by decide +kernel
theorem dX0_takeKey_35 : decode cX0_takeKey 35 = .ok (.invokevirtual 52, 3) := by decide +kernel
theorem dX0_takeKey_38 : decode cX0_takeKey 38 = .ok (.ifCond .ne 6, 3) := by decide +kernel
theorem dX0_takeKey_41 : decode cX0_takeKey 41 = .ok (.bipush (-9), 2) := by decide +kernel
theorem dX0_takeKey_43 : decode cX0_takeKey 43 = .ok (.ireturn, 1) := by decide +kernel
theorem dX0_takeKey_44 : decode cX0_takeKey 44 = .ok (.aload_n 2, 1) := by decide +kernel
theorem dX0_takeKey_45 : decode cX0_takeKey 45 = .ok (.iload_n 3, 1) := by decide +kernel
theorem dX0_takeKey_46 : decode cX0_takeKey 46 = .ok (.invokevirtual 56, 3) := by decide +kernel
theorem dX0_takeKey_49 : decode cX0_takeKey 49 = .ok (.istore 4, 2) := by decide +kernel
theorem dX0_takeKey_51 : decode cX0_takeKey 51 = .ok (.aload_n 2, 1) := by decide +kernel
theorem dX0_takeKey_52 : decode cX0_takeKey 52 = .ok (.iload_n 3, 1) := by decide +kernel
theorem dX0_takeKey_53 : decode cX0_takeKey 53 = .ok (.invokevirtual 142, 3) := by decide +kernel
theorem dX0_takeKey_56 : decode cX0_takeKey 56 = .ok (.aload_n 0, 1) := by decide +kernel
theorem dX0_takeKey_57 : decode cX0_takeKey 57 = .ok (.getfield 30, 3) := by decide +kernel
theorem dX0_takeKey_60 : decode cX0_takeKey 60 = .ok (.getfield 40, 3) := by decide +kernel
theorem dX0_takeKey_63 : decode cX0_takeKey 63 = .ok (.iconst 1, 1) := by decide +kernel
theorem dX0_takeKey_64 : decode cX0_takeKey 64 = .ok (.isub, 1) := by decide +kernel
theorem dX0_takeKey_65 : decode cX0_takeKey 65 = .ok (.istore 5, 2) := by decide +kernel
theorem dX0_takeKey_67 : decode cX0_takeKey 67 = .ok (.iload 5, 2) := by decide +kernel
theorem dX0_takeKey_69 : decode cX0_takeKey 69 = .ok (.ifCond .le 35, 3) := by decide +kernel
theorem dX0_takeKey_72 : decode cX0_takeKey 72 = .ok (.aload_n 0, 1) := by decide +kernel
theorem dX0_takeKey_73 : decode cX0_takeKey 73 = .ok (.getfield 30, 3) := by decide +kernel
theorem dX0_takeKey_76 : decode cX0_takeKey 76 = .ok (.iload 5, 2) := by decide +kernel
theorem dX0_takeKey_78 : decode cX0_takeKey 78 = .ok (.invokevirtual 44, 3) := by decide +kernel
theorem dX0_takeKey_81 : decode cX0_takeKey 81 = .ok (.invokevirtual 80, 3) := by decide +kernel
theorem dX0_takeKey_84 : decode cX0_takeKey 84 = .ok (.bipush 32, 2) := by decide +kernel
theorem dX0_takeKey_86 : decode cX0_takeKey 86 = .ok (.if_icmp .ge 18, 3) := by decide +kernel
theorem dX0_takeKey_89 : decode cX0_takeKey 89 = .ok (.aload_n 0, 1) := by decide +kernel
theorem dX0_takeKey_90 : decode cX0_takeKey 90 = .ok (.iload 5, 2) := by decide +kernel
theorem dX0_takeKey_92 : decode cX0_takeKey 92 = .ok (.invokevirtual 145, 3) := by decide +kernel
theorem dX0_takeKey_95 : decode cX0_takeKey 95 = .ok (.ifCond .eq 9, 3) := by decide +kernel
theorem dX0_takeKey_98 : decode cX0_takeKey 98 = .ok (.iinc 5 (-1), 3) := by decide +kernel
theorem dX0_takeKey_101 : decode cX0_takeKey 101 = .ok (.goto (-34), 3) := by decide +kernel
theorem dX0_takeKey_104 : decode cX0_takeKey 104 = .ok (.iload 5, 2) := by decide +kernel
theorem dX0_takeKey_106 : decode cX0_takeKey 106 = .ok (.ifCond .ne 7, 3) := by decide +kernel
theorem dX0_takeKey_109 : decode cX0_takeKey 109 = .ok (.aload_n 0, 1) := by decide +kernel
theorem dX0_takeKey_110 : decode cX0_takeKey 110 = .ok (.invokevirtual 149, 3) := by decide +kernel
theorem dX0_takeKey_113 : decode cX0_takeKey 113 = .ok (.iload 4, 2) := by decide +kernel
theorem dX0_takeKey_115 : decode cX0_takeKey 115 = .ok (.ireturn, 1) := by decide +kernel
theorem dX0_mend_0 : decode cX0_mend 0 = .ok (.aload_n 0, 1) := by decide +kernel
theorem dX0_mend_1 : decode cX0_mend 1 = .ok (.getfield 30, 3) := by decide +kernel
theorem dX0_mend_4 : decode cX0_mend 4 = .ok (.iload_n 1, 1) := by decide +kernel
theorem dX0_mend_5 : decode cX0_mend 5 = .ok (.iconst 1, 1) := by decide +kernel
theorem dX0_mend_6 : decode cX0_mend 6 = .ok (.isub, 1) := by decide +kernel
theorem dX0_mend_7 : decode cX0_mend 7 = .ok (.invokevirtual 44, 3) := by decide +kernel
theorem dX0_mend_10 : decode cX0_mend 10 = .ok (.astore_n 2, 1) := by decide +kernel
theorem dX0_mend_11 : decode cX0_mend 11 = .ok (.aload_n 0, 1) := by decide +kernel
theorem dX0_mend_12 : decode cX0_mend 12 = .ok (.getfield 30, 3) := by decide +kernel
theorem dX0_mend_15 : decode cX0_mend 15 = .ok (.iload_n 1, 1) := by decide +kernel
theorem dX0_mend_16 : decode cX0_mend 16 = .ok (.invokevirtual 88, 3) := by decide +kernel
theorem dX0_mend_19 : decode cX0_mend 19 = .ok (.istore_n 3, 1) := by decide +kernel
theorem dX0_mend_20 : decode cX0_mend 20 = .ok (.iload_n 3, 1) := by decide +kernel
theorem dX0_mend_21 : decode cX0_mend 21 = .ok (.aload_n 2, 1) := by decide +kernel
theorem dX0_mend_22 : decode cX0_mend 22 = .ok (.invokevirtual 139, 3) := by decide +kernel
theorem dX0_mend_25 : decode cX0_mend 25 = .ok (.if_icmp .ge 7, 3) := by decide +kernel
theorem dX0_mend_28 : decode cX0_mend 28 = .ok (.iload_n 3, 1) := by decide +kernel
theorem dX0_mend_29 : decode cX0_mend 29 = .ok (.goto 6, 3) := by decide +kernel
theorem dX0_mend_32 : decode cX0_mend 32 = .ok (.iload_n 3, 1) := by decide +kernel
theorem dX0_mend_33 : decode cX0_mend 33 = .ok (.iconst 1, 1) := by decide +kernel
theorem dX0_mend_34 : decode cX0_mend 34 = .ok (.isub, 1) := by decide +kernel
theorem dX0_mend_35 : decode cX0_mend 35 = .ok (.istore 4, 2) := by decide +kernel
theorem dX0_mend_37 : decode cX0_mend 37 = .ok (.iload 4, 2) := by decide +kernel
theorem dX0_mend_39 : decode cX0_mend 39 = .ok (.ifCond .ge 5, 3) := by decide +kernel
theorem dX0_mend_42 : decode cX0_mend 42 = .ok (.iconst 0, 1) := by decide +kernel
theorem dX0_mend_43 : decode cX0_mend 43 = .ok (.ireturn, 1) := by decide +kernel
theorem dX0_mend_44 : decode cX0_mend 44 = .ok (.aload_n 0, 1) := by decide +kernel
theorem dX0_mend_45 : decode cX0_mend 45 = .ok (.getfield 30, 3) := by decide +kernel
theorem dX0_mend_48 : decode cX0_mend 48 = .ok (.aload_n 2, 1) := by decide +kernel
theorem dX0_mend_49 : decode cX0_mend 49 = .ok (.iload 4, 2) := by decide +kernel
theorem dX0_mend_51 : decode cX0_mend 51 = .ok (.invokevirtual 152, 3) := by decide +kernel
theorem dX0_mend_54 : decode cX0_mend 54 = .ok (.invokevirtual 97, 3) := by decide +kernel
theorem dX0_mend_57 : decode cX0_mend 57 = .ok (.astore 5, 2) := by decide +kernel
theorem dX0_mend_59 : decode cX0_mend 59 = .ok (.aload_n 0, 1) := by decide +kernel
theorem dX0_mend_60 : decode cX0_mend 60 = .ok (.getfield 30, 3) := by decide +kernel
theorem dX0_mend_63 : decode cX0_mend 63 = .ok (.aload_n 2, 1) := by decide +kernel
theorem dX0_mend_64 : decode cX0_mend 64 = .ok (.iload 4, 2) := by decide +kernel
theorem dX0_mend_66 : decode cX0_mend 66 = .ok (.iconst 1, 1) := by decide +kernel
theorem dX0_mend_67 : decode cX0_mend 67 = .ok (.iadd, 1) := by decide +kernel
theorem dX0_mend_68 : decode cX0_mend 68 = .ok (.invokevirtual 152, 3) := by decide +kernel
theorem dX0_mend_71 : decode cX0_mend 71 = .ok (.invokevirtual 97, 3) := by decide +kernel
theorem dX0_mend_74 : decode cX0_mend 74 = .ok (.astore 6, 2) := by decide +kernel
theorem dX0_mend_76 : decode cX0_mend 76 = .ok (.aload_n 0, 1) := by decide +kernel
theorem dX0_mend_77 : decode cX0_mend 77 = .ok (.aload_n 2, 1) := by decide +kernel
theorem dX0_mend_78 : decode cX0_mend 78 = .ok (.iload 4, 2) := by decide +kernel
theorem dX0_mend_80 : decode cX0_mend 80 = .ok (.aload 5, 2) := by decide +kernel
theorem dX0_mend_82 : decode cX0_mend 82 = .ok (.aload 6, 2) := by decide +kernel
theorem dX0_mend_84 : decode cX0_mend 84 = .ok (.invokevirtual 155, 3) := by decide +kernel
theorem dX0_mend_87 : decode cX0_mend 87 = .ok (.aload_n 0, 1) := by decide +kernel
theorem dX0_mend_88 : decode cX0_mend 88 = .ok (.getfield 14, 3) := by decide +kernel
theorem dX0_mend_91 : decode cX0_mend 91 = .ok (.invokevirtual 80, 3) := by decide +kernel
theorem dX0_mend_94 : decode cX0_mend 94 = .ok (.bipush 64, 2) := by decide +kernel
theorem dX0_mend_96 : decode cX0_mend 96 = .ok (.if_icmp .gt 19, 3) := by decide +kernel
theorem dX0_mend_99 : decode cX0_mend 99 = .ok (.aload_n 0, 1) := by decide +kernel
theorem dX0_mend_100 : decode cX0_mend 100 = .ok (.aload 5, 2) := by decide +kernel
theorem dX0_mend_102 : decode cX0_mend 102 = .ok (.aload 6, 2) := by decide +kernel
theorem dX0_mend_104 : decode cX0_mend 104 = .ok (.invokevirtual 159, 3) := by decide +kernel
theorem dX0_mend_107 : decode cX0_mend 107 = .ok (.aload_n 2, 1) := by decide +kernel
theorem dX0_mend_108 : decode cX0_mend 108 = .ok (.iload 4, 2) := by decide +kernel
theorem dX0_mend_110 : decode cX0_mend 110 = .ok (.invokevirtual 142, 3) := by decide +kernel
theorem dX0_mend_113 : decode cX0_mend 113 = .ok (.iconst 1, 1) := by decide +kernel
theorem dX0_mend_114 : decode cX0_mend 114 = .ok (.ireturn, 1) := by decide +kernel
theorem dX0_mend_115 : decode cX0_mend 115 = .ok (.aload_n 0, 1) := by decide +kernel
theorem dX0_mend_116 : decode cX0_mend 116 = .ok (.aload_n 2, 1) := by decide +kernel
theorem dX0_mend_117 : decode cX0_mend 117 = .ok (.iload 4, 2) := by decide +kernel
theorem dX0_mend_119 : decode cX0_mend 119 = .ok (.aload 5, 2) := by decide +kernel
theorem dX0_mend_121 : decode cX0_mend 121 = .ok (.aload 6, 2) := by decide +kernel
theorem dX0_mend_123 : decode cX0_mend 123 = .ok (.invokevirtual 163, 3) := by decide +kernel
theorem dX0_mend_126 : decode cX0_mend 126 = .ok (.iconst 0, 1) := by decide +kernel
theorem dX0_mend_127 : decode cX0_mend 127 = .ok (.ireturn, 1) := by decide +kernel
theorem dX0_gather_0 : decode cX0_gather 0 = .ok (.aload_n 0, 1) := by decide +kernel
theorem dX0_gather_1 : decode cX0_gather 1 = .ok (.getfield 14, 3) := by decide +kernel
theorem dX0_gather_4 : decode cX0_gather 4 = .ok (.aload_n 3, 1) := by decide +kernel
theorem dX0_gather_5 : decode cX0_gather 5 = .ok (.invokevirtual 73, 3) := by decide +kernel
theorem dX0_gather_8 : decode cX0_gather 8 = .ok (.aload_n 0, 1) := by decide +kernel
theorem dX0_gather_9 : decode cX0_gather 9 = .ok (.getfield 14, 3) := by decide +kernel
theorem dX0_gather_12 : decode cX0_gather 12 = .ok (.invokevirtual 100, 3) := by decide +kernel
theorem dX0_gather_15 : decode cX0_gather 15 = .ok (.iconst 2, 1) := by decide +kernel
theorem dX0_gather_16 : decode cX0_gather 16 = .ok (.if_icmp .ne 35, 3) := by decide +kernel
theorem dX0_gather_19 : decode cX0_gather 19 = .ok (.aload_n 1, 1) := by decide +kernel
theorem dX0_gather_20 : decode cX0_gather 20 = .ok (.iload_n 2, 1) := by decide +kernel
theorem dX0_gather_21 : decode cX0_gather 21 = .ok (.aload_n 0, 1) := by decide +kernel
theorem dX0_gather_22 : decode cX0_gather 22 = .ok (.getfield 23, 3) := by decide +kernel
theorem dX0_gather_25 : decode cX0_gather 25 = .ok (.invokevirtual 128, 3) := by decide +kernel
theorem dX0_gather_28 : decode cX0_gather 28 = .ok (.aload_n 0, 1) := by decide +kernel
theorem dX0_gather_29 : decode cX0_gather 29 = .ok (.getfield 14, 3) := by decide +kernel
theorem dX0_gather_32 : decode cX0_gather 32 = .ok (.aload_n 0, 1) := by decide +kernel
theorem dX0_gather_33 : decode cX0_gather 33 = .ok (.getfield 14, 3) := by decide +kernel
theorem dX0_gather_36 : decode cX0_gather 36 = .ok (.invokevirtual 139, 3) := by decide +kernel
theorem dX0_gather_39 : decode cX0_gather 39 = .ok (.aload_n 0, 1) := by decide +kernel
theorem dX0_gather_40 : decode cX0_gather 40 = .ok (.getfield 23, 3) := by decide +kernel
theorem dX0_gather_43 : decode cX0_gather 43 = .ok (.aload 4, 2) := by decide +kernel
theorem dX0_gather_45 : decode cX0_gather 45 = .ok (.invokevirtual 103, 3) := by decide +kernel
theorem dX0_gather_48 : decode cX0_gather 48 = .ok (.invokevirtual 76, 3) := by decide +kernel
theorem dX0_gather_51 : decode cX0_gather 51 = .ok (.aload_n 0, 1) := by decide +kernel
theorem dX0_gather_52 : decode cX0_gather 52 = .ok (.getfield 14, 3) := by decide +kernel
theorem dX0_gather_55 : decode cX0_gather 55 = .ok (.aload 4, 2) := by decide +kernel
theorem dX0_gather_57 : decode cX0_gather 57 = .ok (.iconst 0, 1) := by decide +kernel
theorem dX0_gather_58 : decode cX0_gather 58 = .ok (.aload 4, 2) := by decide +kernel
theorem dX0_gather_60 : decode cX0_gather 60 = .ok (.invokevirtual 139, 3) := by decide +kernel
theorem dX0_gather_63 : decode cX0_gather 63 = .ok (.invokevirtual 135, 3) := by decide +kernel
theorem dX0_gather_66 : decode cX0_gather 66 = .ok (.return_, 1) := by decide +kernel
theorem dX0_join_0 : decode cX0_join 0 = .ok (.aload_n 1, 1) := by decide +kernel
theorem dX0_join_1 : decode cX0_join 1 = .ok (.aload_n 0, 1) := by decide +kernel
theorem dX0_join_2 : decode cX0_join 2 = .ok (.getfield 14, 3) := by decide +kernel
theorem dX0_join_5 : decode cX0_join 5 = .ok (.invokevirtual 73, 3) := by decide +kernel
theorem dX0_join_8 : decode cX0_join 8 = .ok (.aload_n 0, 1) := by decide +kernel
theorem dX0_join_9 : decode cX0_join 9 = .ok (.getfield 14, 3) := by decide +kernel
theorem dX0_join_12 : decode cX0_join 12 = .ok (.invokevirtual 100, 3) := by decide +kernel
theorem dX0_join_15 : decode cX0_join 15 = .ok (.iconst 1, 1) := by decide +kernel
theorem dX0_join_16 : decode cX0_join 16 = .ok (.if_icmp .ne 11, 3) := by decide +kernel
theorem dX0_join_19 : decode cX0_join 19 = .ok (.aload_n 1, 1) := by decide +kernel
theorem dX0_join_20 : decode cX0_join 20 = .ok (.aload_n 2, 1) := by decide +kernel
theorem dX0_join_21 : decode cX0_join 21 = .ok (.invokevirtual 103, 3) := by decide +kernel
theorem dX0_join_24 : decode cX0_join 24 = .ok (.invokevirtual 106, 3) := by decide +kernel
theorem dX0_join_27 : decode cX0_join 27 = .ok (.aload_n 2, 1) := by decide +kernel
theorem dX0_join_28 : decode cX0_join 28 = .ok (.invokevirtual 166, 3) := by decide +kernel
theorem dX0_join_31 : decode cX0_join 31 = .ok (.aload_n 0, 1) := by decide +kernel
theorem dX0_join_32 : decode cX0_join 32 = .ok (.dup, 1) := by decide +kernel
theorem dX0_join_33 : decode cX0_join 33 = .ok (.getfield 169, 3) := by decide +kernel
theorem dX0_join_36 : decode cX0_join 36 = .ok (.iconst 1, 1) := by decide +kernel
theorem dX0_join_37 : decode cX0_join 37 = .ok (.iadd, 1) := by decide +kernel
theorem dX0_join_38 : decode cX0_join 38 = .ok (.putfield 169, 3) := by decide +kernel
theorem dX0_join_41 : decode cX0_join 41 = .ok (.return_, 1) := by decide +kernel
theorem dX0_shareAnew_0 : decode cX0_shareAnew 0 = .ok (.aload_n 0, 1) := by decide +kernel
theorem dX0_shareAnew_1 : decode cX0_shareAnew 1 = .ok (.getfield 14, 3) := by decide +kernel
theorem dX0_shareAnew_4 : decode cX0_shareAnew 4 = .ok (.invokevirtual 109, 3) := by decide +kernel
theorem dX0_shareAnew_7 : decode cX0_shareAnew 7 = .ok (.istore 5, 2) := by decide +kernel
theorem dX0_shareAnew_9 : decode cX0_shareAnew 9 = .ok (.aload_n 0, 1) := by decide +kernel
theorem dX0_shareAnew_10 : decode cX0_shareAnew 10 = .ok (.iload 5, 2) := by decide +kernel
theorem dX0_shareAnew_12 : decode cX0_shareAnew 12 = .ok (.invokevirtual 112, 3) := by decide +kernel
theorem dX0_shareAnew_15 : decode cX0_shareAnew 15 = .ok (.aload_n 1, 1) := by decide +kernel
theorem dX0_shareAnew_16 : decode cX0_shareAnew 16 = .ok (.invokevirtual 80, 3) := by decide +kernel
theorem dX0_shareAnew_19 : decode cX0_shareAnew 19 = .ok (.aload_n 1, 1) := by decide +kernel
theorem dX0_shareAnew_20 : decode cX0_shareAnew 20 = .ok (.iload_n 2, 1) := by decide +kernel
theorem dX0_shareAnew_21 : decode cX0_shareAnew 21 = .ok (.invokevirtual 172, 3) := by decide +kernel
theorem dX0_shareAnew_24 : decode cX0_shareAnew 24 = .ok (.isub, 1) := by decide +kernel
theorem dX0_shareAnew_25 : decode cX0_shareAnew 25 = .ok (.aload_n 0, 1) := by decide +kernel
theorem dX0_shareAnew_26 : decode cX0_shareAnew 26 = .ok (.getfield 23, 3) := by decide +kernel
theorem dX0_shareAnew_29 : decode cX0_shareAnew 29 = .ok (.getfield 175, 3) := by decide +kernel
theorem dX0_shareAnew_32 : decode cX0_shareAnew 32 = .ok (.iadd, 1) := by decide +kernel
theorem dX0_shareAnew_33 : decode cX0_shareAnew 33 = .ok (.bipush 64, 2) := by decide +kernel
theorem dX0_shareAnew_35 : decode cX0_shareAnew 35 = .ok (.if_icmp .le 4, 3) := by decide +kernel
theorem dX0_shareAnew_38 : decode cX0_shareAnew 38 = .ok (.return_, 1) := by decide +kernel
theorem dX0_shareAnew_39 : decode cX0_shareAnew 39 = .ok (.aload_n 1, 1) := by decide +kernel
theorem dX0_shareAnew_40 : decode cX0_shareAnew 40 = .ok (.iload_n 2, 1) := by decide +kernel
theorem dX0_shareAnew_41 : decode cX0_shareAnew 41 = .ok (.iconst 1, 1) := by decide +kernel
theorem dX0_shareAnew_42 : decode cX0_shareAnew 42 = .ok (.iadd, 1) := by decide +kernel
theorem dX0_shareAnew_43 : decode cX0_shareAnew 43 = .ok (.invokevirtual 152, 3) := by decide +kernel
theorem dX0_shareAnew_46 : decode cX0_shareAnew 46 = .ok (.istore 6, 2) := by decide +kernel
theorem dX0_shareAnew_48 : decode cX0_shareAnew 48 = .ok (.aload_n 1, 1) := by decide +kernel
theorem dX0_shareAnew_49 : decode cX0_shareAnew 49 = .ok (.iload_n 2, 1) := by decide +kernel
theorem dX0_shareAnew_50 : decode cX0_shareAnew 50 = .ok (.invokevirtual 142, 3) := by decide +kernel
theorem dX0_shareAnew_53 : decode cX0_shareAnew 53 = .ok (.aload_n 1, 1) := by decide +kernel
theorem dX0_shareAnew_54 : decode cX0_shareAnew 54 = .ok (.iload_n 2, 1) := by decide +kernel
theorem dX0_shareAnew_55 : decode cX0_shareAnew 55 = .ok (.aload_n 0, 1) := by decide +kernel
theorem dX0_shareAnew_56 : decode cX0_shareAnew 56 = .ok (.getfield 23, 3) := by decide +kernel
theorem dX0_shareAnew_59 : decode cX0_shareAnew 59 = .ok (.iload 6, 2) := by decide +kernel
theorem dX0_shareAnew_61 : decode cX0_shareAnew 61 = .ok (.invokevirtual 76, 3) := by decide +kernel
theorem dX0_shareAnew_64 : decode cX0_shareAnew 64 = .ok (.aload_n 0, 1) := by decide +kernel
theorem dX0_shareAnew_65 : decode cX0_shareAnew 65 = .ok (.iload 5, 2) := by decide +kernel
theorem dX0_shareAnew_67 : decode cX0_shareAnew 67 = .ok (.aload_n 3, 1) := by decide +kernel
theorem dX0_shareAnew_68 : decode cX0_shareAnew 68 = .ok (.aload 4, 2) := by decide +kernel
theorem dX0_shareAnew_70 : decode cX0_shareAnew 70 = .ok (.invokevirtual 115, 3) := by decide +kernel
theorem dX0_shareAnew_73 : decode cX0_shareAnew 73 = .ok (.aload_n 0, 1) := by decide +kernel
theorem dX0_shareAnew_74 : decode cX0_shareAnew 74 = .ok (.dup, 1) := by decide +kernel
theorem dX0_shareAnew_75 : decode cX0_shareAnew 75 = .ok (.getfield 178, 3) := by decide +kernel
theorem dX0_shareAnew_78 : decode cX0_shareAnew 78 = .ok (.iconst 1, 1) := by decide +kernel
theorem dX0_shareAnew_79 : decode cX0_shareAnew 79 = .ok (.iadd, 1) := by decide +kernel
theorem dX0_shareAnew_80 : decode cX0_shareAnew 80 = .ok (.putfield 178, 3) := by decide +kernel
theorem dX0_shareAnew_83 : decode cX0_shareAnew 83 = .ok (.return_, 1) := by decide +kernel
theorem dX0_lowerRoot_0 : decode cX0_lowerRoot 0 = .ok (.aload_n 0, 1) := by decide +kernel
theorem dX0_lowerRoot_1 : decode cX0_lowerRoot 1 = .ok (.getfield 30, 3) := by decide +kernel
theorem dX0_lowerRoot_4 : decode cX0_lowerRoot 4 = .ok (.aload_n 0, 1) := by decide +kernel
theorem dX0_lowerRoot_5 : decode cX0_lowerRoot 5 = .ok (.getfield 30, 3) := by decide +kernel
theorem dX0_lowerRoot_8 : decode cX0_lowerRoot 8 = .ok (.getfield 122, 3) := by decide +kernel
theorem dX0_lowerRoot_11 : decode cX0_lowerRoot 11 = .ok (.invokevirtual 97, 3) := by decide +kernel
theorem dX0_lowerRoot_14 : decode cX0_lowerRoot 14 = .ok (.astore_n 1, 1) := by decide +kernel
theorem dX0_lowerRoot_15 : decode cX0_lowerRoot 15 = .ok (.aload_n 1, 1) := by decide +kernel
theorem dX0_lowerRoot_16 : decode cX0_lowerRoot 16 = .ok (.invokevirtual 100, 3) := by decide +kernel
theorem dX0_lowerRoot_19 : decode cX0_lowerRoot 19 = .ok (.iconst 2, 1) := by decide +kernel
theorem dX0_lowerRoot_20 : decode cX0_lowerRoot 20 = .ok (.if_icmp .ne 38, 3) := by decide +kernel
theorem dX0_lowerRoot_23 : decode cX0_lowerRoot 23 = .ok (.aload_n 1, 1) := by decide +kernel
theorem dX0_lowerRoot_24 : decode cX0_lowerRoot 24 = .ok (.invokevirtual 139, 3) := by decide +kernel
theorem dX0_lowerRoot_27 : decode cX0_lowerRoot 27 = .ok (.ifCond .ne 31, 3) := by decide +kernel
theorem dX0_lowerRoot_30 : decode cX0_lowerRoot 30 = .ok (.aload_n 0, 1) := by decide +kernel
theorem dX0_lowerRoot_31 : decode cX0_lowerRoot 31 = .ok (.getfield 30, 3) := by decide +kernel
theorem dX0_lowerRoot_34 : decode cX0_lowerRoot 34 = .ok (.aload_n 1, 1) := by decide +kernel
theorem dX0_lowerRoot_35 : decode cX0_lowerRoot 35 = .ok (.invokevirtual 103, 3) := by decide +kernel
theorem dX0_lowerRoot_38 : decode cX0_lowerRoot 38 = .ok (.putfield 122, 3) := by decide +kernel
theorem dX0_lowerRoot_41 : decode cX0_lowerRoot 41 = .ok (.aload_n 0, 1) := by decide +kernel
theorem dX0_lowerRoot_42 : decode cX0_lowerRoot 42 = .ok (.getfield 30, 3) := by decide +kernel
theorem dX0_lowerRoot_45 : decode cX0_lowerRoot 45 = .ok (.dup, 1) := by decide +kernel
theorem dX0_lowerRoot_46 : decode cX0_lowerRoot 46 = .ok (.getfield 40, 3) := by decide +kernel
theorem dX0_lowerRoot_49 : decode cX0_lowerRoot 49 = .ok (.iconst 1, 1) := by decide +kernel
theorem dX0_lowerRoot_50 : decode cX0_lowerRoot 50 = .ok (.isub, 1) := by decide +kernel
theorem dX0_lowerRoot_51 : decode cX0_lowerRoot 51 = .ok (.putfield 40, 3) := by decide +kernel
theorem dX0_lowerRoot_54 : decode cX0_lowerRoot 54 = .ok (.aload_n 1, 1) := by decide +kernel
theorem dX0_lowerRoot_55 : decode cX0_lowerRoot 55 = .ok (.invokevirtual 166, 3) := by decide +kernel
theorem dX0_lowerRoot_58 : decode cX0_lowerRoot 58 = .ok (.return_, 1) := by decide +kernel
theorem dX0_loadRow_0 : decode cX0_loadRow 0 = .ok (.iconst 0, 1) := by decide +kernel
theorem dX0_loadRow_1 : decode cX0_loadRow 1 = .ok (.istore 4, 2) := by decide +kernel
theorem dX0_loadRow_3 : decode cX0_loadRow 3 = .ok (.iload 4, 2) := by decide +kernel
theorem dX0_loadRow_5 : decode cX0_loadRow 5 = .ok (.bipush 32, 2) := by decide +kernel
theorem dX0_loadRow_7 : decode cX0_loadRow 7 = .ok (.if_icmp .ge 21, 3) := by decide +kernel
theorem dX0_loadRow_10 : decode cX0_loadRow 10 = .ok (.aload_n 0, 1) := by decide +kernel
theorem dX0_loadRow_11 : decode cX0_loadRow 11 = .ok (.getfield 30, 3) := by decide +kernel
theorem dX0_loadRow_14 : decode cX0_loadRow 14 = .ok (.iload 4, 2) := by decide +kernel
theorem dX0_loadRow_16 : decode cX0_loadRow 16 = .ok (.invokevirtual 97, 3) := by decide +kernel
theorem dX0_loadRow_19 : decode cX0_loadRow 19 = .ok (.invokevirtual 166, 3) := by decide +kernel
theorem dX0_loadRow_22 : decode cX0_loadRow 22 = .ok (.iinc 4 1, 3) := by decide +kernel
theorem dX0_loadRow_25 : decode cX0_loadRow 25 = .ok (.goto (-22), 3) := by decide +kernel
theorem dX0_loadRow_28 : decode cX0_loadRow 28 = .ok (.aload_n 0, 1) := by decide +kernel
theorem dX0_loadRow_29 : decode cX0_loadRow 29 = .ok (.getfield 30, 3) := by decide +kernel
theorem dX0_loadRow_32 : decode cX0_loadRow 32 = .ok (.iconst 0, 1) := by decide +kernel
theorem dX0_loadRow_33 : decode cX0_loadRow 33 = .ok (.putfield 122, 3) := by decide +kernel
theorem dX0_loadRow_36 : decode cX0_loadRow 36 = .ok (.aload_n 0, 1) := by decide +kernel
theorem dX0_loadRow_37 : decode cX0_loadRow 37 = .ok (.getfield 30, 3) := by decide +kernel
theorem dX0_loadRow_40 : decode cX0_loadRow 40 = .ok (.iconst 1, 1) := by decide +kernel
theorem dX0_loadRow_41 : decode cX0_loadRow 41 = .ok (.putfield 40, 3) := by decide +kernel
theorem dX0_loadRow_44 : decode cX0_loadRow 44 = .ok (.aload_n 0, 1) := by decide +kernel
theorem dX0_loadRow_45 : decode cX0_loadRow 45 = .ok (.iload_n 1, 1) := by decide +kernel
theorem dX0_loadRow_46 : decode cX0_loadRow 46 = .ok (.iload_n 2, 1) := by decide +kernel
theorem dX0_loadRow_47 : decode cX0_loadRow 47 = .ok (.iload_n 3, 1) := by decide +kernel
theorem dX0_loadRow_48 : decode cX0_loadRow 48 = .ok (.invokevirtual 181, 3) := by decide +kernel
theorem dX0_loadRow_51 : decode cX0_loadRow 51 = .ok (.istore 4, 2) := by decide +kernel
theorem dX0_loadRow_53 : decode cX0_loadRow 53 = .ok (.iload 4, 2) := by decide +kernel
theorem dX0_loadRow_55 : decode cX0_loadRow 55 = .ok (.ifCond .le 15, 3) := by decide +kernel
theorem dX0_loadRow_58 : decode cX0_loadRow 58 = .ok (.aload_n 0, 1) := by decide +kernel
theorem dX0_loadRow_59 : decode cX0_loadRow 59 = .ok (.iload 4, 2) := by decide +kernel
theorem dX0_loadRow_61 : decode cX0_loadRow 61 = .ok (.invokevirtual 185, 3) := by decide +kernel
theorem dX0_loadRow_64 : decode cX0_loadRow 64 = .ok (.aload_n 0, 1) := by decide +kernel
theorem dX0_loadRow_65 : decode cX0_loadRow 65 = .ok (.iload 4, 2) := by decide +kernel
theorem dX0_loadRow_67 : decode cX0_loadRow 67 = .ok (.invokevirtual 188, 3) := by decide +kernel
theorem dX0_loadRow_70 : decode cX0_loadRow 70 = .ok (.return_, 1) := by decide +kernel
theorem dX0_fillLeaves_0 : decode cX0_fillLeaves 0 = .ok (.iconst 0, 1) := by decide +kernel
theorem dX0_fillLeaves_1 : decode cX0_fillLeaves 1 = .ok (.istore 4, 2) := by decide +kernel
theorem dX0_fillLeaves_3 : decode cX0_fillLeaves 3 = .ok (.aload_n 0, 1) := by decide +kernel
theorem dX0_fillLeaves_4 : decode cX0_fillLeaves 4 = .ok (.getfield 30, 3) := by decide +kernel
theorem dX0_fillLeaves_7 : decode cX0_fillLeaves 7 = .ok (.iconst 0, 1) := by decide +kernel
theorem dX0_fillLeaves_8 : decode cX0_fillLeaves 8 = .ok (.invokevirtual 97, 3) := by decide +kernel
theorem dX0_fillLeaves_11 : decode cX0_fillLeaves 11 = .ok (.iconst 1, 1) := by decide +kernel
theorem dX0_fillLeaves_12 : decode cX0_fillLeaves 12 = .ok (.iconst 0, 1) := by decide +kernel
theorem dX0_fillLeaves_13 : decode cX0_fillLeaves 13 = .ok (.invokevirtual 125, 3) := by decide +kernel
theorem dX0_fillLeaves_16 : decode cX0_fillLeaves 16 = .ok (.iconst 0, 1) := by decide +kernel
theorem dX0_fillLeaves_17 : decode cX0_fillLeaves 17 = .ok (.istore 5, 2) := by decide +kernel
theorem dX0_fillLeaves_19 : decode cX0_fillLeaves 19 = .ok (.iload 5, 2) := by decide +kernel
theorem dX0_fillLeaves_21 : decode cX0_fillLeaves 21 = .ok (.iload_n 3, 1) := by decide +kernel
theorem dX0_fillLeaves_22 : decode cX0_fillLeaves 22 = .ok (.if_icmp .ge 110, 3) := by decide +kernel
theorem dX0_fillLeaves_25 : decode cX0_fillLeaves 25 = .ok (.aload_n 0, 1) := by decide +kernel
theorem dX0_fillLeaves_26 : decode cX0_fillLeaves 26 = .ok (.getfield 23, 3) := by decide +kernel
theorem dX0_fillLeaves_29 : decode cX0_fillLeaves 29 = .ok (.iload_n 1, 1) := by decide +kernel
theorem dX0_fillLeaves_30 : decode cX0_fillLeaves 30 = .ok (.iload_n 2, 1) := by decide +kernel
theorem dX0_fillLeaves_31 : decode cX0_fillLeaves 31 = .ok (.iload 5, 2) := by decide +kernel
theorem dX0_fillLeaves_33 : decode cX0_fillLeaves 33 = .ok (.imul, 1) := by decide +kernel
theorem dX0_fillLeaves_34 : decode cX0_fillLeaves 34 = .ok (.iadd, 1) := by decide +kernel
theorem dX0_fillLeaves_35 : decode cX0_fillLeaves 35 = .ok (.iconst 3, 1) := by decide +kernel
theorem dX0_fillLeaves_36 : decode cX0_fillLeaves 36 = .ok (.invokevirtual 191, 3) := by decide +kernel
theorem dX0_fillLeaves_39 : decode cX0_fillLeaves 39 = .ok (.aload_n 0, 1) := by decide +kernel
theorem dX0_fillLeaves_40 : decode cX0_fillLeaves 40 = .ok (.getfield 30, 3) := by decide +kernel
theorem dX0_fillLeaves_43 : decode cX0_fillLeaves 43 = .ok (.iload 4, 2) := by decide +kernel
theorem dX0_fillLeaves_45 : decode cX0_fillLeaves 45 = .ok (.invokevirtual 97, 3) := by decide +kernel
theorem dX0_fillLeaves_48 : decode cX0_fillLeaves 48 = .ok (.invokevirtual 80, 3) := by decide +kernel
theorem dX0_fillLeaves_51 : decode cX0_fillLeaves 51 = .ok (.aload_n 0, 1) := by decide +kernel
theorem dX0_fillLeaves_52 : decode cX0_fillLeaves 52 = .ok (.getfield 23, 3) := by decide +kernel
theorem dX0_fillLeaves_55 : decode cX0_fillLeaves 55 = .ok (.getfield 175, 3) := by decide +kernel
theorem dX0_fillLeaves_58 : decode cX0_fillLeaves 58 = .ok (.iadd, 1) := by decide +kernel
theorem dX0_fillLeaves_59 : decode cX0_fillLeaves 59 = .ok (.iconst 2, 1) := by decide +kernel
theorem dX0_fillLeaves_60 : decode cX0_fillLeaves 60 = .ok (.iadd, 1) := by decide +kernel
theorem dX0_fillLeaves_61 : decode cX0_fillLeaves 61 = .ok (.bipush 64, 2) := by decide +kernel
theorem dX0_fillLeaves_63 : decode cX0_fillLeaves 63 = .ok (.if_icmp .le 36, 3) := by decide +kernel
theorem dX0_fillLeaves_66 : decode cX0_fillLeaves 66 = .ok (.aload_n 0, 1) := by decide +kernel
theorem dX0_fillLeaves_67 : decode cX0_fillLeaves 67 = .ok (.getfield 30, 3) := by decide +kernel
theorem dX0_fillLeaves_70 : decode cX0_fillLeaves 70 = .ok (.iload 4, 2) := by decide +kernel
theorem dX0_fillLeaves_72 : decode cX0_fillLeaves 72 = .ok (.invokevirtual 97, 3) := by decide +kernel
theorem dX0_fillLeaves_75 : decode cX0_fillLeaves 75 = .ok (.iload 4, 2) := by decide +kernel
theorem dX0_fillLeaves_77 : decode cX0_fillLeaves 77 = .ok (.iconst 2, 1) := by decide +kernel
theorem dX0_fillLeaves_78 : decode cX0_fillLeaves 78 = .ok (.iadd, 1) := by decide +kernel
theorem dX0_fillLeaves_79 : decode cX0_fillLeaves 79 = .ok (.invokevirtual 106, 3) := by decide +kernel
theorem dX0_fillLeaves_82 : decode cX0_fillLeaves 82 = .ok (.iinc 4 1, 3) := by decide +kernel
theorem dX0_fillLeaves_85 : decode cX0_fillLeaves 85 = .ok (.aload_n 0, 1) := by decide +kernel
theorem dX0_fillLeaves_86 : decode cX0_fillLeaves 86 = .ok (.getfield 30, 3) := by decide +kernel
theorem dX0_fillLeaves_89 : decode cX0_fillLeaves 89 = .ok (.iload 4, 2) := by decide +kernel
theorem dX0_fillLeaves_91 : decode cX0_fillLeaves 91 = .ok (.invokevirtual 97, 3) := by decide +kernel
theorem dX0_fillLeaves_94 : decode cX0_fillLeaves 94 = .ok (.iconst 1, 1) := by decide +kernel
theorem dX0_fillLeaves_95 : decode cX0_fillLeaves 95 = .ok (.iconst 0, 1) := by decide +kernel
theorem dX0_fillLeaves_96 : decode cX0_fillLeaves 96 = .ok (.invokevirtual 125, 3) := by decide +kernel
theorem dX0_fillLeaves_99 : decode cX0_fillLeaves 99 = .ok (.aload_n 0, 1) := by decide +kernel
theorem dX0_fillLeaves_100 : decode cX0_fillLeaves 100 = .ok (.getfield 30, 3) := by decide +kernel
theorem dX0_fillLeaves_103 : decode cX0_fillLeaves 103 = .ok (.iload 4, 2) := by decide +kernel
theorem dX0_fillLeaves_105 : decode cX0_fillLeaves 105 = .ok (.invokevirtual 97, 3) := by decide +kernel
theorem dX0_fillLeaves_108 : decode cX0_fillLeaves 108 = .ok (.astore 6, 2) := by decide +kernel
theorem dX0_fillLeaves_110 : decode cX0_fillLeaves 110 = .ok (.aload 6, 2) := by decide +kernel
theorem dX0_fillLeaves_112 : decode cX0_fillLeaves 112 = .ok (.aload 6, 2) := by decide +kernel
theorem dX0_fillLeaves_114 : decode cX0_fillLeaves 114 = .ok (.invokevirtual 139, 3) := by decide +kernel
theorem dX0_fillLeaves_117 : decode cX0_fillLeaves 117 = .ok (.aload_n 0, 1) := by decide +kernel
theorem dX0_fillLeaves_118 : decode cX0_fillLeaves 118 = .ok (.getfield 23, 3) := by decide +kernel
theorem dX0_fillLeaves_121 : decode cX0_fillLeaves 121 = .ok (.iload 5, 2) := by decide +kernel
theorem dX0_fillLeaves_123 : decode cX0_fillLeaves 123 = .ok (.invokevirtual 76, 3) := by decide +kernel
theorem dX0_fillLeaves_126 : decode cX0_fillLeaves 126 = .ok (.iinc 5 1, 3) := by decide +kernel
theorem dX0_fillLeaves_129 : decode cX0_fillLeaves 129 = .ok (.goto (-110), 3) := by decide +kernel
theorem dX0_fillLeaves_132 : decode cX0_fillLeaves 132 = .ok (.iload 4, 2) := by decide +kernel
theorem dX0_fillLeaves_134 : decode cX0_fillLeaves 134 = .ok (.ireturn, 1) := by decide +kernel
theorem dX0_shareWithLast_0 : decode cX0_shareWithLast 0 = .ok (.aload_n 0, 1) := by decide +kernel
theorem dX0_shareWithLast_1 : decode cX0_shareWithLast 1 = .ok (.getfield 30, 3) := by decide +kernel
theorem dX0_shareWithLast_4 : decode cX0_shareWithLast 4 = .ok (.iload_n 1, 1) := by decide +kernel
theorem dX0_shareWithLast_5 : decode cX0_shareWithLast 5 = .ok (.iconst 1, 1) := by decide +kernel
theorem dX0_shareWithLast_6 : decode cX0_shareWithLast 6 = .ok (.isub, 1) := by decide +kernel
theorem dX0_shareWithLast_7 : decode cX0_shareWithLast 7 = .ok (.invokevirtual 97, 3) := by decide +kernel
theorem dX0_shareWithLast_10 : decode cX0_shareWithLast 10 = .ok (.astore_n 2, 1) := by decide +kernel
theorem dX0_shareWithLast_11 : decode cX0_shareWithLast 11 = .ok (.aload_n 0, 1) := by decide +kernel
theorem dX0_shareWithLast_12 : decode cX0_shareWithLast 12 = .ok (.getfield 30, 3) := by decide +kernel
theorem dX0_shareWithLast_15 : decode cX0_shareWithLast 15 = .ok (.iload_n 1, 1) := by decide +kernel
theorem dX0_shareWithLast_16 : decode cX0_shareWithLast 16 = .ok (.invokevirtual 97, 3) := by decide +kernel
theorem dX0_shareWithLast_19 : decode cX0_shareWithLast 19 = .ok (.astore_n 3, 1) := by decide +kernel
theorem dX0_shareWithLast_20 : decode cX0_shareWithLast 20 = .ok (.aload_n 3, 1) := by decide +kernel
theorem dX0_shareWithLast_21 : decode cX0_shareWithLast 21 = .ok (.invokevirtual 80, 3) := by decide +kernel
theorem dX0_shareWithLast_24 : decode cX0_shareWithLast 24 = .ok (.bipush 32, 2) := by decide +kernel
theorem dX0_shareWithLast_26 : decode cX0_shareWithLast 26 = .ok (.if_icmp .ge 37, 3) := by decide +kernel
theorem dX0_shareWithLast_29 : decode cX0_shareWithLast 29 = .ok (.aload_n 0, 1) := by decide +kernel
theorem dX0_shareWithLast_30 : decode cX0_shareWithLast 30 = .ok (.getfield 14, 3) := by decide +kernel
theorem dX0_shareWithLast_33 : decode cX0_shareWithLast 33 = .ok (.aload_n 2, 1) := by decide +kernel
theorem dX0_shareWithLast_34 : decode cX0_shareWithLast 34 = .ok (.invokevirtual 73, 3) := by decide +kernel
theorem dX0_shareWithLast_37 : decode cX0_shareWithLast 37 = .ok (.aload_n 0, 1) := by decide +kernel
theorem dX0_shareWithLast_38 : decode cX0_shareWithLast 38 = .ok (.getfield 14, 3) := by decide +kernel
theorem dX0_shareWithLast_41 : decode cX0_shareWithLast 41 = .ok (.aload_n 3, 1) := by decide +kernel
theorem dX0_shareWithLast_42 : decode cX0_shareWithLast 42 = .ok (.iconst 0, 1) := by decide +kernel
theorem dX0_shareWithLast_43 : decode cX0_shareWithLast 43 = .ok (.aload_n 3, 1) := by decide +kernel
theorem dX0_shareWithLast_44 : decode cX0_shareWithLast 44 = .ok (.invokevirtual 139, 3) := by decide +kernel
theorem dX0_shareWithLast_47 : decode cX0_shareWithLast 47 = .ok (.invokevirtual 135, 3) := by decide +kernel
theorem dX0_shareWithLast_50 : decode cX0_shareWithLast 50 = .ok (.aload_n 0, 1) := by decide +kernel
theorem dX0_shareWithLast_51 : decode cX0_shareWithLast 51 = .ok (.aload_n 0, 1) := by decide +kernel
theorem dX0_shareWithLast_52 : decode cX0_shareWithLast 52 = .ok (.getfield 14, 3) := by decide +kernel
theorem dX0_shareWithLast_55 : decode cX0_shareWithLast 55 = .ok (.invokevirtual 109, 3) := by decide +kernel
theorem dX0_shareWithLast_58 : decode cX0_shareWithLast 58 = .ok (.aload_n 2, 1) := by decide +kernel
theorem dX0_shareWithLast_59 : decode cX0_shareWithLast 59 = .ok (.aload_n 3, 1) := by decide +kernel
theorem dX0_shareWithLast_60 : decode cX0_shareWithLast 60 = .ok (.invokevirtual 115, 3) := by decide +kernel
theorem dX0_shareWithLast_63 : decode cX0_shareWithLast 63 = .ok (.return_, 1) := by decide +kernel
theorem dX0_coverLeaves_0 : decode cX0_coverLeaves 0 = .ok (.aload_n 0, 1) := by decide +kernel
theorem dX0_coverLeaves_1 : decode cX0_coverLeaves 1 = .ok (.getfield 30, 3) := by decide +kernel
theorem dX0_coverLeaves_4 : decode cX0_coverLeaves 4 = .ok (.aload_n 0, 1) := by decide +kernel
theorem dX0_coverLeaves_5 : decode cX0_coverLeaves 5 = .ok (.getfield 30, 3) := by decide +kernel
theorem dX0_coverLeaves_8 : decode cX0_coverLeaves 8 = .ok (.invokevirtual 94, 3) := by decide +kernel
theorem dX0_coverLeaves_11 : decode cX0_coverLeaves 11 = .ok (.putfield 122, 3) := by decide +kernel
theorem dX0_coverLeaves_14 : decode cX0_coverLeaves 14 = .ok (.aload_n 0, 1) := by decide +kernel
theorem dX0_coverLeaves_15 : decode cX0_coverLeaves 15 = .ok (.getfield 30, 3) := by decide +kernel
theorem dX0_coverLeaves_18 : decode cX0_coverLeaves 18 = .ok (.iconst 2, 1) := by decide +kernel
theorem dX0_coverLeaves_19 : decode cX0_coverLeaves 19 = .ok (.putfield 40, 3) := by decide +kernel
theorem dX0_coverLeaves_22 : decode cX0_coverLeaves 22 = .ok (.aload_n 0, 1) := by decide +kernel
theorem dX0_coverLeaves_23 : decode cX0_coverLeaves 23 = .ok (.getfield 30, 3) := by decide +kernel
theorem dX0_coverLeaves_26 : decode cX0_coverLeaves 26 = .ok (.aload_n 0, 1) := by decide +kernel
theorem dX0_coverLeaves_27 : decode cX0_coverLeaves 27 = .ok (.getfield 30, 3) := by decide +kernel
theorem dX0_coverLeaves_30 : decode cX0_coverLeaves 30 = .ok (.getfield 122, 3) := by decide +kernel
theorem dX0_coverLeaves_33 : decode cX0_coverLeaves 33 = .ok (.invokevirtual 97, 3) := by decide +kernel
theorem dX0_coverLeaves_36 : decode cX0_coverLeaves 36 = .ok (.astore_n 2, 1) := by decide +kernel
theorem dX0_coverLeaves_37 : decode cX0_coverLeaves 37 = .ok (.aload_n 2, 1) := by decide +kernel
theorem dX0_coverLeaves_38 : decode cX0_coverLeaves 38 = .ok (.iconst 2, 1) := by decide +kernel
theorem dX0_coverLeaves_39 : decode cX0_coverLeaves 39 = .ok (.iconst 0, 1) := by decide +kernel
theorem dX0_coverLeaves_40 : decode cX0_coverLeaves 40 = .ok (.invokevirtual 125, 3) := by decide +kernel
theorem dX0_coverLeaves_43 : decode cX0_coverLeaves 43 = .ok (.iconst 1, 1) := by decide +kernel
theorem dX0_coverLeaves_44 : decode cX0_coverLeaves 44 = .ok (.istore_n 3, 1) := by decide +kernel
theorem dX0_coverLeaves_45 : decode cX0_coverLeaves 45 = .ok (.iload_n 3, 1) := by decide +kernel
theorem dX0_coverLeaves_46 : decode cX0_coverLeaves 46 = .ok (.iload_n 1, 1) := by decide +kernel
theorem dX0_coverLeaves_47 : decode cX0_coverLeaves 47 = .ok (.if_icmp .gt 77, 3) := by decide +kernel
theorem dX0_coverLeaves_50 : decode cX0_coverLeaves 50 = .ok (.aload_n 0, 1) := by decide +kernel
theorem dX0_coverLeaves_51 : decode cX0_coverLeaves 51 = .ok (.getfield 30, 3) := by decide +kernel
theorem dX0_coverLeaves_54 : decode cX0_coverLeaves 54 = .ok (.iload_n 3, 1) := by decide +kernel
theorem dX0_coverLeaves_55 : decode cX0_coverLeaves 55 = .ok (.iconst 1, 1) := by decide +kernel
theorem dX0_coverLeaves_56 : decode cX0_coverLeaves 56 = .ok (.isub, 1) := by decide +kernel
theorem dX0_coverLeaves_57 : decode cX0_coverLeaves 57 = .ok (.invokevirtual 97, 3) := by decide +kernel
theorem dX0_coverLeaves_60 : decode cX0_coverLeaves 60 = .ok (.astore 4, 2) := by decide +kernel
theorem dX0_coverLeaves_62 : decode cX0_coverLeaves 62 = .ok (.aload 4, 2) := by decide +kernel
theorem dX0_coverLeaves_64 : decode cX0_coverLeaves 64 = .ok (.aload 4, 2) := by decide +kernel
theorem dX0_coverLeaves_66 : decode cX0_coverLeaves 66 = .ok (.invokevirtual 139, 3) := by decide +kernel
theorem dX0_coverLeaves_69 : decode cX0_coverLeaves 69 = .ok (.iconst 1, 1) := by decide +kernel
theorem dX0_coverLeaves_70 : decode cX0_coverLeaves 70 = .ok (.isub, 1) := by decide +kernel
theorem dX0_coverLeaves_71 : decode cX0_coverLeaves 71 = .ok (.aload_n 0, 1) := by decide +kernel
theorem dX0_coverLeaves_72 : decode cX0_coverLeaves 72 = .ok (.getfield 27, 3) := by decide +kernel
theorem dX0_coverLeaves_75 : decode cX0_coverLeaves 75 = .ok (.invokevirtual 128, 3) := by decide +kernel
theorem dX0_coverLeaves_78 : decode cX0_coverLeaves 78 = .ok (.aload_n 0, 1) := by decide +kernel
theorem dX0_coverLeaves_79 : decode cX0_coverLeaves 79 = .ok (.getfield 30, 3) := by decide +kernel
theorem dX0_coverLeaves_82 : decode cX0_coverLeaves 82 = .ok (.iload_n 3, 1) := by decide +kernel
theorem dX0_coverLeaves_83 : decode cX0_coverLeaves 83 = .ok (.invokevirtual 97, 3) := by decide +kernel
theorem dX0_coverLeaves_86 : decode cX0_coverLeaves 86 = .ok (.iconst 0, 1) := by decide +kernel
theorem dX0_coverLeaves_87 : decode cX0_coverLeaves 87 = .ok (.aload_n 0, 1) := by decide +kernel
theorem dX0_coverLeaves_88 : decode cX0_coverLeaves 88 = .ok (.getfield 23, 3) := by decide +kernel
theorem dX0_coverLeaves_91 : decode cX0_coverLeaves 91 = .ok (.invokevirtual 128, 3) := by decide +kernel
theorem dX0_coverLeaves_94 : decode cX0_coverLeaves 94 = .ok (.aload_n 0, 1) := by decide +kernel
theorem dX0_coverLeaves_95 : decode cX0_coverLeaves 95 = .ok (.getfield 23, 3) := by decide +kernel
theorem dX0_coverLeaves_98 : decode cX0_coverLeaves 98 = .ok (.aload_n 0, 1) := by decide +kernel
theorem dX0_coverLeaves_99 : decode cX0_coverLeaves 99 = .ok (.getfield 27, 3) := by decide +kernel
theorem dX0_coverLeaves_102 : decode cX0_coverLeaves 102 = .ok (.invokevirtual 132, 3) := by decide +kernel
theorem dX0_coverLeaves_105 : decode cX0_coverLeaves 105 = .ok (.aload_n 2, 1) := by decide +kernel
theorem dX0_coverLeaves_106 : decode cX0_coverLeaves 106 = .ok (.aload_n 2, 1) := by decide +kernel
theorem dX0_coverLeaves_107 : decode cX0_coverLeaves 107 = .ok (.invokevirtual 139, 3) := by decide +kernel
theorem dX0_coverLeaves_110 : decode cX0_coverLeaves 110 = .ok (.aload_n 0, 1) := by decide +kernel
theorem dX0_coverLeaves_111 : decode cX0_coverLeaves 111 = .ok (.getfield 23, 3) := by decide +kernel
theorem dX0_coverLeaves_114 : decode cX0_coverLeaves 114 = .ok (.iload_n 3, 1) := by decide +kernel
theorem dX0_coverLeaves_115 : decode cX0_coverLeaves 115 = .ok (.invokevirtual 76, 3) := by decide +kernel
theorem dX0_coverLeaves_118 : decode cX0_coverLeaves 118 = .ok (.iinc 3 1, 3) := by decide +kernel
theorem dX0_coverLeaves_121 : decode cX0_coverLeaves 121 = .ok (.goto (-76), 3) := by decide +kernel
theorem dX0_coverLeaves_124 : decode cX0_coverLeaves 124 = .ok (.return_, 1) := by decide +kernel
theorem dX1_init_0 : decode cX1_init 0 = .ok (.aload_n 0, 1) := by decide +kernel
theorem dX1_init_1 : decode cX1_init 1 = .ok (.invokespecial 3, 3) := by decide +kernel
theorem dX1_init_4 : decode cX1_init 4 = .ok (.aload_n 0, 1) := by decide +kernel
theorem dX1_init_5 : decode cX1_init 5 = .ok (.bipush 32, 2) := by decide +kernel
theorem dX1_init_7 : decode cX1_init 7 = .ok (.newarray .boolean, 2) := by decide +kernel
theorem dX1_init_9 : decode cX1_init 9 = .ok (.putfield 9, 3) := by decide +kernel
theorem dX1_init_12 : decode cX1_init 12 = .ok (.aload_n 0, 1) := by decide +kernel
theorem dX1_init_13 : decode cX1_init 13 = .ok (.bipush 32, 2) := by decide +kernel
theorem dX1_init_15 : decode cX1_init 15 = .ok (.newarray .int, 2) := by decide +kernel
theorem dX1_init_17 : decode cX1_init 17 = .ok (.putfield 15, 3) := by decide +kernel
theorem dX1_init_20 : decode cX1_init 20 = .ok (.aload_n 0, 1) := by decide +kernel
theorem dX1_init_21 : decode cX1_init 21 = .ok (.new 19, 3) := by decide +kernel
theorem dX1_init_24 : decode cX1_init 24 = .ok (.dup, 1) := by decide +kernel
theorem dX1_init_25 : decode cX1_init 25 = .ok (.invokespecial 21, 3) := by decide +kernel
theorem dX1_init_28 : decode cX1_init 28 = .ok (.putfield 22, 3) := by decide +kernel
theorem dX1_init_31 : decode cX1_init 31 = .ok (.aload_n 0, 1) := by decide +kernel
theorem dX1_init_32 : decode cX1_init 32 = .ok (.aload_n 1, 1) := by decide +kernel
theorem dX1_init_33 : decode cX1_init 33 = .ok (.putfield 26, 3) := by decide +kernel
theorem dX1_init_36 : decode cX1_init 36 = .ok (.return_, 1) := by decide +kernel
theorem dX1_firstWrong_0 : decode cX1_firstWrong 0 = .ok (.iconst 0, 1) := by decide +kernel
theorem dX1_firstWrong_1 : decode cX1_firstWrong 1 = .ok (.istore_n 1, 1) := by decide +kernel
theorem dX1_firstWrong_2 : decode cX1_firstWrong 2 = .ok (.iload_n 1, 1) := by decide +kernel
theorem dX1_firstWrong_3 : decode cX1_firstWrong 3 = .ok (.bipush 32, 2) := by decide +kernel
theorem dX1_firstWrong_5 : decode cX1_firstWrong 5 = .ok (.if_icmp .ge 16, 3) := by decide +kernel
theorem dX1_firstWrong_8 : decode cX1_firstWrong 8 = .ok (.aload_n 0, 1) := by decide +kernel
theorem dX1_firstWrong_9 : decode cX1_firstWrong 9 = .ok (.getfield 9, 3) := by decide +kernel
theorem dX1_firstWrong_12 : decode cX1_firstWrong 12 = .ok (.iload_n 1, 1) := by decide +kernel
theorem dX1_firstWrong_13 : decode cX1_firstWrong 13 = .ok (.iconst 0, 1) := by decide +kernel
theorem dX1_firstWrong_14 : decode cX1_firstWrong 14 = .ok (.bastore, 1) := by decide +kernel
theorem dX1_firstWrong_15 : decode cX1_firstWrong 15 = .ok (.iinc 1 1, 3) := by decide +kernel
theorem dX1_firstWrong_18 : decode cX1_firstWrong 18 = .ok (.goto (-16), 3) := by decide +kernel
theorem dX1_firstWrong_21 : decode cX1_firstWrong 21 = .ok (.aload_n 0, 1) := by decide +kernel
theorem dX1_firstWrong_22 : decode cX1_firstWrong 22 = .ok (.iconst 0, 1) := by decide +kernel
theorem dX1_firstWrong_23 : decode cX1_firstWrong 23 = .ok (.putfield 30, 3) := by decide +kernel
theorem dX1_firstWrong_26 : decode cX1_firstWrong 26 = .ok (.aload_n 0, 1) := by decide +kernel
theorem dX1_firstWrong_27 : decode cX1_firstWrong 27 = .ok (.aload_n 0, 1) := by decide +kernel
theorem dX1_firstWrong_28 : decode cX1_firstWrong 28 = .ok (.getfield 26, 3) := by decide +kernel
theorem dX1_firstWrong_31 : decode cX1_firstWrong 31 = .ok (.getfield 34, 3) := by decide +kernel
theorem dX1_firstWrong_34 : decode cX1_firstWrong 34 = .ok (.iconst 0, 1) := by decide +kernel
theorem dX1_firstWrong_35 : decode cX1_firstWrong 35 = .ok (.iconst (-1), 1) := by decide +kernel
theorem dX1_firstWrong_36 : decode cX1_firstWrong 36 = .ok (.iconst (-1), 1) := by decide +kernel
theorem dX1_firstWrong_37 : decode cX1_firstWrong 37 = .ok (.invokevirtual 39, 3) := by decide +kernel
theorem dX1_firstWrong_40 : decode cX1_firstWrong 40 = .ok (.istore_n 1, 1) := by decide +kernel
theorem dX1_firstWrong_41 : decode cX1_firstWrong 41 = .ok (.iload_n 1, 1) := by decide +kernel
theorem dX1_firstWrong_42 : decode cX1_firstWrong 42 = .ok (.ifCond .ne 8, 3) := by decide +kernel
theorem dX1_firstWrong_45 : decode cX1_firstWrong 45 = .ok (.aload_n 0, 1) := by decide +kernel
theorem dX1_firstWrong_46 : decode cX1_firstWrong 46 = .ok (.invokevirtual 43, 3) := by decide +kernel
theorem dX1_firstWrong_49 : decode cX1_firstWrong 49 = .ok (.istore_n 1, 1) := by decide +kernel
theorem dX1_firstWrong_50 : decode cX1_firstWrong 50 = .ok (.iload_n 1, 1) := by decide +kernel
theorem dX1_firstWrong_51 : decode cX1_firstWrong 51 = .ok (.ifCond .ne 10, 3) := by decide +kernel
theorem dX1_firstWrong_54 : decode cX1_firstWrong 54 = .ok (.aload_n 0, 1) := by decide +kernel
theorem dX1_firstWrong_55 : decode cX1_firstWrong 55 = .ok (.invokevirtual 47, 3) := by decide +kernel
theorem dX1_firstWrong_58 : decode cX1_firstWrong 58 = .ok (.goto 4, 3) := by decide +kernel
theorem dX1_firstWrong_61 : decode cX1_firstWrong 61 = .ok (.iload_n 1, 1) := by decide +kernel
theorem dX1_firstWrong_62 : decode cX1_firstWrong 62 = .ok (.ireturn, 1) := by decide +kernel
theorem dX1_walk_0 : decode cX1_walk 0 = .ok (.aload_n 0, 1) := by decide +kernel
theorem dX1_walk_1 : decode cX1_walk 1 = .ok (.getfield 26, 3) := by decide +kernel
theorem dX1_walk_4 : decode cX1_walk 4 = .ok (.iload_n 1, 1) := by decide +kernel
theorem dX1_walk_5 : decode cX1_walk 5 = .ok (.invokevirtual 50, 3) := by decide +kernel
theorem dX1_walk_8 : decode cX1_walk 8 = .ok (.astore 5, 2) := by decide +kernel
theorem dX1_walk_10 : decode cX1_walk 10 = .ok (.aload_n 0, 1) := by decide +kernel
theorem dX1_walk_11 : decode cX1_walk 11 = .ok (.iload_n 1, 1) := by decide +kernel
theorem dX1_walk_12 : decode cX1_walk 12 = .ok (.invokevirtual 54, 3) := by decide +kernel
theorem dX1_walk_15 : decode cX1_walk 15 = .ok (.aload_n 0, 1) := by decide +kernel
theorem dX1_walk_16 : decode cX1_walk 16 = .ok (.aload 5, 2) := by decide +kernel
theorem dX1_walk_18 : decode cX1_walk 18 = .ok (.iload_n 2, 1) := by decide +kernel
theorem dX1_walk_19 : decode cX1_walk 19 = .ok (.iload_n 3, 1) := by decide +kernel
theorem dX1_walk_20 : decode cX1_walk 20 = .ok (.iload 4, 2) := by decide +kernel
theorem dX1_walk_22 : decode cX1_walk 22 = .ok (.invokevirtual 58, 3) := by decide +kernel
theorem dX1_walk_25 : decode cX1_walk 25 = .ok (.istore 6, 2) := by decide +kernel
theorem dX1_walk_27 : decode cX1_walk 27 = .ok (.iload 6, 2) := by decide +kernel
theorem dX1_walk_29 : decode cX1_walk 29 = .ok (.ifCond .eq 11, 3) := by decide +kernel
theorem dX1_walk_32 : decode cX1_walk 32 = .ok (.bipush 100, 2) := by decide +kernel
theorem dX1_walk_34 : decode cX1_walk 34 = .ok (.iload 6, 2) := by decide +kernel
theorem dX1_walk_36 : decode cX1_walk 36 = .ok (.imul, 1) := by decide +kernel
theorem dX1_walk_37 : decode cX1_walk 37 = .ok (.iload_n 1, 1) := by decide +kernel
theorem dX1_walk_38 : decode cX1_walk 38 = .ok (.iadd, 1) := by decide +kernel
theorem dX1_walk_39 : decode cX1_walk 39 = .ok (.ireturn, 1) := by decide +kernel
theorem dX1_walk_40 : decode cX1_walk 40 = .ok (.aload_n 0, 1) := by decide +kernel
theorem dX1_walk_41 : decode cX1_walk 41 = .ok (.iload_n 2, 1) := by decide +kernel
theorem dX1_walk_42 : decode cX1_walk 42 = .ok (.invokevirtual 62, 3) := by decide +kernel
theorem dX1_walk_45 : decode cX1_walk 45 = .ok (.ifCond .eq 10, 3) := by decide +kernel
theorem dX1_walk_48 : decode cX1_walk 48 = .ok (.aload_n 0, 1) := by decide +kernel
theorem dX1_walk_49 : decode cX1_walk 49 = .ok (.iload_n 1, 1) := by decide +kernel
theorem dX1_walk_50 : decode cX1_walk 50 = .ok (.invokevirtual 66, 3) := by decide +kernel
theorem dX1_walk_53 : decode cX1_walk 53 = .ok (.iconst 0, 1) := by decide +kernel
theorem dX1_walk_54 : decode cX1_walk 54 = .ok (.ireturn, 1) := by decide +kernel
theorem dX1_walk_55 : decode cX1_walk 55 = .ok (.aload_n 0, 1) := by decide +kernel
theorem dX1_walk_56 : decode cX1_walk 56 = .ok (.iload_n 1, 1) := by decide +kernel
theorem dX1_walk_57 : decode cX1_walk 57 = .ok (.iload_n 2, 1) := by decide +kernel
theorem dX1_walk_58 : decode cX1_walk 58 = .ok (.iload_n 3, 1) := by decide +kernel
theorem dX1_walk_59 : decode cX1_walk 59 = .ok (.iload 4, 2) := by decide +kernel
theorem dX1_walk_61 : decode cX1_walk 61 = .ok (.invokevirtual 69, 3) := by decide +kernel
theorem dX1_walk_64 : decode cX1_walk 64 = .ok (.ireturn, 1) := by decide +kernel
theorem dX1_walkChildren_0 : decode cX1_walkChildren 0 = .ok (.aload_n 0, 1) := by decide +kernel
theorem dX1_walkChildren_1 : decode cX1_walkChildren 1 = .ok (.getfield 26, 3) := by decide +kernel
theorem dX1_walkChildren_4 : decode cX1_walkChildren 4 = .ok (.iload_n 1, 1) := by decide +kernel
theorem dX1_walkChildren_5 : decode cX1_walkChildren 5 = .ok (.invokevirtual 50, 3) := by decide +kernel
theorem dX1_walkChildren_8 : decode cX1_walkChildren 8 = .ok (.astore 5, 2) := by decide +kernel
theorem dX1_walkChildren_10 : decode cX1_walkChildren 10 = .ok (.iconst 0, 1) := by decide +kernel
theorem dX1_walkChildren_11 : decode cX1_walkChildren 11 = .ok (.istore 6, 2) := by decide +kernel
theorem dX1_walkChildren_13 : decode cX1_walkChildren 13 = .ok (.iload 6, 2) := by decide +kernel
theorem dX1_walkChildren_15 : decode cX1_walkChildren 15 = .ok (.aload 5, 2) := by decide +kernel
theorem dX1_walkChildren_17 : decode cX1_walkChildren 17 = .ok (.invokevirtual 72, 3) := by decide +kernel
theorem dX1_walkChildren_20 : decode cX1_walkChildren 20 = .ok (.if_icmp .gt 81, 3) := by decide +kernel
theorem dX1_walkChildren_23 : decode cX1_walkChildren 23 = .ok (.iload 6, 2) := by decide +kernel
theorem dX1_walkChildren_25 : decode cX1_walkChildren 25 = .ok (.ifCond .le 15, 3) := by decide +kernel
theorem dX1_walkChildren_28 : decode cX1_walkChildren 28 = .ok (.iload_n 1, 1) := by decide +kernel
theorem dX1_walkChildren_29 : decode cX1_walkChildren 29 = .ok (.bipush 64, 2) := by decide +kernel
theorem dX1_walkChildren_31 : decode cX1_walkChildren 31 = .ok (.imul, 1) := by decide +kernel
theorem dX1_walkChildren_32 : decode cX1_walkChildren 32 = .ok (.iload 6, 2) := by decide +kernel
theorem dX1_walkChildren_34 : decode cX1_walkChildren 34 = .ok (.iadd, 1) := by decide +kernel
theorem dX1_walkChildren_35 : decode cX1_walkChildren 35 = .ok (.iconst 1, 1) := by decide +kernel
theorem dX1_walkChildren_36 : decode cX1_walkChildren 36 = .ok (.isub, 1) := by decide +kernel
theorem dX1_walkChildren_37 : decode cX1_walkChildren 37 = .ok (.goto 4, 3) := by decide +kernel
theorem dX1_walkChildren_40 : decode cX1_walkChildren 40 = .ok (.iload_n 3, 1) := by decide +kernel
theorem dX1_walkChildren_41 : decode cX1_walkChildren 41 = .ok (.istore 7, 2) := by decide +kernel
theorem dX1_walkChildren_43 : decode cX1_walkChildren 43 = .ok (.iload 6, 2) := by decide +kernel
theorem dX1_walkChildren_45 : decode cX1_walkChildren 45 = .ok (.aload 5, 2) := by decide +kernel
theorem dX1_walkChildren_47 : decode cX1_walkChildren 47 = .ok (.invokevirtual 72, 3) := by decide +kernel
theorem dX1_walkChildren_50 : decode cX1_walkChildren 50 = .ok (.if_icmp .ge 13, 3) := by decide +kernel
theorem dX1_walkChildren_53 : decode cX1_walkChildren 53 = .ok (.iload_n 1, 1) := by decide +kernel
theorem dX1_walkChildren_54 : decode cX1_walkChildren 54 = .ok (.bipush 64, 2) := by decide +kernel
theorem dX1_walkChildren_56 : decode cX1_walkChildren 56 = .ok (.imul, 1) := by decide +kernel
theorem dX1_walkChildren_57 : decode cX1_walkChildren 57 = .ok (.iload 6, 2) := by decide +kernel
theorem dX1_walkChildren_59 : decode cX1_walkChildren 59 = .ok (.iadd, 1) := by decide +kernel
theorem dX1_walkChildren_60 : decode cX1_walkChildren 60 = .ok (.goto 5, 3) := by decide +kernel
theorem dX1_walkChildren_63 : decode cX1_walkChildren 63 = .ok (.iload 4, 2) := by decide +kernel
theorem dX1_walkChildren_65 : decode cX1_walkChildren 65 = .ok (.istore 8, 2) := by decide +kernel
theorem dX1_walkChildren_67 : decode cX1_walkChildren 67 = .ok (.aload_n 0, 1) := by decide +kernel
theorem dX1_walkChildren_68 : decode cX1_walkChildren 68 = .ok (.aload 5, 2) := by decide +kernel
theorem dX1_walkChildren_70 : decode cX1_walkChildren 70 = .ok (.iload 6, 2) := by decide +kernel
theorem dX1_walkChildren_72 : decode cX1_walkChildren 72 = .ok (.invokevirtual 77, 3) := by decide +kernel
theorem dX1_walkChildren_75 : decode cX1_walkChildren 75 = .ok (.iload_n 2, 1) := by decide +kernel
theorem dX1_walkChildren_76 : decode cX1_walkChildren 76 = .ok (.iconst 1, 1) := by decide +kernel
theorem dX1_walkChildren_77 : decode cX1_walkChildren 77 = .ok (.iadd, 1) := by decide +kernel
theorem dX1_walkChildren_78 : decode cX1_walkChildren 78 = .ok (.iload 7, 2) := by decide +kernel
theorem dX1_walkChildren_80 : decode cX1_walkChildren 80 = .ok (.iload 8, 2) := by decide +kernel
theorem dX1_walkChildren_82 : decode cX1_walkChildren 82 = .ok (.invokevirtual 39, 3) := by decide +kernel
theorem dX1_walkChildren_85 : decode cX1_walkChildren 85 = .ok (.istore 9, 2) := by decide +kernel
theorem dX1_walkChildren_87 : decode cX1_walkChildren 87 = .ok (.iload 9, 2) := by decide +kernel
theorem dX1_walkChildren_89 : decode cX1_walkChildren 89 = .ok (.ifCond .eq 6, 3) := by decide +kernel
theorem dX1_walkChildren_92 : decode cX1_walkChildren 92 = .ok (.iload 9, 2) := by decide +kernel
theorem dX1_walkChildren_94 : decode cX1_walkChildren 94 = .ok (.ireturn, 1) := by decide +kernel
theorem dX1_walkChildren_95 : decode cX1_walkChildren 95 = .ok (.iinc 6 1, 3) := by decide +kernel
theorem dX1_walkChildren_98 : decode cX1_walkChildren 98 = .ok (.goto (-85), 3) := by decide +kernel
theorem dX1_walkChildren_101 : decode cX1_walkChildren 101 = .ok (.iconst 0, 1) := by decide +kernel
theorem dX1_walkChildren_102 : decode cX1_walkChildren 102 = .ok (.ireturn, 1) := by decide +kernel
theorem dX1_isLast_0 : decode cX1_isLast 0 = .ok (.iload_n 1, 1) := by decide +kernel
theorem dX1_isLast_1 : decode cX1_isLast 1 = .ok (.aload_n 0, 1) := by decide +kernel
theorem dX1_isLast_2 : decode cX1_isLast 2 = .ok (.getfield 26, 3) := by decide +kernel
theorem dX1_isLast_5 : decode cX1_isLast 5 = .ok (.getfield 81, 3) := by decide +kernel
theorem dX1_isLast_8 : decode cX1_isLast 8 = .ok (.iconst 1, 1) := by decide +kernel
theorem dX1_isLast_9 : decode cX1_isLast 9 = .ok (.isub, 1) := by decide +kernel
theorem dX1_isLast_10 : decode cX1_isLast 10 = .ok (.if_icmp .lt 7, 3) := by decide +kernel
theorem dX1_isLast_13 : decode cX1_isLast 13 = .ok (.iconst 1, 1) := by decide +kernel
theorem dX1_isLast_14 : decode cX1_isLast 14 = .ok (.goto 4, 3) := by decide +kernel
theorem dX1_isLast_17 : decode cX1_isLast 17 = .ok (.iconst 0, 1) := by decide +kernel
theorem dX1_isLast_18 : decode cX1_isLast 18 = .ok (.ireturn, 1) := by decide +kernel
theorem dX1_comeTo_0 : decode cX1_comeTo 0 = .ok (.iload_n 1, 1) := by decide +kernel
theorem dX1_comeTo_1 : decode cX1_comeTo 1 = .ok (.ifCond .lt 19, 3) := by decide +kernel
theorem dX1_comeTo_4 : decode cX1_comeTo 4 = .ok (.iload_n 1, 1) := by decide +kernel
theorem dX1_comeTo_5 : decode cX1_comeTo 5 = .ok (.aload_n 0, 1) := by decide +kernel
theorem dX1_comeTo_6 : decode cX1_comeTo 6 = .ok (.getfield 9, 3) := by decide +kernel
theorem dX1_comeTo_9 : decode cX1_comeTo 9 = .ok (.arraylength, 1) := by decide +kernel
theorem dX1_comeTo_10 : decode cX1_comeTo 10 = .ok (.if_icmp .ge 10, 3) := by decide +kernel
theorem dX1_comeTo_13 : decode cX1_comeTo 13 = .ok (.aload_n 0, 1) := by decide +kernel
theorem dX1_comeTo_14 : decode cX1_comeTo 14 = .ok (.getfield 9, 3) := by decide +kernel
theorem dX1_comeTo_17 : decode cX1_comeTo 17 = .ok (.iload_n 1, 1) := by decide +kernel
theorem dX1_comeTo_18 : decode cX1_comeTo 18 = .ok (.iconst 1, 1) := by decide +kernel
theorem dX1_comeTo_19 : decode cX1_comeTo 19 = .ok (.bastore, 1) := by decide +kernel
theorem dX1_comeTo_20 : decode cX1_comeTo 20 = .ok (.return_, 1) := by decide +kernel
theorem dX1_noteLeaf_0 : decode cX1_noteLeaf 0 = .ok (.aload_n 0, 1) := by decide +kernel
theorem dX1_noteLeaf_1 : decode cX1_noteLeaf 1 = .ok (.getfield 30, 3) := by decide +kernel
theorem dX1_noteLeaf_4 : decode cX1_noteLeaf 4 = .ok (.aload_n 0, 1) := by decide +kernel
theorem dX1_noteLeaf_5 : decode cX1_noteLeaf 5 = .ok (.getfield 15, 3) := by decide +kernel
theorem dX1_noteLeaf_8 : decode cX1_noteLeaf 8 = .ok (.arraylength, 1) := by decide +kernel
theorem dX1_noteLeaf_9 : decode cX1_noteLeaf 9 = .ok (.if_icmp .ge 23, 3) := by decide +kernel
theorem dX1_noteLeaf_12 : decode cX1_noteLeaf 12 = .ok (.aload_n 0, 1) := by decide +kernel
theorem dX1_noteLeaf_13 : decode cX1_noteLeaf 13 = .ok (.getfield 15, 3) := by decide +kernel
theorem dX1_noteLeaf_16 : decode cX1_noteLeaf 16 = .ok (.aload_n 0, 1) := by decide +kernel
theorem dX1_noteLeaf_17 : decode cX1_noteLeaf 17 = .ok (.getfield 30, 3) := by decide +kernel
theorem dX1_noteLeaf_20 : decode cX1_noteLeaf 20 = .ok (.iload_n 1, 1) := by decide +kernel
theorem dX1_noteLeaf_21 : decode cX1_noteLeaf 21 = .ok (.iastore, 1) := by decide +kernel
theorem dX1_noteLeaf_22 : decode cX1_noteLeaf 22 = .ok (.aload_n 0, 1) := by decide +kernel
theorem dX1_noteLeaf_23 : decode cX1_noteLeaf 23 = .ok (.dup, 1) := by decide +kernel
theorem dX1_noteLeaf_24 : decode cX1_noteLeaf 24 = .ok (.getfield 30, 3) := by decide +kernel
theorem dX1_noteLeaf_27 : decode cX1_noteLeaf 27 = .ok (.iconst 1, 1) := by decide +kernel
theorem dX1_noteLeaf_28 : decode cX1_noteLeaf 28 = .ok (.iadd, 1) := by decide +kernel
theorem dX1_noteLeaf_29 : decode cX1_noteLeaf 29 = .ok (.putfield 30, 3) := by decide +kernel
theorem dX1_noteLeaf_32 : decode cX1_noteLeaf 32 = .ok (.return_, 1) := by decide +kernel
theorem dX1_whyWrong_0 : decode cX1_whyWrong 0 = .ok (.aload_n 1, 1) := by decide +kernel
theorem dX1_whyWrong_1 : decode cX1_whyWrong 1 = .ok (.invokevirtual 84, 3) := by decide +kernel
theorem dX1_whyWrong_4 : decode cX1_whyWrong 4 = .ok (.aload_n 0, 1) := by decide +kernel
theorem dX1_whyWrong_5 : decode cX1_whyWrong 5 = .ok (.iload_n 2, 1) := by decide +kernel
theorem dX1_whyWrong_6 : decode cX1_whyWrong 6 = .ok (.invokevirtual 62, 3) := by decide +kernel
theorem dX1_whyWrong_9 : decode cX1_whyWrong 9 = .ok (.ifCond .eq 7, 3) := by decide +kernel
theorem dX1_whyWrong_12 : decode cX1_whyWrong 12 = .ok (.iconst 1, 1) := by decide +kernel
theorem dX1_whyWrong_13 : decode cX1_whyWrong 13 = .ok (.goto 4, 3) := by decide +kernel
theorem dX1_whyWrong_16 : decode cX1_whyWrong 16 = .ok (.iconst 2, 1) := by decide +kernel
theorem dX1_whyWrong_17 : decode cX1_whyWrong 17 = .ok (.if_icmp .eq 5, 3) := by decide +kernel
theorem dX1_whyWrong_20 : decode cX1_whyWrong 20 = .ok (.iconst 1, 1) := by decide +kernel
theorem dX1_whyWrong_21 : decode cX1_whyWrong 21 = .ok (.ireturn, 1) := by decide +kernel
theorem dX1_whyWrong_22 : decode cX1_whyWrong 22 = .ok (.iload_n 2, 1) := by decide +kernel
theorem dX1_whyWrong_23 : decode cX1_whyWrong 23 = .ok (.ifCond .ne 15, 3) := by decide +kernel
theorem dX1_whyWrong_26 : decode cX1_whyWrong 26 = .ok (.aload_n 1, 1) := by decide +kernel
theorem dX1_whyWrong_27 : decode cX1_whyWrong 27 = .ok (.invokevirtual 84, 3) := by decide +kernel
theorem dX1_whyWrong_30 : decode cX1_whyWrong 30 = .ok (.iconst 1, 1) := by decide +kernel
theorem dX1_whyWrong_31 : decode cX1_whyWrong 31 = .ok (.if_icmp .ne 7, 3) := by decide +kernel
theorem dX1_whyWrong_34 : decode cX1_whyWrong 34 = .ok (.iconst 1, 1) := by decide +kernel
theorem dX1_whyWrong_35 : decode cX1_whyWrong 35 = .ok (.goto 4, 3) := by decide +kernel
theorem dX1_whyWrong_38 : decode cX1_whyWrong 38 = .ok (.iconst 0, 1) := by decide +kernel
theorem dX1_whyWrong_39 : decode cX1_whyWrong 39 = .ok (.istore 5, 2) := by decide +kernel
theorem dX1_whyWrong_41 : decode cX1_whyWrong 41 = .ok (.aload_n 1, 1) := by decide +kernel
theorem dX1_whyWrong_42 : decode cX1_whyWrong 42 = .ok (.invokevirtual 72, 3) := by decide +kernel
theorem dX1_whyWrong_45 : decode cX1_whyWrong 45 = .ok (.ifCond .ne 8, 3) := by decide +kernel
theorem dX1_whyWrong_48 : decode cX1_whyWrong 48 = .ok (.iload 5, 2) := by decide +kernel
theorem dX1_whyWrong_50 : decode cX1_whyWrong 50 = .ok (.ifCond .eq 10, 3) := by decide +kernel
theorem dX1_whyWrong_53 : decode cX1_whyWrong 53 = .ok (.aload_n 1, 1) := by decide +kernel
theorem dX1_whyWrong_54 : decode cX1_whyWrong 54 = .ok (.invokestatic 87, 3) := by decide +kernel
theorem dX1_whyWrong_57 : decode cX1_whyWrong 57 = .ok (.ifCond .ne 5, 3) := by decide +kernel
theorem dX1_whyWrong_60 : decode cX1_whyWrong 60 = .ok (.iconst 2, 1) := by decide +kernel
theorem dX1_whyWrong_61 : decode cX1_whyWrong 61 = .ok (.ireturn, 1) := by decide +kernel
theorem dX1_whyWrong_62 : decode cX1_whyWrong 62 = .ok (.aload_n 0, 1) := by decide +kernel
theorem dX1_whyWrong_63 : decode cX1_whyWrong 63 = .ok (.aload_n 1, 1) := by decide +kernel
theorem dX1_whyWrong_64 : decode cX1_whyWrong 64 = .ok (.invokevirtual 91, 3) := by decide +kernel
theorem dX1_whyWrong_67 : decode cX1_whyWrong 67 = .ok (.ifCond .ne 5, 3) := by decide +kernel
theorem dX1_whyWrong_70 : decode cX1_whyWrong 70 = .ok (.iconst 3, 1) := by decide +kernel
theorem dX1_whyWrong_71 : decode cX1_whyWrong 71 = .ok (.ireturn, 1) := by decide +kernel
theorem dX1_whyWrong_72 : decode cX1_whyWrong 72 = .ok (.aload_n 1, 1) := by decide +kernel
theorem dX1_whyWrong_73 : decode cX1_whyWrong 73 = .ok (.invokevirtual 72, 3) := by decide +kernel
theorem dX1_whyWrong_76 : decode cX1_whyWrong 76 = .ok (.ifCond .le 16, 3) := by decide +kernel
theorem dX1_whyWrong_79 : decode cX1_whyWrong 79 = .ok (.aload_n 0, 1) := by decide +kernel
theorem dX1_whyWrong_80 : decode cX1_whyWrong 80 = .ok (.aload_n 1, 1) := by decide +kernel
theorem dX1_whyWrong_81 : decode cX1_whyWrong 81 = .ok (.iload_n 3, 1) := by decide +kernel
theorem dX1_whyWrong_82 : decode cX1_whyWrong 82 = .ok (.iload 4, 2) := by decide +kernel
theorem dX1_whyWrong_84 : decode cX1_whyWrong 84 = .ok (.invokevirtual 94, 3) := by decide +kernel
theorem dX1_whyWrong_87 : decode cX1_whyWrong 87 = .ok (.ifCond .ne 5, 3) := by decide +kernel
theorem dX1_whyWrong_90 : decode cX1_whyWrong 90 = .ok (.iconst 4, 1) := by decide +kernel
theorem dX1_whyWrong_91 : decode cX1_whyWrong 91 = .ok (.ireturn, 1) := by decide +kernel
theorem dX1_whyWrong_92 : decode cX1_whyWrong 92 = .ok (.aload_n 1, 1) := by decide +kernel
theorem dX1_whyWrong_93 : decode cX1_whyWrong 93 = .ok (.invokevirtual 84, 3) := by decide +kernel
theorem dX1_whyWrong_96 : decode cX1_whyWrong 96 = .ok (.iconst 2, 1) := by decide +kernel
theorem dX1_whyWrong_97 : decode cX1_whyWrong 97 = .ok (.if_icmp .ne 15, 3) := by decide +kernel
theorem dX1_whyWrong_100 : decode cX1_whyWrong 100 = .ok (.aload_n 0, 1) := by decide +kernel
theorem dX1_whyWrong_101 : decode cX1_whyWrong 101 = .ok (.aload_n 1, 1) := by decide +kernel
theorem dX1_whyWrong_102 : decode cX1_whyWrong 102 = .ok (.invokevirtual 98, 3) := by decide +kernel
theorem dX1_whyWrong_105 : decode cX1_whyWrong 105 = .ok (.ifCond .eq 7, 3) := by decide +kernel
theorem dX1_whyWrong_108 : decode cX1_whyWrong 108 = .ok (.iconst 5, 1) := by decide +kernel
theorem dX1_whyWrong_109 : decode cX1_whyWrong 109 = .ok (.goto 4, 3) := by decide +kernel
theorem dX1_whyWrong_112 : decode cX1_whyWrong 112 = .ok (.iconst 0, 1) := by decide +kernel
theorem dX1_whyWrong_113 : decode cX1_whyWrong 113 = .ok (.ireturn, 1) := by decide +kernel
theorem dX1_isReadable_0 : decode cX1_isReadable 0 = .ok (.iconst 3, 1) := by decide +kernel
theorem dX1_isReadable_1 : decode cX1_isReadable 1 = .ok (.istore_n 1, 1) := by decide +kernel
theorem dX1_isReadable_2 : decode cX1_isReadable 2 = .ok (.iconst 0, 1) := by decide +kernel
theorem dX1_isReadable_3 : decode cX1_isReadable 3 = .ok (.istore_n 2, 1) := by decide +kernel
theorem dX1_isReadable_4 : decode cX1_isReadable 4 = .ok (.iload_n 2, 1) := by decide +kernel
theorem dX1_isReadable_5 : decode cX1_isReadable 5 = .ok (.aload_n 0, 1) := by decide +kernel
theorem dX1_isReadable_6 : decode cX1_isReadable 6 = .ok (.invokevirtual 72, 3) := by decide +kernel
theorem dX1_isReadable_9 : decode cX1_isReadable 9 = .ok (.if_icmp .ge 74, 3) := by decide +kernel
theorem dX1_isReadable_12 : decode cX1_isReadable 12 = .ok (.aload_n 0, 1) := by decide +kernel
theorem dX1_isReadable_13 : decode cX1_isReadable 13 = .ok (.iload_n 1, 1) := by decide +kernel
theorem dX1_isReadable_14 : decode cX1_isReadable 14 = .ok (.invokevirtual 101, 3) := by decide +kernel
theorem dX1_isReadable_17 : decode cX1_isReadable 17 = .ok (.istore_n 3, 1) := by decide +kernel
theorem dX1_isReadable_18 : decode cX1_isReadable 18 = .ok (.iload_n 3, 1) := by decide +kernel
theorem dX1_isReadable_19 : decode cX1_isReadable 19 = .ok (.iconst 1, 1) := by decide +kernel
theorem dX1_isReadable_20 : decode cX1_isReadable 20 = .ok (.bipush 8, 2) := by decide +kernel
theorem dX1_isReadable_22 : decode cX1_isReadable 22 = .ok (.invokestatic 104, 3) := by decide +kernel
theorem dX1_isReadable_25 : decode cX1_isReadable 25 = .ok (.ifCond .eq 13, 3) := by decide +kernel
theorem dX1_isReadable_28 : decode cX1_isReadable 28 = .ok (.iload_n 1, 1) := by decide +kernel
theorem dX1_isReadable_29 : decode cX1_isReadable 29 = .ok (.iload_n 3, 1) := by decide +kernel
theorem dX1_isReadable_30 : decode cX1_isReadable 30 = .ok (.iadd, 1) := by decide +kernel
theorem dX1_isReadable_31 : decode cX1_isReadable 31 = .ok (.iconst 2, 1) := by decide +kernel
theorem dX1_isReadable_32 : decode cX1_isReadable 32 = .ok (.iadd, 1) := by decide +kernel
theorem dX1_isReadable_33 : decode cX1_isReadable 33 = .ok (.bipush 64, 2) := by decide +kernel
theorem dX1_isReadable_35 : decode cX1_isReadable 35 = .ok (.if_icmp .le 5, 3) := by decide +kernel
theorem dX1_isReadable_38 : decode cX1_isReadable 38 = .ok (.iconst 0, 1) := by decide +kernel
theorem dX1_isReadable_39 : decode cX1_isReadable 39 = .ok (.ireturn, 1) := by decide +kernel
theorem dX1_isReadable_40 : decode cX1_isReadable 40 = .ok (.iconst 1, 1) := by decide +kernel
theorem dX1_isReadable_41 : decode cX1_isReadable 41 = .ok (.istore 4, 2) := by decide +kernel
theorem dX1_isReadable_43 : decode cX1_isReadable 43 = .ok (.iload 4, 2) := by decide +kernel
theorem dX1_isReadable_45 : decode cX1_isReadable 45 = .ok (.iload_n 3, 1) := by decide +kernel
theorem dX1_isReadable_46 : decode cX1_isReadable 46 = .ok (.if_icmp .gt 25, 3) := by decide +kernel
theorem dX1_isReadable_49 : decode cX1_isReadable 49 = .ok (.aload_n 0, 1) := by decide +kernel
theorem dX1_isReadable_50 : decode cX1_isReadable 50 = .ok (.iload_n 1, 1) := by decide +kernel
theorem dX1_isReadable_51 : decode cX1_isReadable 51 = .ok (.iload 4, 2) := by decide +kernel
theorem dX1_isReadable_53 : decode cX1_isReadable 53 = .ok (.iadd, 1) := by decide +kernel
theorem dX1_isReadable_54 : decode cX1_isReadable 54 = .ok (.invokevirtual 101, 3) := by decide +kernel
theorem dX1_isReadable_57 : decode cX1_isReadable 57 = .ok (.invokestatic 108, 3) := by decide +kernel
theorem dX1_isReadable_60 : decode cX1_isReadable 60 = .ok (.ifCond .ne 5, 3) := by decide +kernel
theorem dX1_isReadable_63 : decode cX1_isReadable 63 = .ok (.iconst 0, 1) := by decide +kernel
theorem dX1_isReadable_64 : decode cX1_isReadable 64 = .ok (.ireturn, 1) := by decide +kernel
theorem dX1_isReadable_65 : decode cX1_isReadable 65 = .ok (.iinc 4 1, 3) := by decide +kernel
theorem dX1_isReadable_68 : decode cX1_isReadable 68 = .ok (.goto (-25), 3) := by decide +kernel
theorem dX1_isReadable_71 : decode cX1_isReadable 71 = .ok (.iload_n 1, 1) := by decide +kernel
theorem dX1_isReadable_72 : decode cX1_isReadable 72 = .ok (.iload_n 3, 1) := by decide +kernel
theorem dX1_isReadable_73 : decode cX1_isReadable 73 = .ok (.iconst 2, 1) := by decide +kernel
theorem dX1_isReadable_74 : decode cX1_isReadable 74 = .ok (.iadd, 1) := by decide +kernel
theorem dX1_isReadable_75 : decode cX1_isReadable 75 = .ok (.iadd, 1) := by decide +kernel
theorem dX1_isReadable_76 : decode cX1_isReadable 76 = .ok (.istore_n 1, 1) := by decide +kernel
theorem dX1_isReadable_77 : decode cX1_isReadable 77 = .ok (.iinc 2 1, 3) := by decide +kernel
theorem dX1_isReadable_80 : decode cX1_isReadable 80 = .ok (.goto (-76), 3) := by decide +kernel
theorem dX1_isReadable_83 : decode cX1_isReadable 83 = .ok (.iload_n 1, 1) := by decide +kernel
theorem dX1_isReadable_84 : decode cX1_isReadable 84 = .ok (.istore_n 2, 1) := by decide +kernel
theorem dX1_isReadable_85 : decode cX1_isReadable 85 = .ok (.iload_n 2, 1) := by decide +kernel
theorem dX1_isReadable_86 : decode cX1_isReadable 86 = .ok (.bipush 64, 2) := by decide +kernel
theorem dX1_isReadable_88 : decode cX1_isReadable 88 = .ok (.if_icmp .ge 17, 3) := by decide +kernel
theorem dX1_isReadable_91 : decode cX1_isReadable 91 = .ok (.aload_n 0, 1) := by decide +kernel
theorem dX1_isReadable_92 : decode cX1_isReadable 92 = .ok (.iload_n 2, 1) := by decide +kernel
theorem dX1_isReadable_93 : decode cX1_isReadable 93 = .ok (.invokevirtual 101, 3) := by decide +kernel
theorem dX1_isReadable_96 : decode cX1_isReadable 96 = .ok (.ifCond .ne 9, 3) := by decide +kernel
theorem dX1_isReadable_99 : decode cX1_isReadable 99 = .ok (.iinc 2 1, 3) := by decide +kernel
theorem dX1_isReadable_102 : decode cX1_isReadable 102 = .ok (.goto (-17), 3) := by decide +kernel
theorem dX1_isReadable_105 : decode cX1_isReadable 105 = .ok (.iload_n 2, 1) := by decide +kernel
theorem dX1_isReadable_106 : decode cX1_isReadable 106 = .ok (.bipush 64, 2) := by decide +kernel
theorem dX1_isReadable_108 : decode cX1_isReadable 108 = .ok (.if_icmp .lt 7, 3) := by decide +kernel
theorem dX1_isReadable_111 : decode cX1_isReadable 111 = .ok (.iconst 1, 1) := by decide +kernel
theorem dX1_isReadable_112 : decode cX1_isReadable 112 = .ok (.goto 4, 3) := by decide +kernel
theorem dX1_isReadable_115 : decode cX1_isReadable 115 = .ok (.iconst 0, 1) := by decide +kernel
theorem dX1_isReadable_116 : decode cX1_isReadable 116 = .ok (.ireturn, 1) := by decide +kernel
theorem dX1_rises_0 : decode cX1_rises 0 = .ok (.iconst 1, 1) := by decide +kernel
theorem dX1_rises_1 : decode cX1_rises 1 = .ok (.istore_n 2, 1) := by decide +kernel
theorem dX1_rises_2 : decode cX1_rises 2 = .ok (.iload_n 2, 1) := by decide +kernel
theorem dX1_rises_3 : decode cX1_rises 3 = .ok (.aload_n 1, 1) := by decide +kernel
theorem dX1_rises_4 : decode cX1_rises 4 = .ok (.invokevirtual 72, 3) := by decide +kernel
theorem dX1_rises_7 : decode cX1_rises 7 = .ok (.if_icmp .ge 34, 3) := by decide +kernel
theorem dX1_rises_10 : decode cX1_rises 10 = .ok (.aload_n 1, 1) := by decide +kernel
theorem dX1_rises_11 : decode cX1_rises 11 = .ok (.iload_n 2, 1) := by decide +kernel
theorem dX1_rises_12 : decode cX1_rises 12 = .ok (.iconst 1, 1) := by decide +kernel
theorem dX1_rises_13 : decode cX1_rises 13 = .ok (.isub, 1) := by decide +kernel
theorem dX1_rises_14 : decode cX1_rises 14 = .ok (.aload_n 0, 1) := by decide +kernel
theorem dX1_rises_15 : decode cX1_rises 15 = .ok (.getfield 22, 3) := by decide +kernel
theorem dX1_rises_18 : decode cX1_rises 18 = .ok (.invokevirtual 111, 3) := by decide +kernel
theorem dX1_rises_21 : decode cX1_rises 21 = .ok (.aload_n 1, 1) := by decide +kernel
theorem dX1_rises_22 : decode cX1_rises 22 = .ok (.iload_n 2, 1) := by decide +kernel
theorem dX1_rises_23 : decode cX1_rises 23 = .ok (.aload_n 0, 1) := by decide +kernel
theorem dX1_rises_24 : decode cX1_rises 24 = .ok (.getfield 22, 3) := by decide +kernel
theorem dX1_rises_27 : decode cX1_rises 27 = .ok (.invokevirtual 115, 3) := by decide +kernel
theorem dX1_rises_30 : decode cX1_rises 30 = .ok (.ifCond .gt 5, 3) := by decide +kernel
theorem dX1_rises_33 : decode cX1_rises 33 = .ok (.iconst 0, 1) := by decide +kernel
theorem dX1_rises_34 : decode cX1_rises 34 = .ok (.ireturn, 1) := by decide +kernel
theorem dX1_rises_35 : decode cX1_rises 35 = .ok (.iinc 2 1, 3) := by decide +kernel
theorem dX1_rises_38 : decode cX1_rises 38 = .ok (.goto (-36), 3) := by decide +kernel
theorem dX1_rises_41 : decode cX1_rises 41 = .ok (.iconst 1, 1) := by decide +kernel
theorem dX1_rises_42 : decode cX1_rises 42 = .ok (.ireturn, 1) := by decide +kernel
theorem dX1_isBetween_0 : decode cX1_isBetween 0 = .ok (.iload_n 2, 1) := by decide +kernel
theorem dX1_isBetween_1 : decode cX1_isBetween 1 = .ok (.iconst (-1), 1) := by decide +kernel
theorem dX1_isBetween_2 : decode cX1_isBetween 2 = .ok (.if_icmp .eq 39, 3) := by decide +kernel
theorem dX1_isBetween_5 : decode cX1_isBetween 5 = .ok (.aload_n 0, 1) := by decide +kernel
theorem dX1_isBetween_6 : decode cX1_isBetween 6 = .ok (.getfield 26, 3) := by decide +kernel
theorem dX1_isBetween_9 : decode cX1_isBetween 9 = .ok (.iload_n 2, 1) := by decide +kernel
theorem dX1_isBetween_10 : decode cX1_isBetween 10 = .ok (.bipush 64, 2) := by decide +kernel
theorem dX1_isBetween_12 : decode cX1_isBetween 12 = .ok (.idiv, 1) := by decide +kernel
theorem dX1_isBetween_13 : decode cX1_isBetween 13 = .ok (.invokevirtual 50, 3) := by decide +kernel
theorem dX1_isBetween_16 : decode cX1_isBetween 16 = .ok (.iload_n 2, 1) := by decide +kernel
theorem dX1_isBetween_17 : decode cX1_isBetween 17 = .ok (.bipush 64, 2) := by decide +kernel
theorem dX1_isBetween_19 : decode cX1_isBetween 19 = .ok (.irem, 1) := by decide +kernel
theorem dX1_isBetween_20 : decode cX1_isBetween 20 = .ok (.aload_n 0, 1) := by decide +kernel
theorem dX1_isBetween_21 : decode cX1_isBetween 21 = .ok (.getfield 22, 3) := by decide +kernel
theorem dX1_isBetween_24 : decode cX1_isBetween 24 = .ok (.invokevirtual 111, 3) := by decide +kernel
theorem dX1_isBetween_27 : decode cX1_isBetween 27 = .ok (.aload_n 1, 1) := by decide +kernel
theorem dX1_isBetween_28 : decode cX1_isBetween 28 = .ok (.iconst 0, 1) := by decide +kernel
theorem dX1_isBetween_29 : decode cX1_isBetween 29 = .ok (.aload_n 0, 1) := by decide +kernel
theorem dX1_isBetween_30 : decode cX1_isBetween 30 = .ok (.getfield 22, 3) := by decide +kernel
theorem dX1_isBetween_33 : decode cX1_isBetween 33 = .ok (.invokevirtual 115, 3) := by decide +kernel
theorem dX1_isBetween_36 : decode cX1_isBetween 36 = .ok (.ifCond .ge 5, 3) := by decide +kernel
theorem dX1_isBetween_39 : decode cX1_isBetween 39 = .ok (.iconst 0, 1) := by decide +kernel
theorem dX1_isBetween_40 : decode cX1_isBetween 40 = .ok (.ireturn, 1) := by decide +kernel
theorem dX1_isBetween_41 : decode cX1_isBetween 41 = .ok (.iload_n 3, 1) := by decide +kernel
theorem dX1_isBetween_42 : decode cX1_isBetween 42 = .ok (.iconst (-1), 1) := by decide +kernel
theorem dX1_isBetween_43 : decode cX1_isBetween 43 = .ok (.if_icmp .eq 48, 3) := by decide +kernel
theorem dX1_isBetween_46 : decode cX1_isBetween 46 = .ok (.aload_n 0, 1) := by decide +kernel
theorem dX1_isBetween_47 : decode cX1_isBetween 47 = .ok (.getfield 26, 3) := by decide +kernel
theorem dX1_isBetween_50 : decode cX1_isBetween 50 = .ok (.iload_n 3, 1) := by decide +kernel
theorem dX1_isBetween_51 : decode cX1_isBetween 51 = .ok (.bipush 64, 2) := by decide +kernel
theorem dX1_isBetween_53 : decode cX1_isBetween 53 = .ok (.idiv, 1) := by decide +kernel
theorem dX1_isBetween_54 : decode cX1_isBetween 54 = .ok (.invokevirtual 50, 3) := by decide +kernel
theorem dX1_isBetween_57 : decode cX1_isBetween 57 = .ok (.iload_n 3, 1) := by decide +kernel
theorem dX1_isBetween_58 : decode cX1_isBetween 58 = .ok (.bipush 64, 2) := by decide +kernel
theorem dX1_isBetween_60 : decode cX1_isBetween 60 = .ok (.irem, 1) := by decide +kernel
theorem dX1_isBetween_61 : decode cX1_isBetween 61 = .ok (.aload_n 0, 1) := by decide +kernel
theorem dX1_isBetween_62 : decode cX1_isBetween 62 = .ok (.getfield 22, 3) := by decide +kernel
theorem dX1_isBetween_65 : decode cX1_isBetween 65 = .ok (.invokevirtual 111, 3) := by decide +kernel
theorem dX1_isBetween_68 : decode cX1_isBetween 68 = .ok (.aload_n 1, 1) := by decide +kernel
theorem dX1_isBetween_69 : decode cX1_isBetween 69 = .ok (.aload_n 1, 1) := by decide +kernel
theorem dX1_isBetween_70 : decode cX1_isBetween 70 = .ok (.invokevirtual 72, 3) := by decide +kernel
theorem dX1_isBetween_73 : decode cX1_isBetween 73 = .ok (.iconst 1, 1) := by decide +kernel
theorem dX1_isBetween_74 : decode cX1_isBetween 74 = .ok (.isub, 1) := by decide +kernel
theorem dX1_isBetween_75 : decode cX1_isBetween 75 = .ok (.aload_n 0, 1) := by decide +kernel
theorem dX1_isBetween_76 : decode cX1_isBetween 76 = .ok (.getfield 22, 3) := by decide +kernel
theorem dX1_isBetween_79 : decode cX1_isBetween 79 = .ok (.invokevirtual 115, 3) := by decide +kernel
theorem dX1_isBetween_82 : decode cX1_isBetween 82 = .ok (.ifCond .ge 7, 3) := by decide +kernel
theorem dX1_isBetween_85 : decode cX1_isBetween 85 = .ok (.iconst 1, 1) := by decide +kernel
theorem dX1_isBetween_86 : decode cX1_isBetween 86 = .ok (.goto 4, 3) := by decide +kernel
theorem dX1_isBetween_89 : decode cX1_isBetween 89 = .ok (.iconst 0, 1) := by decide +kernel
theorem dX1_isBetween_90 : decode cX1_isBetween 90 = .ok (.ireturn, 1) := by decide +kernel
theorem dX1_isBetween_91 : decode cX1_isBetween 91 = .ok (.iconst 1, 1) := by decide +kernel
theorem dX1_isBetween_92 : decode cX1_isBetween 92 = .ok (.ireturn, 1) := by decide +kernel
theorem dX1_hasWrongChild_0 : decode cX1_hasWrongChild 0 = .ok (.iconst 0, 1) := by decide +kernel
theorem dX1_hasWrongChild_1 : decode cX1_hasWrongChild 1 = .ok (.istore_n 2, 1) := by decide +kernel
theorem dX1_hasWrongChild_2 : decode cX1_hasWrongChild 2 = .ok (.iload_n 2, 1) := by decide +kernel
theorem dX1_hasWrongChild_3 : decode cX1_hasWrongChild 3 = .ok (.aload_n 1, 1) := by decide +kernel
theorem dX1_hasWrongChild_4 : decode cX1_hasWrongChild 4 = .ok (.invokevirtual 72, 3) := by decide +kernel
theorem dX1_hasWrongChild_7 : decode cX1_hasWrongChild 7 = .ok (.if_icmp .gt 66, 3) := by decide +kernel
theorem dX1_hasWrongChild_10 : decode cX1_hasWrongChild 10 = .ok (.aload_n 1, 1) := by decide +kernel
theorem dX1_hasWrongChild_11 : decode cX1_hasWrongChild 11 = .ok (.iload_n 2, 1) := by decide +kernel
theorem dX1_hasWrongChild_12 : decode cX1_hasWrongChild 12 = .ok (.invokevirtual 77, 3) := by decide +kernel
theorem dX1_hasWrongChild_15 : decode cX1_hasWrongChild 15 = .ok (.istore_n 3, 1) := by decide +kernel
theorem dX1_hasWrongChild_16 : decode cX1_hasWrongChild 16 = .ok (.iload_n 3, 1) := by decide +kernel
theorem dX1_hasWrongChild_17 : decode cX1_hasWrongChild 17 = .ok (.ifCond .lt 21, 3) := by decide +kernel
theorem dX1_hasWrongChild_20 : decode cX1_hasWrongChild 20 = .ok (.iload_n 3, 1) := by decide +kernel
theorem dX1_hasWrongChild_21 : decode cX1_hasWrongChild 21 = .ok (.aload_n 0, 1) := by decide +kernel
theorem dX1_hasWrongChild_22 : decode cX1_hasWrongChild 22 = .ok (.getfield 9, 3) := by decide +kernel
theorem dX1_hasWrongChild_25 : decode cX1_hasWrongChild 25 = .ok (.arraylength, 1) := by decide +kernel
theorem dX1_hasWrongChild_26 : decode cX1_hasWrongChild 26 = .ok (.if_icmp .ge 12, 3) := by decide +kernel
theorem dX1_hasWrongChild_29 : decode cX1_hasWrongChild 29 = .ok (.aload_n 0, 1) := by decide +kernel
theorem dX1_hasWrongChild_30 : decode cX1_hasWrongChild 30 = .ok (.getfield 9, 3) := by decide +kernel
theorem dX1_hasWrongChild_33 : decode cX1_hasWrongChild 33 = .ok (.iload_n 3, 1) := by decide +kernel
theorem dX1_hasWrongChild_34 : decode cX1_hasWrongChild 34 = .ok (.baload, 1) := by decide +kernel
theorem dX1_hasWrongChild_35 : decode cX1_hasWrongChild 35 = .ok (.ifCond .eq 5, 3) := by decide +kernel
theorem dX1_hasWrongChild_38 : decode cX1_hasWrongChild 38 = .ok (.iconst 1, 1) := by decide +kernel
theorem dX1_hasWrongChild_39 : decode cX1_hasWrongChild 39 = .ok (.ireturn, 1) := by decide +kernel
theorem dX1_hasWrongChild_40 : decode cX1_hasWrongChild 40 = .ok (.iconst 0, 1) := by decide +kernel
theorem dX1_hasWrongChild_41 : decode cX1_hasWrongChild 41 = .ok (.istore 4, 2) := by decide +kernel
theorem dX1_hasWrongChild_43 : decode cX1_hasWrongChild 43 = .ok (.iload 4, 2) := by decide +kernel
theorem dX1_hasWrongChild_45 : decode cX1_hasWrongChild 45 = .ok (.iload_n 2, 1) := by decide +kernel
theorem dX1_hasWrongChild_46 : decode cX1_hasWrongChild 46 = .ok (.if_icmp .ge 21, 3) := by decide +kernel
theorem dX1_hasWrongChild_49 : decode cX1_hasWrongChild 49 = .ok (.aload_n 1, 1) := by decide +kernel
theorem dX1_hasWrongChild_50 : decode cX1_hasWrongChild 50 = .ok (.iload 4, 2) := by decide +kernel
theorem dX1_hasWrongChild_52 : decode cX1_hasWrongChild 52 = .ok (.invokevirtual 77, 3) := by decide +kernel
theorem dX1_hasWrongChild_55 : decode cX1_hasWrongChild 55 = .ok (.iload_n 3, 1) := by decide +kernel
theorem dX1_hasWrongChild_56 : decode cX1_hasWrongChild 56 = .ok (.if_icmp .ne 5, 3) := by decide +kernel
theorem dX1_hasWrongChild_59 : decode cX1_hasWrongChild 59 = .ok (.iconst 1, 1) := by decide +kernel
theorem dX1_hasWrongChild_60 : decode cX1_hasWrongChild 60 = .ok (.ireturn, 1) := by decide +kernel
theorem dX1_hasWrongChild_61 : decode cX1_hasWrongChild 61 = .ok (.iinc 4 1, 3) := by decide +kernel
theorem dX1_hasWrongChild_64 : decode cX1_hasWrongChild 64 = .ok (.goto (-21), 3) := by decide +kernel
theorem dX1_hasWrongChild_67 : decode cX1_hasWrongChild 67 = .ok (.iinc 2 1, 3) := by decide +kernel
theorem dX1_hasWrongChild_70 : decode cX1_hasWrongChild 70 = .ok (.goto (-68), 3) := by decide +kernel
theorem dX1_hasWrongChild_73 : decode cX1_hasWrongChild 73 = .ok (.iconst 0, 1) := by decide +kernel
theorem dX1_hasWrongChild_74 : decode cX1_hasWrongChild 74 = .ok (.ireturn, 1) := by decide +kernel
theorem dX1_wrongNext_0 : decode cX1_wrongNext 0 = .ok (.iconst 0, 1) := by decide +kernel
theorem dX1_wrongNext_1 : decode cX1_wrongNext 1 = .ok (.istore_n 1, 1) := by decide +kernel
theorem dX1_wrongNext_2 : decode cX1_wrongNext 2 = .ok (.iload_n 1, 1) := by decide +kernel
theorem dX1_wrongNext_3 : decode cX1_wrongNext 3 = .ok (.aload_n 0, 1) := by decide +kernel
theorem dX1_wrongNext_4 : decode cX1_wrongNext 4 = .ok (.getfield 30, 3) := by decide +kernel
theorem dX1_wrongNext_7 : decode cX1_wrongNext 7 = .ok (.if_icmp .ge 85, 3) := by decide +kernel
theorem dX1_wrongNext_10 : decode cX1_wrongNext 10 = .ok (.iload_n 1, 1) := by decide +kernel
theorem dX1_wrongNext_11 : decode cX1_wrongNext 11 = .ok (.aload_n 0, 1) := by decide +kernel
theorem dX1_wrongNext_12 : decode cX1_wrongNext 12 = .ok (.getfield 15, 3) := by decide +kernel
theorem dX1_wrongNext_15 : decode cX1_wrongNext 15 = .ok (.arraylength, 1) := by decide +kernel
theorem dX1_wrongNext_16 : decode cX1_wrongNext 16 = .ok (.if_icmp .ge 76, 3) := by decide +kernel
theorem dX1_wrongNext_19 : decode cX1_wrongNext 19 = .ok (.iload_n 1, 1) := by decide +kernel
theorem dX1_wrongNext_20 : decode cX1_wrongNext 20 = .ok (.iconst 1, 1) := by decide +kernel
theorem dX1_wrongNext_21 : decode cX1_wrongNext 21 = .ok (.iadd, 1) := by decide +kernel
theorem dX1_wrongNext_22 : decode cX1_wrongNext 22 = .ok (.aload_n 0, 1) := by decide +kernel
theorem dX1_wrongNext_23 : decode cX1_wrongNext 23 = .ok (.getfield 30, 3) := by decide +kernel
theorem dX1_wrongNext_26 : decode cX1_wrongNext 26 = .ok (.if_icmp .ge 27, 3) := by decide +kernel
theorem dX1_wrongNext_29 : decode cX1_wrongNext 29 = .ok (.iload_n 1, 1) := by decide +kernel
theorem dX1_wrongNext_30 : decode cX1_wrongNext 30 = .ok (.iconst 1, 1) := by decide +kernel
theorem dX1_wrongNext_31 : decode cX1_wrongNext 31 = .ok (.iadd, 1) := by decide +kernel
theorem dX1_wrongNext_32 : decode cX1_wrongNext 32 = .ok (.aload_n 0, 1) := by decide +kernel
theorem dX1_wrongNext_33 : decode cX1_wrongNext 33 = .ok (.getfield 15, 3) := by decide +kernel
theorem dX1_wrongNext_36 : decode cX1_wrongNext 36 = .ok (.arraylength, 1) := by decide +kernel
theorem dX1_wrongNext_37 : decode cX1_wrongNext 37 = .ok (.if_icmp .ge 16, 3) := by decide +kernel
theorem dX1_wrongNext_40 : decode cX1_wrongNext 40 = .ok (.aload_n 0, 1) := by decide +kernel
theorem dX1_wrongNext_41 : decode cX1_wrongNext 41 = .ok (.getfield 15, 3) := by decide +kernel
theorem dX1_wrongNext_44 : decode cX1_wrongNext 44 = .ok (.iload_n 1, 1) := by decide +kernel
theorem dX1_wrongNext_45 : decode cX1_wrongNext 45 = .ok (.iconst 1, 1) := by decide +kernel
theorem dX1_wrongNext_46 : decode cX1_wrongNext 46 = .ok (.iadd, 1) := by decide +kernel
theorem dX1_wrongNext_47 : decode cX1_wrongNext 47 = .ok (.iaload, 1) := by decide +kernel
theorem dX1_wrongNext_48 : decode cX1_wrongNext 48 = .ok (.iconst 1, 1) := by decide +kernel
theorem dX1_wrongNext_49 : decode cX1_wrongNext 49 = .ok (.iadd, 1) := by decide +kernel
theorem dX1_wrongNext_50 : decode cX1_wrongNext 50 = .ok (.goto 4, 3) := by decide +kernel
theorem dX1_wrongNext_53 : decode cX1_wrongNext 53 = .ok (.iconst 0, 1) := by decide +kernel
theorem dX1_wrongNext_54 : decode cX1_wrongNext 54 = .ok (.istore_n 2, 1) := by decide +kernel
theorem dX1_wrongNext_55 : decode cX1_wrongNext 55 = .ok (.aload_n 0, 1) := by decide +kernel
theorem dX1_wrongNext_56 : decode cX1_wrongNext 56 = .ok (.getfield 26, 3) := by decide +kernel
theorem dX1_wrongNext_59 : decode cX1_wrongNext 59 = .ok (.aload_n 0, 1) := by decide +kernel
theorem dX1_wrongNext_60 : decode cX1_wrongNext 60 = .ok (.getfield 15, 3) := by decide +kernel
theorem dX1_wrongNext_63 : decode cX1_wrongNext 63 = .ok (.iload_n 1, 1) := by decide +kernel
theorem dX1_wrongNext_64 : decode cX1_wrongNext 64 = .ok (.iaload, 1) := by decide +kernel
theorem dX1_wrongNext_65 : decode cX1_wrongNext 65 = .ok (.invokevirtual 50, 3) := by decide +kernel
theorem dX1_wrongNext_68 : decode cX1_wrongNext 68 = .ok (.invokevirtual 119, 3) := by decide +kernel
theorem dX1_wrongNext_71 : decode cX1_wrongNext 71 = .ok (.iload_n 2, 1) := by decide +kernel
theorem dX1_wrongNext_72 : decode cX1_wrongNext 72 = .ok (.if_icmp .eq 14, 3) := by decide +kernel
theorem dX1_wrongNext_75 : decode cX1_wrongNext 75 = .ok (.sipush 600, 3) := by decide +kernel
theorem dX1_wrongNext_78 : decode cX1_wrongNext 78 = .ok (.aload_n 0, 1) := by decide +kernel
theorem dX1_wrongNext_79 : decode cX1_wrongNext 79 = .ok (.getfield 15, 3) := by decide +kernel
theorem dX1_wrongNext_82 : decode cX1_wrongNext 82 = .ok (.iload_n 1, 1) := by decide +kernel
theorem dX1_wrongNext_83 : decode cX1_wrongNext 83 = .ok (.iaload, 1) := by decide +kernel
theorem dX1_wrongNext_84 : decode cX1_wrongNext 84 = .ok (.iadd, 1) := by decide +kernel
theorem dX1_wrongNext_85 : decode cX1_wrongNext 85 = .ok (.ireturn, 1) := by decide +kernel
theorem dX1_wrongNext_86 : decode cX1_wrongNext 86 = .ok (.iinc 1 1, 3) := by decide +kernel
theorem dX1_wrongNext_89 : decode cX1_wrongNext 89 = .ok (.goto (-87), 3) := by decide +kernel
theorem dX1_wrongNext_92 : decode cX1_wrongNext 92 = .ok (.iconst 0, 1) := by decide +kernel
theorem dX1_wrongNext_93 : decode cX1_wrongNext 93 = .ok (.ireturn, 1) := by decide +kernel
theorem dX1_strayPage_0 : decode cX1_strayPage 0 = .ok (.iconst 0, 1) := by decide +kernel
theorem dX1_strayPage_1 : decode cX1_strayPage 1 = .ok (.istore_n 1, 1) := by decide +kernel
theorem dX1_strayPage_2 : decode cX1_strayPage 2 = .ok (.iload_n 1, 1) := by decide +kernel
theorem dX1_strayPage_3 : decode cX1_strayPage 3 = .ok (.bipush 32, 2) := by decide +kernel
theorem dX1_strayPage_5 : decode cX1_strayPage 5 = .ok (.if_icmp .ge 38, 3) := by decide +kernel
theorem dX1_strayPage_8 : decode cX1_strayPage 8 = .ok (.aload_n 0, 1) := by decide +kernel
theorem dX1_strayPage_9 : decode cX1_strayPage 9 = .ok (.getfield 9, 3) := by decide +kernel
theorem dX1_strayPage_12 : decode cX1_strayPage 12 = .ok (.iload_n 1, 1) := by decide +kernel
theorem dX1_strayPage_13 : decode cX1_strayPage 13 = .ok (.baload, 1) := by decide +kernel
theorem dX1_strayPage_14 : decode cX1_strayPage 14 = .ok (.ifCond .ne 23, 3) := by decide +kernel
theorem dX1_strayPage_17 : decode cX1_strayPage 17 = .ok (.aload_n 0, 1) := by decide +kernel
theorem dX1_strayPage_18 : decode cX1_strayPage 18 = .ok (.getfield 26, 3) := by decide +kernel
theorem dX1_strayPage_21 : decode cX1_strayPage 21 = .ok (.iload_n 1, 1) := by decide +kernel
theorem dX1_strayPage_22 : decode cX1_strayPage 22 = .ok (.invokevirtual 50, 3) := by decide +kernel
theorem dX1_strayPage_25 : decode cX1_strayPage 25 = .ok (.invokestatic 122, 3) := by decide +kernel
theorem dX1_strayPage_28 : decode cX1_strayPage 28 = .ok (.ifCond .ne 9, 3) := by decide +kernel
theorem dX1_strayPage_31 : decode cX1_strayPage 31 = .ok (.sipush 700, 3) := by decide +kernel
theorem dX1_strayPage_34 : decode cX1_strayPage 34 = .ok (.iload_n 1, 1) := by decide +kernel
theorem dX1_strayPage_35 : decode cX1_strayPage 35 = .ok (.iadd, 1) := by decide +kernel
theorem dX1_strayPage_36 : decode cX1_strayPage 36 = .ok (.ireturn, 1) := by decide +kernel
theorem dX1_strayPage_37 : decode cX1_strayPage 37 = .ok (.iinc 1 1, 3) := by decide +kernel
theorem dX1_strayPage_40 : decode cX1_strayPage 40 = .ok (.goto (-38), 3) := by decide +kernel
theorem dX1_strayPage_43 : decode cX1_strayPage 43 = .ok (.iconst 0, 1) := by decide +kernel
theorem dX1_strayPage_44 : decode cX1_strayPage 44 = .ok (.ireturn, 1) := by decide +kernel
theorem dX1_isBlank_0 : decode cX1_isBlank 0 = .ok (.iconst 0, 1) := by decide +kernel
theorem dX1_isBlank_1 : decode cX1_isBlank 1 = .ok (.istore_n 1, 1) := by decide +kernel
theorem dX1_isBlank_2 : decode cX1_isBlank 2 = .ok (.iload_n 1, 1) := by decide +kernel
theorem dX1_isBlank_3 : decode cX1_isBlank 3 = .ok (.bipush 64, 2) := by decide +kernel
theorem dX1_isBlank_5 : decode cX1_isBlank 5 = .ok (.if_icmp .ge 19, 3) := by decide +kernel
theorem dX1_isBlank_8 : decode cX1_isBlank 8 = .ok (.aload_n 0, 1) := by decide +kernel
theorem dX1_isBlank_9 : decode cX1_isBlank 9 = .ok (.iload_n 1, 1) := by decide +kernel
theorem dX1_isBlank_10 : decode cX1_isBlank 10 = .ok (.invokevirtual 101, 3) := by decide +kernel
theorem dX1_isBlank_13 : decode cX1_isBlank 13 = .ok (.ifCond .eq 5, 3) := by decide +kernel
theorem dX1_isBlank_16 : decode cX1_isBlank 16 = .ok (.iconst 0, 1) := by decide +kernel
theorem dX1_isBlank_17 : decode cX1_isBlank 17 = .ok (.ireturn, 1) := by decide +kernel
theorem dX1_isBlank_18 : decode cX1_isBlank 18 = .ok (.iinc 1 1, 3) := by decide +kernel
theorem dX1_isBlank_21 : decode cX1_isBlank 21 = .ok (.goto (-19), 3) := by decide +kernel
theorem dX1_isBlank_24 : decode cX1_isBlank 24 = .ok (.iconst 1, 1) := by decide +kernel
theorem dX1_isBlank_25 : decode cX1_isBlank 25 = .ok (.ireturn, 1) := by decide +kernel
theorem dX2_init_0 : decode cX2_init 0 = .ok (.aload_n 0, 1) := by decide +kernel
theorem dX2_init_1 : decode cX2_init 1 = .ok (.invokespecial 3, 3) := by decide +kernel
theorem dX2_init_4 : decode cX2_init 4 = .ok (.aload_n 0, 1) := by decide +kernel
theorem dX2_init_5 : decode cX2_init 5 = .ok (.sipush 2048, 3) := by decide +kernel
theorem dX2_init_8 : decode cX2_init 8 = .ok (.newarray .int, 2) := by decide +kernel
theorem dX2_init_10 : decode cX2_init 10 = .ok (.putfield 9, 3) := by decide +kernel
theorem dX2_init_13 : decode cX2_init 13 = .ok (.return_, 1) := by decide +kernel
theorem dX2_copyFrom_0 : decode cX2_copyFrom 0 = .ok (.iconst 0, 1) := by decide +kernel
theorem dX2_copyFrom_1 : decode cX2_copyFrom 1 = .ok (.istore_n 2, 1) := by decide +kernel
theorem dX2_copyFrom_2 : decode cX2_copyFrom 2 = .ok (.iload_n 2, 1) := by decide +kernel
theorem dX2_copyFrom_3 : decode cX2_copyFrom 3 = .ok (.aload_n 0, 1) := by decide +kernel
theorem dX2_copyFrom_4 : decode cX2_copyFrom 4 = .ok (.getfield 9, 3) := by decide +kernel
theorem dX2_copyFrom_7 : decode cX2_copyFrom 7 = .ok (.arraylength, 1) := by decide +kernel
theorem dX2_copyFrom_8 : decode cX2_copyFrom 8 = .ok (.if_icmp .ge 30, 3) := by decide +kernel
theorem dX2_copyFrom_11 : decode cX2_copyFrom 11 = .ok (.aload_n 0, 1) := by decide +kernel
theorem dX2_copyFrom_12 : decode cX2_copyFrom 12 = .ok (.getfield 9, 3) := by decide +kernel
theorem dX2_copyFrom_15 : decode cX2_copyFrom 15 = .ok (.iload_n 2, 1) := by decide +kernel
theorem dX2_copyFrom_16 : decode cX2_copyFrom 16 = .ok (.aload_n 1, 1) := by decide +kernel
theorem dX2_copyFrom_17 : decode cX2_copyFrom 17 = .ok (.iload_n 2, 1) := by decide +kernel
theorem dX2_copyFrom_18 : decode cX2_copyFrom 18 = .ok (.bipush 64, 2) := by decide +kernel
theorem dX2_copyFrom_20 : decode cX2_copyFrom 20 = .ok (.idiv, 1) := by decide +kernel
theorem dX2_copyFrom_21 : decode cX2_copyFrom 21 = .ok (.invokevirtual 15, 3) := by decide +kernel
theorem dX2_copyFrom_24 : decode cX2_copyFrom 24 = .ok (.iload_n 2, 1) := by decide +kernel
theorem dX2_copyFrom_25 : decode cX2_copyFrom 25 = .ok (.bipush 64, 2) := by decide +kernel
theorem dX2_copyFrom_27 : decode cX2_copyFrom 27 = .ok (.irem, 1) := by decide +kernel
theorem dX2_copyFrom_28 : decode cX2_copyFrom 28 = .ok (.invokevirtual 21, 3) := by decide +kernel
theorem dX2_copyFrom_31 : decode cX2_copyFrom 31 = .ok (.iastore, 1) := by decide +kernel
theorem dX2_copyFrom_32 : decode cX2_copyFrom 32 = .ok (.iinc 2 1, 3) := by decide +kernel
theorem dX2_copyFrom_35 : decode cX2_copyFrom 35 = .ok (.goto (-33), 3) := by decide +kernel
theorem dX2_copyFrom_38 : decode cX2_copyFrom 38 = .ok (.aload_n 0, 1) := by decide +kernel
theorem dX2_copyFrom_39 : decode cX2_copyFrom 39 = .ok (.aload_n 1, 1) := by decide +kernel
theorem dX2_copyFrom_40 : decode cX2_copyFrom 40 = .ok (.getfield 27, 3) := by decide +kernel
theorem dX2_copyFrom_43 : decode cX2_copyFrom 43 = .ok (.putfield 31, 3) := by decide +kernel
theorem dX2_copyFrom_46 : decode cX2_copyFrom 46 = .ok (.aload_n 0, 1) := by decide +kernel
theorem dX2_copyFrom_47 : decode cX2_copyFrom 47 = .ok (.aload_n 1, 1) := by decide +kernel
theorem dX2_copyFrom_48 : decode cX2_copyFrom 48 = .ok (.getfield 32, 3) := by decide +kernel
theorem dX2_copyFrom_51 : decode cX2_copyFrom 51 = .ok (.putfield 35, 3) := by decide +kernel
theorem dX2_copyFrom_54 : decode cX2_copyFrom 54 = .ok (.aload_n 0, 1) := by decide +kernel
theorem dX2_copyFrom_55 : decode cX2_copyFrom 55 = .ok (.iconst 1, 1) := by decide +kernel
theorem dX2_copyFrom_56 : decode cX2_copyFrom 56 = .ok (.putfield 36, 3) := by decide +kernel
theorem dX2_copyFrom_59 : decode cX2_copyFrom 59 = .ok (.return_, 1) := by decide +kernel
theorem dX2_copyTo_0 : decode cX2_copyTo 0 = .ok (.iconst 0, 1) := by decide +kernel
theorem dX2_copyTo_1 : decode cX2_copyTo 1 = .ok (.istore_n 2, 1) := by decide +kernel
theorem dX2_copyTo_2 : decode cX2_copyTo 2 = .ok (.iload_n 2, 1) := by decide +kernel
theorem dX2_copyTo_3 : decode cX2_copyTo 3 = .ok (.aload_n 0, 1) := by decide +kernel
theorem dX2_copyTo_4 : decode cX2_copyTo 4 = .ok (.getfield 9, 3) := by decide +kernel
theorem dX2_copyTo_7 : decode cX2_copyTo 7 = .ok (.arraylength, 1) := by decide +kernel
theorem dX2_copyTo_8 : decode cX2_copyTo 8 = .ok (.if_icmp .ge 30, 3) := by decide +kernel
theorem dX2_copyTo_11 : decode cX2_copyTo 11 = .ok (.aload_n 1, 1) := by decide +kernel
theorem dX2_copyTo_12 : decode cX2_copyTo 12 = .ok (.iload_n 2, 1) := by decide +kernel
theorem dX2_copyTo_13 : decode cX2_copyTo 13 = .ok (.bipush 64, 2) := by decide +kernel
theorem dX2_copyTo_15 : decode cX2_copyTo 15 = .ok (.idiv, 1) := by decide +kernel
theorem dX2_copyTo_16 : decode cX2_copyTo 16 = .ok (.invokevirtual 15, 3) := by decide +kernel
theorem dX2_copyTo_19 : decode cX2_copyTo 19 = .ok (.iload_n 2, 1) := by decide +kernel
theorem dX2_copyTo_20 : decode cX2_copyTo 20 = .ok (.bipush 64, 2) := by decide +kernel
theorem dX2_copyTo_22 : decode cX2_copyTo 22 = .ok (.irem, 1) := by decide +kernel
theorem dX2_copyTo_23 : decode cX2_copyTo 23 = .ok (.aload_n 0, 1) := by decide +kernel
theorem dX2_copyTo_24 : decode cX2_copyTo 24 = .ok (.getfield 9, 3) := by decide +kernel
theorem dX2_copyTo_27 : decode cX2_copyTo 27 = .ok (.iload_n 2, 1) := by decide +kernel
theorem dX2_copyTo_28 : decode cX2_copyTo 28 = .ok (.iaload, 1) := by decide +kernel
theorem dX2_copyTo_29 : decode cX2_copyTo 29 = .ok (.invokevirtual 40, 3) := by decide +kernel
theorem dX2_copyTo_32 : decode cX2_copyTo 32 = .ok (.iinc 2 1, 3) := by decide +kernel
theorem dX2_copyTo_35 : decode cX2_copyTo 35 = .ok (.goto (-33), 3) := by decide +kernel
theorem dX2_copyTo_38 : decode cX2_copyTo 38 = .ok (.aload_n 1, 1) := by decide +kernel
theorem dX2_copyTo_39 : decode cX2_copyTo 39 = .ok (.aload_n 0, 1) := by decide +kernel
theorem dX2_copyTo_40 : decode cX2_copyTo 40 = .ok (.getfield 31, 3) := by decide +kernel
theorem dX2_copyTo_43 : decode cX2_copyTo 43 = .ok (.putfield 27, 3) := by decide +kernel
theorem dX2_copyTo_46 : decode cX2_copyTo 46 = .ok (.aload_n 1, 1) := by decide +kernel
theorem dX2_copyTo_47 : decode cX2_copyTo 47 = .ok (.aload_n 0, 1) := by decide +kernel
theorem dX2_copyTo_48 : decode cX2_copyTo 48 = .ok (.getfield 35, 3) := by decide +kernel
theorem dX2_copyTo_51 : decode cX2_copyTo 51 = .ok (.putfield 32, 3) := by decide +kernel
theorem dX2_copyTo_54 : decode cX2_copyTo 54 = .ok (.return_, 1) := by decide +kernel
theorem dX3_init_0 : decode cX3_init 0 = .ok (.aload_n 0, 1) := by decide +kernel
theorem dX3_init_1 : decode cX3_init 1 = .ok (.invokespecial 3, 3) := by decide +kernel
theorem dX3_init_4 : decode cX3_init 4 = .ok (.aload_n 0, 1) := by decide +kernel
theorem dX3_init_5 : decode cX3_init 5 = .ok (.bipush 8, 2) := by decide +kernel
theorem dX3_init_7 : decode cX3_init 7 = .ok (.newarray .int, 2) := by decide +kernel
theorem dX3_init_9 : decode cX3_init 9 = .ok (.putfield 9, 3) := by decide +kernel
theorem dX3_init_12 : decode cX3_init 12 = .ok (.return_, 1) := by decide +kernel
theorem dX3_empty_0 : decode cX3_empty 0 = .ok (.aload_n 0, 1) := by decide +kernel
theorem dX3_empty_1 : decode cX3_empty 1 = .ok (.iconst 0, 1) := by decide +kernel
theorem dX3_empty_2 : decode cX3_empty 2 = .ok (.putfield 15, 3) := by decide +kernel
theorem dX3_empty_5 : decode cX3_empty 5 = .ok (.return_, 1) := by decide +kernel
theorem dX3_add_0 : decode cX3_add 0 = .ok (.aload_n 0, 1) := by decide +kernel
theorem dX3_add_1 : decode cX3_add 1 = .ok (.getfield 15, 3) := by decide +kernel
theorem dX3_add_4 : decode cX3_add 4 = .ok (.ifCond .lt 35, 3) := by decide +kernel
theorem dX3_add_7 : decode cX3_add 7 = .ok (.aload_n 0, 1) := by decide +kernel
theorem dX3_add_8 : decode cX3_add 8 = .ok (.getfield 15, 3) := by decide +kernel
theorem dX3_add_11 : decode cX3_add 11 = .ok (.aload_n 0, 1) := by decide +kernel
theorem dX3_add_12 : decode cX3_add 12 = .ok (.getfield 9, 3) := by decide +kernel
theorem dX3_add_15 : decode cX3_add 15 = .ok (.arraylength, 1) := by decide +kernel
theorem dX3_add_16 : decode cX3_add 16 = .ok (.if_icmp .ge 23, 3) := by decide +kernel
theorem dX3_add_19 : decode cX3_add 19 = .ok (.aload_n 0, 1) := by decide +kernel
theorem dX3_add_20 : decode cX3_add 20 = .ok (.getfield 9, 3) := by decide +kernel
theorem dX3_add_23 : decode cX3_add 23 = .ok (.aload_n 0, 1) := by decide +kernel
theorem dX3_add_24 : decode cX3_add 24 = .ok (.getfield 15, 3) := by decide +kernel
theorem dX3_add_27 : decode cX3_add 27 = .ok (.iload_n 1, 1) := by decide +kernel
theorem dX3_add_28 : decode cX3_add 28 = .ok (.iastore, 1) := by decide +kernel
theorem dX3_add_29 : decode cX3_add 29 = .ok (.aload_n 0, 1) := by decide +kernel
theorem dX3_add_30 : decode cX3_add 30 = .ok (.dup, 1) := by decide +kernel
theorem dX3_add_31 : decode cX3_add 31 = .ok (.getfield 15, 3) := by decide +kernel
theorem dX3_add_34 : decode cX3_add 34 = .ok (.iconst 1, 1) := by decide +kernel
theorem dX3_add_35 : decode cX3_add 35 = .ok (.iadd, 1) := by decide +kernel
theorem dX3_add_36 : decode cX3_add 36 = .ok (.putfield 15, 3) := by decide +kernel
theorem dX3_add_39 : decode cX3_add 39 = .ok (.return_, 1) := by decide +kernel
theorem dX3_at_0 : decode cX3_at 0 = .ok (.iload_n 1, 1) := by decide +kernel
theorem dX3_at_1 : decode cX3_at 1 = .ok (.ifCond .lt 29, 3) := by decide +kernel
theorem dX3_at_4 : decode cX3_at 4 = .ok (.iload_n 1, 1) := by decide +kernel
theorem dX3_at_5 : decode cX3_at 5 = .ok (.aload_n 0, 1) := by decide +kernel
theorem dX3_at_6 : decode cX3_at 6 = .ok (.getfield 15, 3) := by decide +kernel
theorem dX3_at_9 : decode cX3_at 9 = .ok (.if_icmp .ge 21, 3) := by decide +kernel
theorem dX3_at_12 : decode cX3_at 12 = .ok (.iload_n 1, 1) := by decide +kernel
theorem dX3_at_13 : decode cX3_at 13 = .ok (.aload_n 0, 1) := by decide +kernel
theorem dX3_at_14 : decode cX3_at 14 = .ok (.getfield 9, 3) := by decide +kernel
theorem dX3_at_17 : decode cX3_at 17 = .ok (.arraylength, 1) := by decide +kernel
theorem dX3_at_18 : decode cX3_at 18 = .ok (.if_icmp .ge 12, 3) := by decide +kernel
theorem dX3_at_21 : decode cX3_at 21 = .ok (.aload_n 0, 1) := by decide +kernel
theorem dX3_at_22 : decode cX3_at 22 = .ok (.getfield 9, 3) := by decide +kernel
theorem dX3_at_25 : decode cX3_at 25 = .ok (.iload_n 1, 1) := by decide +kernel
theorem dX3_at_26 : decode cX3_at 26 = .ok (.iaload, 1) := by decide +kernel
theorem dX3_at_27 : decode cX3_at 27 = .ok (.goto 4, 3) := by decide +kernel
theorem dX3_at_30 : decode cX3_at 30 = .ok (.iconst 0, 1) := by decide +kernel
theorem dX3_at_31 : decode cX3_at 31 = .ok (.ireturn, 1) := by decide +kernel
theorem dX3_copyFrom_0 : decode cX3_copyFrom 0 = .ok (.aload_n 0, 1) := by decide +kernel
theorem dX3_copyFrom_1 : decode cX3_copyFrom 1 = .ok (.invokevirtual 19, 3) := by decide +kernel
theorem dX3_copyFrom_4 : decode cX3_copyFrom 4 = .ok (.iconst 0, 1) := by decide +kernel
theorem dX3_copyFrom_5 : decode cX3_copyFrom 5 = .ok (.istore_n 2, 1) := by decide +kernel
theorem dX3_copyFrom_6 : decode cX3_copyFrom 6 = .ok (.iload_n 2, 1) := by decide +kernel
theorem dX3_copyFrom_7 : decode cX3_copyFrom 7 = .ok (.aload_n 1, 1) := by decide +kernel
theorem dX3_copyFrom_8 : decode cX3_copyFrom 8 = .ok (.getfield 15, 3) := by decide +kernel
theorem dX3_copyFrom_11 : decode cX3_copyFrom 11 = .ok (.if_icmp .ge 18, 3) := by decide +kernel
theorem dX3_copyFrom_14 : decode cX3_copyFrom 14 = .ok (.aload_n 0, 1) := by decide +kernel
theorem dX3_copyFrom_15 : decode cX3_copyFrom 15 = .ok (.aload_n 1, 1) := by decide +kernel
theorem dX3_copyFrom_16 : decode cX3_copyFrom 16 = .ok (.iload_n 2, 1) := by decide +kernel
theorem dX3_copyFrom_17 : decode cX3_copyFrom 17 = .ok (.invokevirtual 22, 3) := by decide +kernel
theorem dX3_copyFrom_20 : decode cX3_copyFrom 20 = .ok (.invokevirtual 26, 3) := by decide +kernel
theorem dX3_copyFrom_23 : decode cX3_copyFrom 23 = .ok (.iinc 2 1, 3) := by decide +kernel
theorem dX3_copyFrom_26 : decode cX3_copyFrom 26 = .ok (.goto (-20), 3) := by decide +kernel
theorem dX3_copyFrom_29 : decode cX3_copyFrom 29 = .ok (.return_, 1) := by decide +kernel
theorem dX3_spell_0 : decode cX3_spell 0 = .ok (.aload_n 0, 1) := by decide +kernel
theorem dX3_spell_1 : decode cX3_spell 1 = .ok (.iconst 0, 1) := by decide +kernel
theorem dX3_spell_2 : decode cX3_spell 2 = .ok (.iload_n 2, 1) := by decide +kernel
theorem dX3_spell_3 : decode cX3_spell 3 = .ok (.aload_n 0, 1) := by decide +kernel
theorem dX3_spell_4 : decode cX3_spell 4 = .ok (.getfield 9, 3) := by decide +kernel
theorem dX3_spell_7 : decode cX3_spell 7 = .ok (.arraylength, 1) := by decide +kernel
theorem dX3_spell_8 : decode cX3_spell 8 = .ok (.invokestatic 30, 3) := by decide +kernel
theorem dX3_spell_11 : decode cX3_spell 11 = .ok (.invokestatic 36, 3) := by decide +kernel
theorem dX3_spell_14 : decode cX3_spell 14 = .ok (.putfield 15, 3) := by decide +kernel
theorem dX3_spell_17 : decode cX3_spell 17 = .ok (.iload_n 1, 1) := by decide +kernel
theorem dX3_spell_18 : decode cX3_spell 18 = .ok (.istore_n 3, 1) := by decide +kernel
theorem dX3_spell_19 : decode cX3_spell 19 = .ok (.aload_n 0, 1) := by decide +kernel
theorem dX3_spell_20 : decode cX3_spell 20 = .ok (.getfield 15, 3) := by decide +kernel
theorem dX3_spell_23 : decode cX3_spell 23 = .ok (.iconst 1, 1) := by decide +kernel
theorem dX3_spell_24 : decode cX3_spell 24 = .ok (.isub, 1) := by decide +kernel
theorem dX3_spell_25 : decode cX3_spell 25 = .ok (.istore 4, 2) := by decide +kernel
theorem dX3_spell_27 : decode cX3_spell 27 = .ok (.iload 4, 2) := by decide +kernel
theorem dX3_spell_29 : decode cX3_spell 29 = .ok (.ifCond .lt 28, 3) := by decide +kernel
theorem dX3_spell_32 : decode cX3_spell 32 = .ok (.aload_n 0, 1) := by decide +kernel
theorem dX3_spell_33 : decode cX3_spell 33 = .ok (.getfield 9, 3) := by decide +kernel
theorem dX3_spell_36 : decode cX3_spell 36 = .ok (.iload 4, 2) := by decide +kernel
theorem dX3_spell_38 : decode cX3_spell 38 = .ok (.bipush 97, 2) := by decide +kernel
theorem dX3_spell_40 : decode cX3_spell 40 = .ok (.iload_n 3, 1) := by decide +kernel
theorem dX3_spell_41 : decode cX3_spell 41 = .ok (.bipush 26, 2) := by decide +kernel
theorem dX3_spell_43 : decode cX3_spell 43 = .ok (.irem, 1) := by decide +kernel
theorem dX3_spell_44 : decode cX3_spell 44 = .ok (.iadd, 1) := by decide +kernel
theorem dX3_spell_45 : decode cX3_spell 45 = .ok (.iastore, 1) := by decide +kernel
theorem dX3_spell_46 : decode cX3_spell 46 = .ok (.iload_n 3, 1) := by decide +kernel
theorem dX3_spell_47 : decode cX3_spell 47 = .ok (.bipush 26, 2) := by decide +kernel
theorem dX3_spell_49 : decode cX3_spell 49 = .ok (.idiv, 1) := by decide +kernel
theorem dX3_spell_50 : decode cX3_spell 50 = .ok (.istore_n 3, 1) := by decide +kernel
theorem dX3_spell_51 : decode cX3_spell 51 = .ok (.iinc 4 (-1), 3) := by decide +kernel
theorem dX3_spell_54 : decode cX3_spell 54 = .ok (.goto (-27), 3) := by decide +kernel
theorem dX3_spell_57 : decode cX3_spell 57 = .ok (.return_, 1) := by decide +kernel
theorem dX3_cutAbove_0 : decode cX3_cutAbove 0 = .ok (.iconst 0, 1) := by decide +kernel
theorem dX3_cutAbove_1 : decode cX3_cutAbove 1 = .ok (.istore_n 2, 1) := by decide +kernel
theorem dX3_cutAbove_2 : decode cX3_cutAbove 2 = .ok (.iload_n 2, 1) := by decide +kernel
theorem dX3_cutAbove_3 : decode cX3_cutAbove 3 = .ok (.aload_n 0, 1) := by decide +kernel
theorem dX3_cutAbove_4 : decode cX3_cutAbove 4 = .ok (.getfield 15, 3) := by decide +kernel
theorem dX3_cutAbove_7 : decode cX3_cutAbove 7 = .ok (.if_icmp .ge 22, 3) := by decide +kernel
theorem dX3_cutAbove_10 : decode cX3_cutAbove 10 = .ok (.aload_n 0, 1) := by decide +kernel
theorem dX3_cutAbove_11 : decode cX3_cutAbove 11 = .ok (.iload_n 2, 1) := by decide +kernel
theorem dX3_cutAbove_12 : decode cX3_cutAbove 12 = .ok (.invokevirtual 22, 3) := by decide +kernel
theorem dX3_cutAbove_15 : decode cX3_cutAbove 15 = .ok (.aload_n 1, 1) := by decide +kernel
theorem dX3_cutAbove_16 : decode cX3_cutAbove 16 = .ok (.iload_n 2, 1) := by decide +kernel
theorem dX3_cutAbove_17 : decode cX3_cutAbove 17 = .ok (.invokevirtual 22, 3) := by decide +kernel
theorem dX3_cutAbove_20 : decode cX3_cutAbove 20 = .ok (.if_icmp .ne 9, 3) := by decide +kernel
theorem dX3_cutAbove_23 : decode cX3_cutAbove 23 = .ok (.iinc 2 1, 3) := by decide +kernel
theorem dX3_cutAbove_26 : decode cX3_cutAbove 26 = .ok (.goto (-24), 3) := by decide +kernel
theorem dX3_cutAbove_29 : decode cX3_cutAbove 29 = .ok (.aload_n 0, 1) := by decide +kernel
theorem dX3_cutAbove_30 : decode cX3_cutAbove 30 = .ok (.aload_n 0, 1) := by decide +kernel
theorem dX3_cutAbove_31 : decode cX3_cutAbove 31 = .ok (.getfield 15, 3) := by decide +kernel
theorem dX3_cutAbove_34 : decode cX3_cutAbove 34 = .ok (.iload_n 2, 1) := by decide +kernel
theorem dX3_cutAbove_35 : decode cX3_cutAbove 35 = .ok (.iconst 1, 1) := by decide +kernel
theorem dX3_cutAbove_36 : decode cX3_cutAbove 36 = .ok (.iadd, 1) := by decide +kernel
theorem dX3_cutAbove_37 : decode cX3_cutAbove 37 = .ok (.invokestatic 30, 3) := by decide +kernel
theorem dX3_cutAbove_40 : decode cX3_cutAbove 40 = .ok (.putfield 15, 3) := by decide +kernel
theorem dX3_cutAbove_43 : decode cX3_cutAbove 43 = .ok (.return_, 1) := by decide +kernel
end
section
theorem dX4_init_0 : decode cX4_init 0 = .ok (.aload_n 0, 1) := by decide +kernel
theorem dX4_init_1 : decode cX4_init 1 = .ok (.invokespecial 3, 3) := by decide +kernel
theorem dX4_init_4 : decode cX4_init 4 = .ok (.aload_n 0, 1) := by decide +kernel
theorem dX4_init_5 : decode cX4_init 5 = .ok (.iload_n 1, 1) := by decide +kernel
theorem dX4_init_6 : decode cX4_init 6 = .ok (.bipush 64, 2) := by decide +kernel
theorem dX4_init_8 : decode cX4_init 8 = .ok (.invokestatic 9, 3) := by decide +kernel
theorem dX4_init_11 : decode cX4_init 11 = .ok (.newarray .int, 2) := by decide +kernel
theorem dX4_init_13 : decode cX4_init 13 = .ok (.putfield 15, 3) := by decide +kernel
theorem dX4_init_16 : decode cX4_init 16 = .ok (.return_, 1) := by decide +kernel
theorem dX4_at_0 : decode cX4_at 0 = .ok (.iload_n 1, 1) := by decide +kernel
theorem dX4_at_1 : decode cX4_at 1 = .ok (.ifCond .lt 21, 3) := by decide +kernel
theorem dX4_at_4 : decode cX4_at 4 = .ok (.iload_n 1, 1) := by decide +kernel
theorem dX4_at_5 : decode cX4_at 5 = .ok (.aload_n 0, 1) := by decide +kernel
theorem dX4_at_6 : decode cX4_at 6 = .ok (.getfield 15, 3) := by decide +kernel
theorem dX4_at_9 : decode cX4_at 9 = .ok (.arraylength, 1) := by decide +kernel
theorem dX4_at_10 : decode cX4_at 10 = .ok (.if_icmp .ge 12, 3) := by decide +kernel
theorem dX4_at_13 : decode cX4_at 13 = .ok (.aload_n 0, 1) := by decide +kernel
theorem dX4_at_14 : decode cX4_at 14 = .ok (.getfield 15, 3) := by decide +kernel
theorem dX4_at_17 : decode cX4_at 17 = .ok (.iload_n 1, 1) := by decide +kernel
theorem dX4_at_18 : decode cX4_at 18 = .ok (.iaload, 1) := by decide +kernel
theorem dX4_at_19 : decode cX4_at 19 = .ok (.goto 4, 3) := by decide +kernel
theorem dX4_at_22 : decode cX4_at 22 = .ok (.iconst 0, 1) := by decide +kernel
theorem dX4_at_23 : decode cX4_at 23 = .ok (.ireturn, 1) := by decide +kernel
theorem dX4_set_0 : decode cX4_set 0 = .ok (.iload_n 1, 1) := by decide +kernel
theorem dX4_set_1 : decode cX4_set 1 = .ok (.ifCond .lt 19, 3) := by decide +kernel
theorem dX4_set_4 : decode cX4_set 4 = .ok (.iload_n 1, 1) := by decide +kernel
theorem dX4_set_5 : decode cX4_set 5 = .ok (.aload_n 0, 1) := by decide +kernel
theorem dX4_set_6 : decode cX4_set 6 = .ok (.getfield 15, 3) := by decide +kernel
theorem dX4_set_9 : decode cX4_set 9 = .ok (.arraylength, 1) := by decide +kernel
theorem dX4_set_10 : decode cX4_set 10 = .ok (.if_icmp .ge 10, 3) := by decide +kernel
theorem dX4_set_13 : decode cX4_set 13 = .ok (.aload_n 0, 1) := by decide +kernel
theorem dX4_set_14 : decode cX4_set 14 = .ok (.getfield 15, 3) := by decide +kernel
theorem dX4_set_17 : decode cX4_set 17 = .ok (.iload_n 1, 1) := by decide +kernel
theorem dX4_set_18 : decode cX4_set 18 = .ok (.iload_n 2, 1) := by decide +kernel
theorem dX4_set_19 : decode cX4_set 19 = .ok (.iastore, 1) := by decide +kernel
theorem dX4_set_20 : decode cX4_set 20 = .ok (.return_, 1) := by decide +kernel
theorem dX4_sort_0 : decode cX4_sort 0 = .ok (.aload_n 0, 1) := by decide +kernel
theorem dX4_sort_1 : decode cX4_sort 1 = .ok (.getfield 15, 3) := by decide +kernel
theorem dX4_sort_4 : decode cX4_sort 4 = .ok (.iconst 0, 1) := by decide +kernel
theorem dX4_sort_5 : decode cX4_sort 5 = .ok (.iaload, 1) := by decide +kernel
theorem dX4_sort_6 : decode cX4_sort 6 = .ok (.ireturn, 1) := by decide +kernel
theorem dX4_entries_0 : decode cX4_entries 0 = .ok (.aload_n 0, 1) := by decide +kernel
theorem dX4_entries_1 : decode cX4_entries 1 = .ok (.getfield 15, 3) := by decide +kernel
theorem dX4_entries_4 : decode cX4_entries 4 = .ok (.iconst 1, 1) := by decide +kernel
theorem dX4_entries_5 : decode cX4_entries 5 = .ok (.iaload, 1) := by decide +kernel
theorem dX4_entries_6 : decode cX4_entries 6 = .ok (.ireturn, 1) := by decide +kernel
theorem dX4_link_0 : decode cX4_link 0 = .ok (.aload_n 0, 1) := by decide +kernel
theorem dX4_link_1 : decode cX4_link 1 = .ok (.getfield 15, 3) := by decide +kernel
theorem dX4_link_4 : decode cX4_link 4 = .ok (.iconst 2, 1) := by decide +kernel
theorem dX4_link_5 : decode cX4_link 5 = .ok (.iaload, 1) := by decide +kernel
theorem dX4_link_6 : decode cX4_link 6 = .ok (.ireturn, 1) := by decide +kernel
theorem dX4_setLink_0 : decode cX4_setLink 0 = .ok (.aload_n 0, 1) := by decide +kernel
theorem dX4_setLink_1 : decode cX4_setLink 1 = .ok (.getfield 15, 3) := by decide +kernel
theorem dX4_setLink_4 : decode cX4_setLink 4 = .ok (.iconst 2, 1) := by decide +kernel
theorem dX4_setLink_5 : decode cX4_setLink 5 = .ok (.iload_n 1, 1) := by decide +kernel
theorem dX4_setLink_6 : decode cX4_setLink 6 = .ok (.iastore, 1) := by decide +kernel
theorem dX4_setLink_7 : decode cX4_setLink 7 = .ok (.return_, 1) := by decide +kernel
theorem dX4_offset_0 : decode cX4_offset 0 = .ok (.iconst 3, 1) := by decide +kernel
theorem dX4_offset_1 : decode cX4_offset 1 = .ok (.istore_n 2, 1) := by decide +kernel
theorem dX4_offset_2 : decode cX4_offset 2 = .ok (.iconst 0, 1) := by decide +kernel
theorem dX4_offset_3 : decode cX4_offset 3 = .ok (.istore_n 3, 1) := by decide +kernel
theorem dX4_offset_4 : decode cX4_offset 4 = .ok (.iload_n 3, 1) := by decide +kernel
theorem dX4_offset_5 : decode cX4_offset 5 = .ok (.iload_n 1, 1) := by decide +kernel
theorem dX4_offset_6 : decode cX4_offset 6 = .ok (.if_icmp .ge 29, 3) := by decide +kernel
theorem dX4_offset_9 : decode cX4_offset 9 = .ok (.iload_n 2, 1) := by decide +kernel
theorem dX4_offset_10 : decode cX4_offset 10 = .ok (.aload_n 0, 1) := by decide +kernel
theorem dX4_offset_11 : decode cX4_offset 11 = .ok (.getfield 15, 3) := by decide +kernel
theorem dX4_offset_14 : decode cX4_offset 14 = .ok (.arraylength, 1) := by decide +kernel
theorem dX4_offset_15 : decode cX4_offset 15 = .ok (.if_icmp .ge 20, 3) := by decide +kernel
theorem dX4_offset_18 : decode cX4_offset 18 = .ok (.iload_n 2, 1) := by decide +kernel
theorem dX4_offset_19 : decode cX4_offset 19 = .ok (.aload_n 0, 1) := by decide +kernel
theorem dX4_offset_20 : decode cX4_offset 20 = .ok (.getfield 15, 3) := by decide +kernel
theorem dX4_offset_23 : decode cX4_offset 23 = .ok (.iload_n 2, 1) := by decide +kernel
theorem dX4_offset_24 : decode cX4_offset 24 = .ok (.iaload, 1) := by decide +kernel
theorem dX4_offset_25 : decode cX4_offset 25 = .ok (.iconst 2, 1) := by decide +kernel
theorem dX4_offset_26 : decode cX4_offset 26 = .ok (.iadd, 1) := by decide +kernel
theorem dX4_offset_27 : decode cX4_offset 27 = .ok (.iadd, 1) := by decide +kernel
theorem dX4_offset_28 : decode cX4_offset 28 = .ok (.istore_n 2, 1) := by decide +kernel
theorem dX4_offset_29 : decode cX4_offset 29 = .ok (.iinc 3 1, 3) := by decide +kernel
theorem dX4_offset_32 : decode cX4_offset 32 = .ok (.goto (-28), 3) := by decide +kernel
theorem dX4_offset_35 : decode cX4_offset 35 = .ok (.iload_n 2, 1) := by decide +kernel
theorem dX4_offset_36 : decode cX4_offset 36 = .ok (.ireturn, 1) := by decide +kernel
theorem dX4_used_0 : decode cX4_used 0 = .ok (.aload_n 0, 1) := by decide +kernel
theorem dX4_used_1 : decode cX4_used 1 = .ok (.invokevirtual 21, 3) := by decide +kernel
theorem dX4_used_4 : decode cX4_used 4 = .ok (.ifCond .ne 7, 3) := by decide +kernel
theorem dX4_used_7 : decode cX4_used 7 = .ok (.iconst 0, 1) := by decide +kernel
theorem dX4_used_8 : decode cX4_used 8 = .ok (.goto 11, 3) := by decide +kernel
theorem dX4_used_11 : decode cX4_used 11 = .ok (.aload_n 0, 1) := by decide +kernel
theorem dX4_used_12 : decode cX4_used 12 = .ok (.aload_n 0, 1) := by decide +kernel
theorem dX4_used_13 : decode cX4_used 13 = .ok (.invokevirtual 25, 3) := by decide +kernel
theorem dX4_used_16 : decode cX4_used 16 = .ok (.invokevirtual 28, 3) := by decide +kernel
theorem dX4_used_19 : decode cX4_used 19 = .ok (.ireturn, 1) := by decide +kernel
theorem dX4_letters_0 : decode cX4_letters 0 = .ok (.aload_n 0, 1) := by decide +kernel
theorem dX4_letters_1 : decode cX4_letters 1 = .ok (.aload_n 0, 1) := by decide +kernel
theorem dX4_letters_2 : decode cX4_letters 2 = .ok (.iload_n 1, 1) := by decide +kernel
theorem dX4_letters_3 : decode cX4_letters 3 = .ok (.invokevirtual 28, 3) := by decide +kernel
theorem dX4_letters_6 : decode cX4_letters 6 = .ok (.invokevirtual 32, 3) := by decide +kernel
theorem dX4_letters_9 : decode cX4_letters 9 = .ok (.ireturn, 1) := by decide +kernel
theorem dX4_letterOf_0 : decode cX4_letterOf 0 = .ok (.aload_n 0, 1) := by decide +kernel
theorem dX4_letterOf_1 : decode cX4_letterOf 1 = .ok (.iload_n 1, 1) := by decide +kernel
theorem dX4_letterOf_2 : decode cX4_letterOf 2 = .ok (.invokevirtual 28, 3) := by decide +kernel
theorem dX4_letterOf_5 : decode cX4_letterOf 5 = .ok (.istore_n 3, 1) := by decide +kernel
theorem dX4_letterOf_6 : decode cX4_letterOf 6 = .ok (.iload_n 2, 1) := by decide +kernel
theorem dX4_letterOf_7 : decode cX4_letterOf 7 = .ok (.ifCond .lt 24, 3) := by decide +kernel
theorem dX4_letterOf_10 : decode cX4_letterOf 10 = .ok (.iload_n 2, 1) := by decide +kernel
theorem dX4_letterOf_11 : decode cX4_letterOf 11 = .ok (.aload_n 0, 1) := by decide +kernel
theorem dX4_letterOf_12 : decode cX4_letterOf 12 = .ok (.iload_n 3, 1) := by decide +kernel
theorem dX4_letterOf_13 : decode cX4_letterOf 13 = .ok (.invokevirtual 32, 3) := by decide +kernel
theorem dX4_letterOf_16 : decode cX4_letterOf 16 = .ok (.if_icmp .ge 15, 3) := by decide +kernel
theorem dX4_letterOf_19 : decode cX4_letterOf 19 = .ok (.aload_n 0, 1) := by decide +kernel
theorem dX4_letterOf_20 : decode cX4_letterOf 20 = .ok (.iload_n 3, 1) := by decide +kernel
theorem dX4_letterOf_21 : decode cX4_letterOf 21 = .ok (.iconst 1, 1) := by decide +kernel
theorem dX4_letterOf_22 : decode cX4_letterOf 22 = .ok (.iadd, 1) := by decide +kernel
theorem dX4_letterOf_23 : decode cX4_letterOf 23 = .ok (.iload_n 2, 1) := by decide +kernel
theorem dX4_letterOf_24 : decode cX4_letterOf 24 = .ok (.iadd, 1) := by decide +kernel
theorem dX4_letterOf_25 : decode cX4_letterOf 25 = .ok (.invokevirtual 32, 3) := by decide +kernel
theorem dX4_letterOf_28 : decode cX4_letterOf 28 = .ok (.goto 4, 3) := by decide +kernel
theorem dX4_letterOf_31 : decode cX4_letterOf 31 = .ok (.iconst 0, 1) := by decide +kernel
theorem dX4_letterOf_32 : decode cX4_letterOf 32 = .ok (.ireturn, 1) := by decide +kernel
theorem dX4_tail_0 : decode cX4_tail 0 = .ok (.aload_n 0, 1) := by decide +kernel
theorem dX4_tail_1 : decode cX4_tail 1 = .ok (.aload_n 0, 1) := by decide +kernel
theorem dX4_tail_2 : decode cX4_tail 2 = .ok (.iload_n 1, 1) := by decide +kernel
theorem dX4_tail_3 : decode cX4_tail 3 = .ok (.iconst 1, 1) := by decide +kernel
theorem dX4_tail_4 : decode cX4_tail 4 = .ok (.iadd, 1) := by decide +kernel
theorem dX4_tail_5 : decode cX4_tail 5 = .ok (.invokevirtual 28, 3) := by decide +kernel
theorem dX4_tail_8 : decode cX4_tail 8 = .ok (.iconst 1, 1) := by decide +kernel
theorem dX4_tail_9 : decode cX4_tail 9 = .ok (.isub, 1) := by decide +kernel
theorem dX4_tail_10 : decode cX4_tail 10 = .ok (.invokevirtual 32, 3) := by decide +kernel
theorem dX4_tail_13 : decode cX4_tail 13 = .ok (.ireturn, 1) := by decide +kernel
theorem dX4_setTail_0 : decode cX4_setTail 0 = .ok (.aload_n 0, 1) := by decide +kernel
theorem dX4_setTail_1 : decode cX4_setTail 1 = .ok (.aload_n 0, 1) := by decide +kernel
theorem dX4_setTail_2 : decode cX4_setTail 2 = .ok (.iload_n 1, 1) := by decide +kernel
theorem dX4_setTail_3 : decode cX4_setTail 3 = .ok (.iconst 1, 1) := by decide +kernel
theorem dX4_setTail_4 : decode cX4_setTail 4 = .ok (.iadd, 1) := by decide +kernel
theorem dX4_setTail_5 : decode cX4_setTail 5 = .ok (.invokevirtual 28, 3) := by decide +kernel
theorem dX4_setTail_8 : decode cX4_setTail 8 = .ok (.iconst 1, 1) := by decide +kernel
theorem dX4_setTail_9 : decode cX4_setTail 9 = .ok (.isub, 1) := by decide +kernel
theorem dX4_setTail_10 : decode cX4_setTail 10 = .ok (.iload_n 2, 1) := by decide +kernel
theorem dX4_setTail_11 : decode cX4_setTail 11 = .ok (.invokevirtual 35, 3) := by decide +kernel
theorem dX4_setTail_14 : decode cX4_setTail 14 = .ok (.return_, 1) := by decide +kernel
theorem dX4_child_0 : decode cX4_child 0 = .ok (.iload_n 1, 1) := by decide +kernel
theorem dX4_child_1 : decode cX4_child 1 = .ok (.ifCond .le 17, 3) := by decide +kernel
theorem dX4_child_4 : decode cX4_child 4 = .ok (.aload_n 0, 1) := by decide +kernel
theorem dX4_child_5 : decode cX4_child 5 = .ok (.aload_n 0, 1) := by decide +kernel
theorem dX4_child_6 : decode cX4_child 6 = .ok (.iload_n 1, 1) := by decide +kernel
theorem dX4_child_7 : decode cX4_child 7 = .ok (.invokevirtual 28, 3) := by decide +kernel
theorem dX4_child_10 : decode cX4_child 10 = .ok (.iconst 1, 1) := by decide +kernel
theorem dX4_child_11 : decode cX4_child 11 = .ok (.isub, 1) := by decide +kernel
theorem dX4_child_12 : decode cX4_child 12 = .ok (.invokevirtual 32, 3) := by decide +kernel
theorem dX4_child_15 : decode cX4_child 15 = .ok (.goto 7, 3) := by decide +kernel
theorem dX4_child_18 : decode cX4_child 18 = .ok (.aload_n 0, 1) := by decide +kernel
theorem dX4_child_19 : decode cX4_child 19 = .ok (.invokevirtual 39, 3) := by decide +kernel
theorem dX4_child_22 : decode cX4_child 22 = .ok (.ireturn, 1) := by decide +kernel
theorem dX4_readKey_0 : decode cX4_readKey 0 = .ok (.aload_n 0, 1) := by decide +kernel
theorem dX4_readKey_1 : decode cX4_readKey 1 = .ok (.iload_n 1, 1) := by decide +kernel
theorem dX4_readKey_2 : decode cX4_readKey 2 = .ok (.invokevirtual 28, 3) := by decide +kernel
theorem dX4_readKey_5 : decode cX4_readKey 5 = .ok (.istore_n 3, 1) := by decide +kernel
theorem dX4_readKey_6 : decode cX4_readKey 6 = .ok (.aload_n 0, 1) := by decide +kernel
theorem dX4_readKey_7 : decode cX4_readKey 7 = .ok (.iload_n 3, 1) := by decide +kernel
theorem dX4_readKey_8 : decode cX4_readKey 8 = .ok (.invokevirtual 32, 3) := by decide +kernel
theorem dX4_readKey_11 : decode cX4_readKey 11 = .ok (.bipush 8, 2) := by decide +kernel
theorem dX4_readKey_13 : decode cX4_readKey 13 = .ok (.invokestatic 42, 3) := by decide +kernel
theorem dX4_readKey_16 : decode cX4_readKey 16 = .ok (.istore 4, 2) := by decide +kernel
theorem dX4_readKey_18 : decode cX4_readKey 18 = .ok (.aload_n 2, 1) := by decide +kernel
theorem dX4_readKey_19 : decode cX4_readKey 19 = .ok (.invokevirtual 45, 3) := by decide +kernel
theorem dX4_readKey_22 : decode cX4_readKey 22 = .ok (.iconst 1, 1) := by decide +kernel
theorem dX4_readKey_23 : decode cX4_readKey 23 = .ok (.istore 5, 2) := by decide +kernel
theorem dX4_readKey_25 : decode cX4_readKey 25 = .ok (.iload 5, 2) := by decide +kernel
theorem dX4_readKey_27 : decode cX4_readKey 27 = .ok (.iload 4, 2) := by decide +kernel
theorem dX4_readKey_29 : decode cX4_readKey 29 = .ok (.if_icmp .gt 21, 3) := by decide +kernel
theorem dX4_readKey_32 : decode cX4_readKey 32 = .ok (.aload_n 2, 1) := by decide +kernel
theorem dX4_readKey_33 : decode cX4_readKey 33 = .ok (.aload_n 0, 1) := by decide +kernel
theorem dX4_readKey_34 : decode cX4_readKey 34 = .ok (.iload_n 3, 1) := by decide +kernel
theorem dX4_readKey_35 : decode cX4_readKey 35 = .ok (.iload 5, 2) := by decide +kernel
theorem dX4_readKey_37 : decode cX4_readKey 37 = .ok (.iadd, 1) := by decide +kernel
theorem dX4_readKey_38 : decode cX4_readKey 38 = .ok (.invokevirtual 32, 3) := by decide +kernel
theorem dX4_readKey_41 : decode cX4_readKey 41 = .ok (.invokevirtual 50, 3) := by decide +kernel
theorem dX4_readKey_44 : decode cX4_readKey 44 = .ok (.iinc 5 1, 3) := by decide +kernel
theorem dX4_readKey_47 : decode cX4_readKey 47 = .ok (.goto (-22), 3) := by decide +kernel
theorem dX4_readKey_50 : decode cX4_readKey 50 = .ok (.return_, 1) := by decide +kernel
theorem dX4_compare_0 : decode cX4_compare 0 = .ok (.aload_n 0, 1) := by decide +kernel
theorem dX4_compare_1 : decode cX4_compare 1 = .ok (.iload_n 1, 1) := by decide +kernel
theorem dX4_compare_2 : decode cX4_compare 2 = .ok (.invokevirtual 28, 3) := by decide +kernel
theorem dX4_compare_5 : decode cX4_compare 5 = .ok (.istore_n 3, 1) := by decide +kernel
theorem dX4_compare_6 : decode cX4_compare 6 = .ok (.aload_n 0, 1) := by decide +kernel
theorem dX4_compare_7 : decode cX4_compare 7 = .ok (.iload_n 3, 1) := by decide +kernel
theorem dX4_compare_8 : decode cX4_compare 8 = .ok (.invokevirtual 32, 3) := by decide +kernel
theorem dX4_compare_11 : decode cX4_compare 11 = .ok (.istore 4, 2) := by decide +kernel
theorem dX4_compare_13 : decode cX4_compare 13 = .ok (.iconst 0, 1) := by decide +kernel
theorem dX4_compare_14 : decode cX4_compare 14 = .ok (.istore 5, 2) := by decide +kernel
theorem dX4_compare_16 : decode cX4_compare 16 = .ok (.iload 5, 2) := by decide +kernel
theorem dX4_compare_18 : decode cX4_compare 18 = .ok (.bipush 8, 2) := by decide +kernel
theorem dX4_compare_20 : decode cX4_compare 20 = .ok (.if_icmp .ge 60, 3) := by decide +kernel
theorem dX4_compare_23 : decode cX4_compare 23 = .ok (.iload 5, 2) := by decide +kernel
theorem dX4_compare_25 : decode cX4_compare 25 = .ok (.iload 4, 2) := by decide +kernel
theorem dX4_compare_27 : decode cX4_compare 27 = .ok (.if_icmp .ge 16, 3) := by decide +kernel
theorem dX4_compare_30 : decode cX4_compare 30 = .ok (.aload_n 0, 1) := by decide +kernel
theorem dX4_compare_31 : decode cX4_compare 31 = .ok (.iload_n 3, 1) := by decide +kernel
theorem dX4_compare_32 : decode cX4_compare 32 = .ok (.iconst 1, 1) := by decide +kernel
theorem dX4_compare_33 : decode cX4_compare 33 = .ok (.iadd, 1) := by decide +kernel
theorem dX4_compare_34 : decode cX4_compare 34 = .ok (.iload 5, 2) := by decide +kernel
theorem dX4_compare_36 : decode cX4_compare 36 = .ok (.iadd, 1) := by decide +kernel
theorem dX4_compare_37 : decode cX4_compare 37 = .ok (.invokevirtual 32, 3) := by decide +kernel
theorem dX4_compare_40 : decode cX4_compare 40 = .ok (.goto 4, 3) := by decide +kernel
theorem dX4_compare_43 : decode cX4_compare 43 = .ok (.iconst 0, 1) := by decide +kernel
theorem dX4_compare_44 : decode cX4_compare 44 = .ok (.istore 6, 2) := by decide +kernel
theorem dX4_compare_46 : decode cX4_compare 46 = .ok (.iload 6, 2) := by decide +kernel
theorem dX4_compare_48 : decode cX4_compare 48 = .ok (.aload_n 2, 1) := by decide +kernel
theorem dX4_compare_49 : decode cX4_compare 49 = .ok (.iload 5, 2) := by decide +kernel
theorem dX4_compare_51 : decode cX4_compare 51 = .ok (.invokevirtual 54, 3) := by decide +kernel
theorem dX4_compare_54 : decode cX4_compare 54 = .ok (.if_icmp .eq 20, 3) := by decide +kernel
theorem dX4_compare_57 : decode cX4_compare 57 = .ok (.iload 6, 2) := by decide +kernel
theorem dX4_compare_59 : decode cX4_compare 59 = .ok (.aload_n 2, 1) := by decide +kernel
theorem dX4_compare_60 : decode cX4_compare 60 = .ok (.iload 5, 2) := by decide +kernel
theorem dX4_compare_62 : decode cX4_compare 62 = .ok (.invokevirtual 54, 3) := by decide +kernel
theorem dX4_compare_65 : decode cX4_compare 65 = .ok (.if_icmp .ge 7, 3) := by decide +kernel
theorem dX4_compare_68 : decode cX4_compare 68 = .ok (.iconst (-1), 1) := by decide +kernel
theorem dX4_compare_69 : decode cX4_compare 69 = .ok (.goto 4, 3) := by decide +kernel
theorem dX4_compare_72 : decode cX4_compare 72 = .ok (.iconst 1, 1) := by decide +kernel
theorem dX4_compare_73 : decode cX4_compare 73 = .ok (.ireturn, 1) := by decide +kernel
theorem dX4_compare_74 : decode cX4_compare 74 = .ok (.iinc 5 1, 3) := by decide +kernel
theorem dX4_compare_77 : decode cX4_compare 77 = .ok (.goto (-61), 3) := by decide +kernel
theorem dX4_compare_80 : decode cX4_compare 80 = .ok (.iconst 0, 1) := by decide +kernel
theorem dX4_compare_81 : decode cX4_compare 81 = .ok (.ireturn, 1) := by decide +kernel
theorem dX4_isEntry_0 : decode cX4_isEntry 0 = .ok (.iload_n 1, 1) := by decide +kernel
theorem dX4_isEntry_1 : decode cX4_isEntry 1 = .ok (.aload_n 0, 1) := by decide +kernel
theorem dX4_isEntry_2 : decode cX4_isEntry 2 = .ok (.invokevirtual 25, 3) := by decide +kernel
theorem dX4_isEntry_5 : decode cX4_isEntry 5 = .ok (.if_icmp .ge 16, 3) := by decide +kernel
theorem dX4_isEntry_8 : decode cX4_isEntry 8 = .ok (.aload_n 0, 1) := by decide +kernel
theorem dX4_isEntry_9 : decode cX4_isEntry 9 = .ok (.iload_n 1, 1) := by decide +kernel
theorem dX4_isEntry_10 : decode cX4_isEntry 10 = .ok (.aload_n 2, 1) := by decide +kernel
theorem dX4_isEntry_11 : decode cX4_isEntry 11 = .ok (.invokevirtual 55, 3) := by decide +kernel
theorem dX4_isEntry_14 : decode cX4_isEntry 14 = .ok (.ifCond .ne 7, 3) := by decide +kernel
theorem dX4_isEntry_17 : decode cX4_isEntry 17 = .ok (.iconst 1, 1) := by decide +kernel
theorem dX4_isEntry_18 : decode cX4_isEntry 18 = .ok (.goto 4, 3) := by decide +kernel
theorem dX4_isEntry_21 : decode cX4_isEntry 21 = .ok (.iconst 0, 1) := by decide +kernel
theorem dX4_isEntry_22 : decode cX4_isEntry 22 = .ok (.ireturn, 1) := by decide +kernel
theorem dX4_entriesBelow_0 : decode cX4_entriesBelow 0 = .ok (.iconst 0, 1) := by decide +kernel
theorem dX4_entriesBelow_1 : decode cX4_entriesBelow 1 = .ok (.istore_n 3, 1) := by decide +kernel
theorem dX4_entriesBelow_2 : decode cX4_entriesBelow 2 = .ok (.iload_n 3, 1) := by decide +kernel
theorem dX4_entriesBelow_3 : decode cX4_entriesBelow 3 = .ok (.aload_n 0, 1) := by decide +kernel
theorem dX4_entriesBelow_4 : decode cX4_entriesBelow 4 = .ok (.invokevirtual 25, 3) := by decide +kernel
theorem dX4_entriesBelow_7 : decode cX4_entriesBelow 7 = .ok (.if_icmp .ge 27, 3) := by decide +kernel
theorem dX4_entriesBelow_10 : decode cX4_entriesBelow 10 = .ok (.aload_n 0, 1) := by decide +kernel
theorem dX4_entriesBelow_11 : decode cX4_entriesBelow 11 = .ok (.iload_n 3, 1) := by decide +kernel
theorem dX4_entriesBelow_12 : decode cX4_entriesBelow 12 = .ok (.aload_n 1, 1) := by decide +kernel
theorem dX4_entriesBelow_13 : decode cX4_entriesBelow 13 = .ok (.invokevirtual 55, 3) := by decide +kernel
theorem dX4_entriesBelow_16 : decode cX4_entriesBelow 16 = .ok (.iload_n 2, 1) := by decide +kernel
theorem dX4_entriesBelow_17 : decode cX4_entriesBelow 17 = .ok (.ifCond .eq 7, 3) := by decide +kernel
theorem dX4_entriesBelow_20 : decode cX4_entriesBelow 20 = .ok (.iconst 1, 1) := by decide +kernel
theorem dX4_entriesBelow_21 : decode cX4_entriesBelow 21 = .ok (.goto 4, 3) := by decide +kernel
theorem dX4_entriesBelow_24 : decode cX4_entriesBelow 24 = .ok (.iconst 0, 1) := by decide +kernel
theorem dX4_entriesBelow_25 : decode cX4_entriesBelow 25 = .ok (.if_icmp .ge 9, 3) := by decide +kernel
theorem dX4_entriesBelow_28 : decode cX4_entriesBelow 28 = .ok (.iinc 3 1, 3) := by decide +kernel
theorem dX4_entriesBelow_31 : decode cX4_entriesBelow 31 = .ok (.goto (-29), 3) := by decide +kernel
theorem dX4_entriesBelow_34 : decode cX4_entriesBelow 34 = .ok (.iload_n 3, 1) := by decide +kernel
theorem dX4_entriesBelow_35 : decode cX4_entriesBelow 35 = .ok (.ireturn, 1) := by decide +kernel
theorem dX4_entriesThatBegin_0 : decode cX4_entriesThatBegin 0 = .ok (.iconst 0, 1) := by decide +kernel
theorem dX4_entriesThatBegin_1 : decode cX4_entriesThatBegin 1 = .ok (.istore_n 2, 1) := by decide +kernel
theorem dX4_entriesThatBegin_2 : decode cX4_entriesThatBegin 2 = .ok (.iconst 0, 1) := by decide +kernel
theorem dX4_entriesThatBegin_3 : decode cX4_entriesThatBegin 3 = .ok (.istore_n 3, 1) := by decide +kernel
theorem dX4_entriesThatBegin_4 : decode cX4_entriesThatBegin 4 = .ok (.iload_n 3, 1) := by decide +kernel
theorem dX4_entriesThatBegin_5 : decode cX4_entriesThatBegin 5 = .ok (.aload_n 0, 1) := by decide +kernel
theorem dX4_entriesThatBegin_6 : decode cX4_entriesThatBegin 6 = .ok (.invokevirtual 25, 3) := by decide +kernel
theorem dX4_entriesThatBegin_9 : decode cX4_entriesThatBegin 9 = .ok (.if_icmp .ge 55, 3) := by decide +kernel
theorem dX4_entriesThatBegin_12 : decode cX4_entriesThatBegin 12 = .ok (.iconst 0, 1) := by decide +kernel
theorem dX4_entriesThatBegin_13 : decode cX4_entriesThatBegin 13 = .ok (.istore 4, 2) := by decide +kernel
theorem dX4_entriesThatBegin_15 : decode cX4_entriesThatBegin 15 = .ok (.iload 4, 2) := by decide +kernel
theorem dX4_entriesThatBegin_17 : decode cX4_entriesThatBegin 17 = .ok (.aload_n 1, 1) := by decide +kernel
theorem dX4_entriesThatBegin_18 : decode cX4_entriesThatBegin 18 = .ok (.getfield 59, 3) := by decide +kernel
theorem dX4_entriesThatBegin_21 : decode cX4_entriesThatBegin 21 = .ok (.if_icmp .ge 25, 3) := by decide +kernel
theorem dX4_entriesThatBegin_24 : decode cX4_entriesThatBegin 24 = .ok (.aload_n 0, 1) := by decide +kernel
theorem dX4_entriesThatBegin_25 : decode cX4_entriesThatBegin 25 = .ok (.iload_n 3, 1) := by decide +kernel
theorem dX4_entriesThatBegin_26 : decode cX4_entriesThatBegin 26 = .ok (.iload 4, 2) := by decide +kernel
theorem dX4_entriesThatBegin_28 : decode cX4_entriesThatBegin 28 = .ok (.invokevirtual 63, 3) := by decide +kernel
theorem dX4_entriesThatBegin_31 : decode cX4_entriesThatBegin 31 = .ok (.aload_n 1, 1) := by decide +kernel
theorem dX4_entriesThatBegin_32 : decode cX4_entriesThatBegin 32 = .ok (.iload 4, 2) := by decide +kernel
theorem dX4_entriesThatBegin_34 : decode cX4_entriesThatBegin 34 = .ok (.invokevirtual 54, 3) := by decide +kernel
theorem dX4_entriesThatBegin_37 : decode cX4_entriesThatBegin 37 = .ok (.if_icmp .ne 9, 3) := by decide +kernel
theorem dX4_entriesThatBegin_40 : decode cX4_entriesThatBegin 40 = .ok (.iinc 4 1, 3) := by decide +kernel
theorem dX4_entriesThatBegin_43 : decode cX4_entriesThatBegin 43 = .ok (.goto (-28), 3) := by decide +kernel
theorem dX4_entriesThatBegin_46 : decode cX4_entriesThatBegin 46 = .ok (.iload 4, 2) := by decide +kernel
theorem dX4_entriesThatBegin_48 : decode cX4_entriesThatBegin 48 = .ok (.aload_n 1, 1) := by decide +kernel
theorem dX4_entriesThatBegin_49 : decode cX4_entriesThatBegin 49 = .ok (.getfield 59, 3) := by decide +kernel
theorem dX4_entriesThatBegin_52 : decode cX4_entriesThatBegin 52 = .ok (.if_icmp .ne 6, 3) := by decide +kernel
theorem dX4_entriesThatBegin_55 : decode cX4_entriesThatBegin 55 = .ok (.iinc 2 1, 3) := by decide +kernel
theorem dX4_entriesThatBegin_58 : decode cX4_entriesThatBegin 58 = .ok (.iinc 3 1, 3) := by decide +kernel
theorem dX4_entriesThatBegin_61 : decode cX4_entriesThatBegin 61 = .ok (.goto (-57), 3) := by decide +kernel
theorem dX4_entriesThatBegin_64 : decode cX4_entriesThatBegin 64 = .ok (.iload_n 2, 1) := by decide +kernel
theorem dX4_entriesThatBegin_65 : decode cX4_entriesThatBegin 65 = .ok (.ireturn, 1) := by decide +kernel
theorem dX4_release_0 : decode cX4_release 0 = .ok (.aload_n 0, 1) := by decide +kernel
theorem dX4_release_1 : decode cX4_release 1 = .ok (.getfield 15, 3) := by decide +kernel
theorem dX4_release_4 : decode cX4_release 4 = .ok (.iconst 0, 1) := by decide +kernel
theorem dX4_release_5 : decode cX4_release 5 = .ok (.invokestatic 66, 3) := by decide +kernel
theorem dX4_release_8 : decode cX4_release 8 = .ok (.return_, 1) := by decide +kernel
theorem dX4_begin_0 : decode cX4_begin 0 = .ok (.aload_n 0, 1) := by decide +kernel
theorem dX4_begin_1 : decode cX4_begin 1 = .ok (.getfield 15, 3) := by decide +kernel
theorem dX4_begin_4 : decode cX4_begin 4 = .ok (.iconst 0, 1) := by decide +kernel
theorem dX4_begin_5 : decode cX4_begin 5 = .ok (.invokestatic 66, 3) := by decide +kernel
theorem dX4_begin_8 : decode cX4_begin 8 = .ok (.aload_n 0, 1) := by decide +kernel
theorem dX4_begin_9 : decode cX4_begin 9 = .ok (.getfield 15, 3) := by decide +kernel
theorem dX4_begin_12 : decode cX4_begin 12 = .ok (.iconst 0, 1) := by decide +kernel
theorem dX4_begin_13 : decode cX4_begin 13 = .ok (.iload_n 1, 1) := by decide +kernel
theorem dX4_begin_14 : decode cX4_begin 14 = .ok (.iastore, 1) := by decide +kernel
theorem dX4_begin_15 : decode cX4_begin 15 = .ok (.aload_n 0, 1) := by decide +kernel
theorem dX4_begin_16 : decode cX4_begin 16 = .ok (.getfield 15, 3) := by decide +kernel
theorem dX4_begin_19 : decode cX4_begin 19 = .ok (.iconst 2, 1) := by decide +kernel
theorem dX4_begin_20 : decode cX4_begin 20 = .ok (.iload_n 2, 1) := by decide +kernel
theorem dX4_begin_21 : decode cX4_begin 21 = .ok (.iastore, 1) := by decide +kernel
theorem dX4_begin_22 : decode cX4_begin 22 = .ok (.return_, 1) := by decide +kernel
theorem dX4_copyFrom_0 : decode cX4_copyFrom 0 = .ok (.iconst 0, 1) := by decide +kernel
theorem dX4_copyFrom_1 : decode cX4_copyFrom 1 = .ok (.istore_n 2, 1) := by decide +kernel
theorem dX4_copyFrom_2 : decode cX4_copyFrom 2 = .ok (.iload_n 2, 1) := by decide +kernel
theorem dX4_copyFrom_3 : decode cX4_copyFrom 3 = .ok (.aload_n 0, 1) := by decide +kernel
theorem dX4_copyFrom_4 : decode cX4_copyFrom 4 = .ok (.getfield 15, 3) := by decide +kernel
theorem dX4_copyFrom_7 : decode cX4_copyFrom 7 = .ok (.arraylength, 1) := by decide +kernel
theorem dX4_copyFrom_8 : decode cX4_copyFrom 8 = .ok (.if_icmp .ge 20, 3) := by decide +kernel
theorem dX4_copyFrom_11 : decode cX4_copyFrom 11 = .ok (.aload_n 0, 1) := by decide +kernel
theorem dX4_copyFrom_12 : decode cX4_copyFrom 12 = .ok (.getfield 15, 3) := by decide +kernel
theorem dX4_copyFrom_15 : decode cX4_copyFrom 15 = .ok (.iload_n 2, 1) := by decide +kernel
theorem dX4_copyFrom_16 : decode cX4_copyFrom 16 = .ok (.aload_n 1, 1) := by decide +kernel
theorem dX4_copyFrom_17 : decode cX4_copyFrom 17 = .ok (.iload_n 2, 1) := by decide +kernel
theorem dX4_copyFrom_18 : decode cX4_copyFrom 18 = .ok (.invokevirtual 32, 3) := by decide +kernel
theorem dX4_copyFrom_21 : decode cX4_copyFrom 21 = .ok (.iastore, 1) := by decide +kernel
theorem dX4_copyFrom_22 : decode cX4_copyFrom 22 = .ok (.iinc 2 1, 3) := by decide +kernel
theorem dX4_copyFrom_25 : decode cX4_copyFrom 25 = .ok (.goto (-23), 3) := by decide +kernel
theorem dX4_copyFrom_28 : decode cX4_copyFrom 28 = .ok (.return_, 1) := by decide +kernel
theorem dX4_append_0 : decode cX4_append 0 = .ok (.aload_n 0, 1) := by decide +kernel
theorem dX4_append_1 : decode cX4_append 1 = .ok (.aload_n 0, 1) := by decide +kernel
theorem dX4_append_2 : decode cX4_append 2 = .ok (.invokevirtual 25, 3) := by decide +kernel
theorem dX4_append_5 : decode cX4_append 5 = .ok (.invokevirtual 28, 3) := by decide +kernel
theorem dX4_append_8 : decode cX4_append 8 = .ok (.istore 4, 2) := by decide +kernel
theorem dX4_append_10 : decode cX4_append 10 = .ok (.aload_n 1, 1) := by decide +kernel
theorem dX4_append_11 : decode cX4_append 11 = .ok (.iload_n 2, 1) := by decide +kernel
theorem dX4_append_12 : decode cX4_append 12 = .ok (.invokevirtual 28, 3) := by decide +kernel
theorem dX4_append_15 : decode cX4_append 15 = .ok (.istore 5, 2) := by decide +kernel
theorem dX4_append_17 : decode cX4_append 17 = .ok (.aload_n 1, 1) := by decide +kernel
theorem dX4_append_18 : decode cX4_append 18 = .ok (.iload_n 3, 1) := by decide +kernel
theorem dX4_append_19 : decode cX4_append 19 = .ok (.invokevirtual 28, 3) := by decide +kernel
theorem dX4_append_22 : decode cX4_append 22 = .ok (.iload 5, 2) := by decide +kernel
theorem dX4_append_24 : decode cX4_append 24 = .ok (.isub, 1) := by decide +kernel
theorem dX4_append_25 : decode cX4_append 25 = .ok (.istore 6, 2) := by decide +kernel
theorem dX4_append_27 : decode cX4_append 27 = .ok (.iconst 0, 1) := by decide +kernel
theorem dX4_append_28 : decode cX4_append 28 = .ok (.istore 7, 2) := by decide +kernel
theorem dX4_append_30 : decode cX4_append 30 = .ok (.iload 7, 2) := by decide +kernel
theorem dX4_append_32 : decode cX4_append 32 = .ok (.iload 6, 2) := by decide +kernel
theorem dX4_append_34 : decode cX4_append 34 = .ok (.if_icmp .ge 27, 3) := by decide +kernel
theorem dX4_append_37 : decode cX4_append 37 = .ok (.aload_n 0, 1) := by decide +kernel
theorem dX4_append_38 : decode cX4_append 38 = .ok (.iload 4, 2) := by decide +kernel
theorem dX4_append_40 : decode cX4_append 40 = .ok (.iload 7, 2) := by decide +kernel
theorem dX4_append_42 : decode cX4_append 42 = .ok (.iadd, 1) := by decide +kernel
theorem dX4_append_43 : decode cX4_append 43 = .ok (.aload_n 1, 1) := by decide +kernel
theorem dX4_append_44 : decode cX4_append 44 = .ok (.iload 5, 2) := by decide +kernel
theorem dX4_append_46 : decode cX4_append 46 = .ok (.iload 7, 2) := by decide +kernel
theorem dX4_append_48 : decode cX4_append 48 = .ok (.iadd, 1) := by decide +kernel
theorem dX4_append_49 : decode cX4_append 49 = .ok (.invokevirtual 32, 3) := by decide +kernel
theorem dX4_append_52 : decode cX4_append 52 = .ok (.invokevirtual 35, 3) := by decide +kernel
theorem dX4_append_55 : decode cX4_append 55 = .ok (.iinc 7 1, 3) := by decide +kernel
theorem dX4_append_58 : decode cX4_append 58 = .ok (.goto (-28), 3) := by decide +kernel
theorem dX4_append_61 : decode cX4_append 61 = .ok (.aload_n 0, 1) := by decide +kernel
theorem dX4_append_62 : decode cX4_append 62 = .ok (.getfield 15, 3) := by decide +kernel
theorem dX4_append_65 : decode cX4_append 65 = .ok (.iconst 1, 1) := by decide +kernel
theorem dX4_append_66 : decode cX4_append 66 = .ok (.dup2, 1) := by decide +kernel
theorem dX4_append_67 : decode cX4_append 67 = .ok (.iaload, 1) := by decide +kernel
theorem dX4_append_68 : decode cX4_append 68 = .ok (.iload_n 3, 1) := by decide +kernel
theorem dX4_append_69 : decode cX4_append 69 = .ok (.iload_n 2, 1) := by decide +kernel
theorem dX4_append_70 : decode cX4_append 70 = .ok (.isub, 1) := by decide +kernel
theorem dX4_append_71 : decode cX4_append 71 = .ok (.iadd, 1) := by decide +kernel
theorem dX4_append_72 : decode cX4_append 72 = .ok (.iastore, 1) := by decide +kernel
theorem dX4_append_73 : decode cX4_append 73 = .ok (.return_, 1) := by decide +kernel
theorem dX4_insert_0 : decode cX4_insert 0 = .ok (.aload_n 0, 1) := by decide +kernel
theorem dX4_insert_1 : decode cX4_insert 1 = .ok (.iload_n 1, 1) := by decide +kernel
theorem dX4_insert_2 : decode cX4_insert 2 = .ok (.invokevirtual 28, 3) := by decide +kernel
theorem dX4_insert_5 : decode cX4_insert 5 = .ok (.istore 4, 2) := by decide +kernel
theorem dX4_insert_7 : decode cX4_insert 7 = .ok (.aload_n 2, 1) := by decide +kernel
theorem dX4_insert_8 : decode cX4_insert 8 = .ok (.getfield 59, 3) := by decide +kernel
theorem dX4_insert_11 : decode cX4_insert 11 = .ok (.iconst 2, 1) := by decide +kernel
theorem dX4_insert_12 : decode cX4_insert 12 = .ok (.iadd, 1) := by decide +kernel
theorem dX4_insert_13 : decode cX4_insert 13 = .ok (.istore 5, 2) := by decide +kernel
theorem dX4_insert_15 : decode cX4_insert 15 = .ok (.aload_n 0, 1) := by decide +kernel
theorem dX4_insert_16 : decode cX4_insert 16 = .ok (.aload_n 0, 1) := by decide +kernel
theorem dX4_insert_17 : decode cX4_insert 17 = .ok (.invokevirtual 25, 3) := by decide +kernel
theorem dX4_insert_20 : decode cX4_insert 20 = .ok (.invokevirtual 28, 3) := by decide +kernel
theorem dX4_insert_23 : decode cX4_insert 23 = .ok (.iconst 1, 1) := by decide +kernel
theorem dX4_insert_24 : decode cX4_insert 24 = .ok (.isub, 1) := by decide +kernel
theorem dX4_insert_25 : decode cX4_insert 25 = .ok (.istore 6, 2) := by decide +kernel
theorem dX4_insert_27 : decode cX4_insert 27 = .ok (.iload 6, 2) := by decide +kernel
theorem dX4_insert_29 : decode cX4_insert 29 = .ok (.iload 4, 2) := by decide +kernel
theorem dX4_insert_31 : decode cX4_insert 31 = .ok (.if_icmp .lt 24, 3) := by decide +kernel
theorem dX4_insert_34 : decode cX4_insert 34 = .ok (.aload_n 0, 1) := by decide +kernel
theorem dX4_insert_35 : decode cX4_insert 35 = .ok (.iload 6, 2) := by decide +kernel
theorem dX4_insert_37 : decode cX4_insert 37 = .ok (.iload 5, 2) := by decide +kernel
theorem dX4_insert_39 : decode cX4_insert 39 = .ok (.iadd, 1) := by decide +kernel
theorem dX4_insert_40 : decode cX4_insert 40 = .ok (.aload_n 0, 1) := by decide +kernel
theorem dX4_insert_41 : decode cX4_insert 41 = .ok (.iload 6, 2) := by decide +kernel
theorem dX4_insert_43 : decode cX4_insert 43 = .ok (.invokevirtual 32, 3) := by decide +kernel
theorem dX4_insert_46 : decode cX4_insert 46 = .ok (.invokevirtual 35, 3) := by decide +kernel
theorem dX4_insert_49 : decode cX4_insert 49 = .ok (.iinc 6 (-1), 3) := by decide +kernel
theorem dX4_insert_52 : decode cX4_insert 52 = .ok (.goto (-25), 3) := by decide +kernel
theorem dX4_insert_55 : decode cX4_insert 55 = .ok (.aload_n 0, 1) := by decide +kernel
theorem dX4_insert_56 : decode cX4_insert 56 = .ok (.iload 4, 2) := by decide +kernel
theorem dX4_insert_58 : decode cX4_insert 58 = .ok (.aload_n 2, 1) := by decide +kernel
theorem dX4_insert_59 : decode cX4_insert 59 = .ok (.getfield 59, 3) := by decide +kernel
theorem dX4_insert_62 : decode cX4_insert 62 = .ok (.invokevirtual 35, 3) := by decide +kernel
theorem dX4_insert_65 : decode cX4_insert 65 = .ok (.iconst 0, 1) := by decide +kernel
theorem dX4_insert_66 : decode cX4_insert 66 = .ok (.istore 6, 2) := by decide +kernel
theorem dX4_insert_68 : decode cX4_insert 68 = .ok (.iload 6, 2) := by decide +kernel
theorem dX4_insert_70 : decode cX4_insert 70 = .ok (.aload_n 2, 1) := by decide +kernel
theorem dX4_insert_71 : decode cX4_insert 71 = .ok (.getfield 59, 3) := by decide +kernel
theorem dX4_insert_74 : decode cX4_insert 74 = .ok (.if_icmp .ge 26, 3) := by decide +kernel
theorem dX4_insert_77 : decode cX4_insert 77 = .ok (.aload_n 0, 1) := by decide +kernel
theorem dX4_insert_78 : decode cX4_insert 78 = .ok (.iload 4, 2) := by decide +kernel
theorem dX4_insert_80 : decode cX4_insert 80 = .ok (.iconst 1, 1) := by decide +kernel
theorem dX4_insert_81 : decode cX4_insert 81 = .ok (.iadd, 1) := by decide +kernel
theorem dX4_insert_82 : decode cX4_insert 82 = .ok (.iload 6, 2) := by decide +kernel
theorem dX4_insert_84 : decode cX4_insert 84 = .ok (.iadd, 1) := by decide +kernel
theorem dX4_insert_85 : decode cX4_insert 85 = .ok (.aload_n 2, 1) := by decide +kernel
theorem dX4_insert_86 : decode cX4_insert 86 = .ok (.iload 6, 2) := by decide +kernel
theorem dX4_insert_88 : decode cX4_insert 88 = .ok (.invokevirtual 54, 3) := by decide +kernel
theorem dX4_insert_91 : decode cX4_insert 91 = .ok (.invokevirtual 35, 3) := by decide +kernel
theorem dX4_insert_94 : decode cX4_insert 94 = .ok (.iinc 6 1, 3) := by decide +kernel
theorem dX4_insert_97 : decode cX4_insert 97 = .ok (.goto (-29), 3) := by decide +kernel
theorem dX4_insert_100 : decode cX4_insert 100 = .ok (.aload_n 0, 1) := by decide +kernel
theorem dX4_insert_101 : decode cX4_insert 101 = .ok (.iload 4, 2) := by decide +kernel
theorem dX4_insert_103 : decode cX4_insert 103 = .ok (.iload 5, 2) := by decide +kernel
theorem dX4_insert_105 : decode cX4_insert 105 = .ok (.iadd, 1) := by decide +kernel
theorem dX4_insert_106 : decode cX4_insert 106 = .ok (.iconst 1, 1) := by decide +kernel
theorem dX4_insert_107 : decode cX4_insert 107 = .ok (.isub, 1) := by decide +kernel
theorem dX4_insert_108 : decode cX4_insert 108 = .ok (.iload_n 3, 1) := by decide +kernel
theorem dX4_insert_109 : decode cX4_insert 109 = .ok (.invokevirtual 35, 3) := by decide +kernel
theorem dX4_insert_112 : decode cX4_insert 112 = .ok (.aload_n 0, 1) := by decide +kernel
theorem dX4_insert_113 : decode cX4_insert 113 = .ok (.getfield 15, 3) := by decide +kernel
theorem dX4_insert_116 : decode cX4_insert 116 = .ok (.iconst 1, 1) := by decide +kernel
theorem dX4_insert_117 : decode cX4_insert 117 = .ok (.dup2, 1) := by decide +kernel
theorem dX4_insert_118 : decode cX4_insert 118 = .ok (.iaload, 1) := by decide +kernel
theorem dX4_insert_119 : decode cX4_insert 119 = .ok (.iconst 1, 1) := by decide +kernel
theorem dX4_insert_120 : decode cX4_insert 120 = .ok (.iadd, 1) := by decide +kernel
theorem dX4_insert_121 : decode cX4_insert 121 = .ok (.iastore, 1) := by decide +kernel
theorem dX4_insert_122 : decode cX4_insert 122 = .ok (.return_, 1) := by decide +kernel
theorem dX4_remove_0 : decode cX4_remove 0 = .ok (.aload_n 0, 1) := by decide +kernel
theorem dX4_remove_1 : decode cX4_remove 1 = .ok (.iload_n 1, 1) := by decide +kernel
theorem dX4_remove_2 : decode cX4_remove 2 = .ok (.invokevirtual 28, 3) := by decide +kernel
theorem dX4_remove_5 : decode cX4_remove 5 = .ok (.istore_n 2, 1) := by decide +kernel
theorem dX4_remove_6 : decode cX4_remove 6 = .ok (.aload_n 0, 1) := by decide +kernel
theorem dX4_remove_7 : decode cX4_remove 7 = .ok (.iload_n 1, 1) := by decide +kernel
theorem dX4_remove_8 : decode cX4_remove 8 = .ok (.iconst 1, 1) := by decide +kernel
theorem dX4_remove_9 : decode cX4_remove 9 = .ok (.iadd, 1) := by decide +kernel
theorem dX4_remove_10 : decode cX4_remove 10 = .ok (.invokevirtual 28, 3) := by decide +kernel
theorem dX4_remove_13 : decode cX4_remove 13 = .ok (.iload_n 2, 1) := by decide +kernel
theorem dX4_remove_14 : decode cX4_remove 14 = .ok (.isub, 1) := by decide +kernel
theorem dX4_remove_15 : decode cX4_remove 15 = .ok (.istore_n 3, 1) := by decide +kernel
theorem dX4_remove_16 : decode cX4_remove 16 = .ok (.iload_n 2, 1) := by decide +kernel
theorem dX4_remove_17 : decode cX4_remove 17 = .ok (.istore 4, 2) := by decide +kernel
theorem dX4_remove_19 : decode cX4_remove 19 = .ok (.iload 4, 2) := by decide +kernel
theorem dX4_remove_21 : decode cX4_remove 21 = .ok (.aload_n 0, 1) := by decide +kernel
theorem dX4_remove_22 : decode cX4_remove 22 = .ok (.getfield 15, 3) := by decide +kernel
theorem dX4_remove_25 : decode cX4_remove 25 = .ok (.arraylength, 1) := by decide +kernel
theorem dX4_remove_26 : decode cX4_remove 26 = .ok (.if_icmp .ge 24, 3) := by decide +kernel
theorem dX4_remove_29 : decode cX4_remove 29 = .ok (.aload_n 0, 1) := by decide +kernel
theorem dX4_remove_30 : decode cX4_remove 30 = .ok (.getfield 15, 3) := by decide +kernel
theorem dX4_remove_33 : decode cX4_remove 33 = .ok (.iload 4, 2) := by decide +kernel
theorem dX4_remove_35 : decode cX4_remove 35 = .ok (.aload_n 0, 1) := by decide +kernel
theorem dX4_remove_36 : decode cX4_remove 36 = .ok (.iload 4, 2) := by decide +kernel
theorem dX4_remove_38 : decode cX4_remove 38 = .ok (.iload_n 3, 1) := by decide +kernel
theorem dX4_remove_39 : decode cX4_remove 39 = .ok (.iadd, 1) := by decide +kernel
theorem dX4_remove_40 : decode cX4_remove 40 = .ok (.invokevirtual 32, 3) := by decide +kernel
theorem dX4_remove_43 : decode cX4_remove 43 = .ok (.iastore, 1) := by decide +kernel
theorem dX4_remove_44 : decode cX4_remove 44 = .ok (.iinc 4 1, 3) := by decide +kernel
theorem dX4_remove_47 : decode cX4_remove 47 = .ok (.goto (-28), 3) := by decide +kernel
theorem dX4_remove_50 : decode cX4_remove 50 = .ok (.aload_n 0, 1) := by decide +kernel
theorem dX4_remove_51 : decode cX4_remove 51 = .ok (.getfield 15, 3) := by decide +kernel
theorem dX4_remove_54 : decode cX4_remove 54 = .ok (.iconst 1, 1) := by decide +kernel
theorem dX4_remove_55 : decode cX4_remove 55 = .ok (.dup2, 1) := by decide +kernel
theorem dX4_remove_56 : decode cX4_remove 56 = .ok (.iaload, 1) := by decide +kernel
theorem dX4_remove_57 : decode cX4_remove 57 = .ok (.iconst 1, 1) := by decide +kernel
theorem dX4_remove_58 : decode cX4_remove 58 = .ok (.isub, 1) := by decide +kernel
theorem dX4_remove_59 : decode cX4_remove 59 = .ok (.iastore, 1) := by decide +kernel
theorem dX4_remove_60 : decode cX4_remove 60 = .ok (.return_, 1) := by decide +kernel
theorem dX4_half_0 : decode cX4_half 0 = .ok (.aload_n 0, 1) := by decide +kernel
theorem dX4_half_1 : decode cX4_half 1 = .ok (.aload_n 0, 1) := by decide +kernel
theorem dX4_half_2 : decode cX4_half 2 = .ok (.invokevirtual 25, 3) := by decide +kernel
theorem dX4_half_5 : decode cX4_half 5 = .ok (.invokevirtual 28, 3) := by decide +kernel
theorem dX4_half_8 : decode cX4_half 8 = .ok (.iconst 3, 1) := by decide +kernel
theorem dX4_half_9 : decode cX4_half 9 = .ok (.isub, 1) := by decide +kernel
theorem dX4_half_10 : decode cX4_half 10 = .ok (.istore_n 1, 1) := by decide +kernel
theorem dX4_half_11 : decode cX4_half 11 = .ok (.iconst 0, 1) := by decide +kernel
theorem dX4_half_12 : decode cX4_half 12 = .ok (.istore_n 2, 1) := by decide +kernel
theorem dX4_half_13 : decode cX4_half 13 = .ok (.iload_n 2, 1) := by decide +kernel
theorem dX4_half_14 : decode cX4_half 14 = .ok (.aload_n 0, 1) := by decide +kernel
theorem dX4_half_15 : decode cX4_half 15 = .ok (.invokevirtual 25, 3) := by decide +kernel
theorem dX4_half_18 : decode cX4_half 18 = .ok (.if_icmp .ge 22, 3) := by decide +kernel
theorem dX4_half_21 : decode cX4_half 21 = .ok (.iconst 2, 1) := by decide +kernel
theorem dX4_half_22 : decode cX4_half 22 = .ok (.aload_n 0, 1) := by decide +kernel
theorem dX4_half_23 : decode cX4_half 23 = .ok (.iload_n 2, 1) := by decide +kernel
theorem dX4_half_24 : decode cX4_half 24 = .ok (.invokevirtual 28, 3) := by decide +kernel
theorem dX4_half_27 : decode cX4_half 27 = .ok (.iconst 3, 1) := by decide +kernel
theorem dX4_half_28 : decode cX4_half 28 = .ok (.isub, 1) := by decide +kernel
theorem dX4_half_29 : decode cX4_half 29 = .ok (.imul, 1) := by decide +kernel
theorem dX4_half_30 : decode cX4_half 30 = .ok (.iload_n 1, 1) := by decide +kernel
theorem dX4_half_31 : decode cX4_half 31 = .ok (.if_icmp .ge 9, 3) := by decide +kernel
theorem dX4_half_34 : decode cX4_half 34 = .ok (.iinc 2 1, 3) := by decide +kernel
theorem dX4_half_37 : decode cX4_half 37 = .ok (.goto (-24), 3) := by decide +kernel
theorem dX4_half_40 : decode cX4_half 40 = .ok (.iload_n 2, 1) := by decide +kernel
theorem dX4_half_41 : decode cX4_half 41 = .ok (.ireturn, 1) := by decide +kernel
theorem dX5_init_0 : decode cX5_init 0 = .ok (.aload_n 0, 1) := by decide +kernel
theorem dX5_init_1 : decode cX5_init 1 = .ok (.invokespecial 3, 3) := by decide +kernel
theorem dX5_init_4 : decode cX5_init 4 = .ok (.aload_n 0, 1) := by decide +kernel
theorem dX5_init_5 : decode cX5_init 5 = .ok (.bipush 120, 2) := by decide +kernel
theorem dX5_init_7 : decode cX5_init 7 = .ok (.newarray .int, 2) := by decide +kernel
theorem dX5_init_9 : decode cX5_init 9 = .ok (.putfield 9, 3) := by decide +kernel
theorem dX5_init_12 : decode cX5_init 12 = .ok (.aload_n 0, 1) := by decide +kernel
theorem dX5_init_13 : decode cX5_init 13 = .ok (.new 15, 3) := by decide +kernel
theorem dX5_init_16 : decode cX5_init 16 = .ok (.dup, 1) := by decide +kernel
theorem dX5_init_17 : decode cX5_init 17 = .ok (.invokespecial 17, 3) := by decide +kernel
theorem dX5_init_20 : decode cX5_init 20 = .ok (.putfield 18, 3) := by decide +kernel
theorem dX5_init_23 : decode cX5_init 23 = .ok (.aload_n 0, 1) := by decide +kernel
theorem dX5_init_24 : decode cX5_init 24 = .ok (.iconst 3, 1) := by decide +kernel
theorem dX5_init_25 : decode cX5_init 25 = .ok (.newarray .int, 2) := by decide +kernel
theorem dX5_init_27 : decode cX5_init 27 = .ok (.putfield 22, 3) := by decide +kernel
theorem dX5_init_30 : decode cX5_init 30 = .ok (.return_, 1) := by decide +kernel
theorem dX5_add_0 : decode cX5_add 0 = .ok (.aload_n 0, 1) := by decide +kernel
theorem dX5_add_1 : decode cX5_add 1 = .ok (.getfield 25, 3) := by decide +kernel
theorem dX5_add_4 : decode cX5_add 4 = .ok (.ifCond .lt 15, 3) := by decide +kernel
theorem dX5_add_7 : decode cX5_add 7 = .ok (.aload_n 0, 1) := by decide +kernel
theorem dX5_add_8 : decode cX5_add 8 = .ok (.getfield 25, 3) := by decide +kernel
theorem dX5_add_11 : decode cX5_add 11 = .ok (.aload_n 0, 1) := by decide +kernel
theorem dX5_add_12 : decode cX5_add 12 = .ok (.getfield 9, 3) := by decide +kernel
theorem dX5_add_15 : decode cX5_add 15 = .ok (.arraylength, 1) := by decide +kernel
theorem dX5_add_16 : decode cX5_add 16 = .ok (.if_icmp .lt 5, 3) := by decide +kernel
theorem dX5_add_19 : decode cX5_add 19 = .ok (.iconst 0, 1) := by decide +kernel
theorem dX5_add_20 : decode cX5_add 20 = .ok (.ireturn, 1) := by decide +kernel
theorem dX5_add_21 : decode cX5_add 21 = .ok (.aload_n 0, 1) := by decide +kernel
theorem dX5_add_22 : decode cX5_add 22 = .ok (.getfield 9, 3) := by decide +kernel
theorem dX5_add_25 : decode cX5_add 25 = .ok (.aload_n 0, 1) := by decide +kernel
theorem dX5_add_26 : decode cX5_add 26 = .ok (.getfield 25, 3) := by decide +kernel
theorem dX5_add_29 : decode cX5_add 29 = .ok (.iload_n 1, 1) := by decide +kernel
theorem dX5_add_30 : decode cX5_add 30 = .ok (.iastore, 1) := by decide +kernel
theorem dX5_add_31 : decode cX5_add 31 = .ok (.aload_n 0, 1) := by decide +kernel
theorem dX5_add_32 : decode cX5_add 32 = .ok (.dup, 1) := by decide +kernel
theorem dX5_add_33 : decode cX5_add 33 = .ok (.getfield 25, 3) := by decide +kernel
theorem dX5_add_36 : decode cX5_add 36 = .ok (.iconst 1, 1) := by decide +kernel
theorem dX5_add_37 : decode cX5_add 37 = .ok (.iadd, 1) := by decide +kernel
theorem dX5_add_38 : decode cX5_add 38 = .ok (.putfield 25, 3) := by decide +kernel
theorem dX5_add_41 : decode cX5_add 41 = .ok (.iconst 1, 1) := by decide +kernel
theorem dX5_add_42 : decode cX5_add 42 = .ok (.ireturn, 1) := by decide +kernel
theorem dX5_at_0 : decode cX5_at 0 = .ok (.iload_n 1, 1) := by decide +kernel
theorem dX5_at_1 : decode cX5_at 1 = .ok (.ifCond .lt 29, 3) := by decide +kernel
theorem dX5_at_4 : decode cX5_at 4 = .ok (.iload_n 1, 1) := by decide +kernel
theorem dX5_at_5 : decode cX5_at 5 = .ok (.aload_n 0, 1) := by decide +kernel
theorem dX5_at_6 : decode cX5_at 6 = .ok (.getfield 25, 3) := by decide +kernel
theorem dX5_at_9 : decode cX5_at 9 = .ok (.if_icmp .ge 21, 3) := by decide +kernel
theorem dX5_at_12 : decode cX5_at 12 = .ok (.iload_n 1, 1) := by decide +kernel
theorem dX5_at_13 : decode cX5_at 13 = .ok (.aload_n 0, 1) := by decide +kernel
theorem dX5_at_14 : decode cX5_at 14 = .ok (.getfield 9, 3) := by decide +kernel
theorem dX5_at_17 : decode cX5_at 17 = .ok (.arraylength, 1) := by decide +kernel
theorem dX5_at_18 : decode cX5_at 18 = .ok (.if_icmp .ge 12, 3) := by decide +kernel
theorem dX5_at_21 : decode cX5_at 21 = .ok (.aload_n 0, 1) := by decide +kernel
theorem dX5_at_22 : decode cX5_at 22 = .ok (.getfield 9, 3) := by decide +kernel
theorem dX5_at_25 : decode cX5_at 25 = .ok (.iload_n 1, 1) := by decide +kernel
theorem dX5_at_26 : decode cX5_at 26 = .ok (.iaload, 1) := by decide +kernel
theorem dX5_at_27 : decode cX5_at 27 = .ok (.goto 4, 3) := by decide +kernel
theorem dX5_at_30 : decode cX5_at 30 = .ok (.iconst 0, 1) := by decide +kernel
theorem dX5_at_31 : decode cX5_at 31 = .ok (.ireturn, 1) := by decide +kernel
theorem dX5_rewind_0 : decode cX5_rewind 0 = .ok (.aload_n 0, 1) := by decide +kernel
theorem dX5_rewind_1 : decode cX5_rewind 1 = .ok (.iconst 0, 1) := by decide +kernel
theorem dX5_rewind_2 : decode cX5_rewind 2 = .ok (.putfield 29, 3) := by decide +kernel
theorem dX5_rewind_5 : decode cX5_rewind 5 = .ok (.return_, 1) := by decide +kernel
theorem dX5_firstFault_0 : decode cX5_firstFault 0 = .ok (.aload_n 0, 1) := by decide +kernel
theorem dX5_firstFault_1 : decode cX5_firstFault 1 = .ok (.invokevirtual 32, 3) := by decide +kernel
theorem dX5_firstFault_4 : decode cX5_firstFault 4 = .ok (.iconst 0, 1) := by decide +kernel
theorem dX5_firstFault_5 : decode cX5_firstFault 5 = .ok (.istore_n 1, 1) := by decide +kernel
theorem dX5_firstFault_6 : decode cX5_firstFault 6 = .ok (.iload_n 1, 1) := by decide +kernel
theorem dX5_firstFault_7 : decode cX5_firstFault 7 = .ok (.bipush 120, 2) := by decide +kernel
theorem dX5_firstFault_9 : decode cX5_firstFault 9 = .ok (.if_icmp .gt 28, 3) := by decide +kernel
theorem dX5_firstFault_12 : decode cX5_firstFault 12 = .ok (.aload_n 0, 1) := by decide +kernel
theorem dX5_firstFault_13 : decode cX5_firstFault 13 = .ok (.invokevirtual 35, 3) := by decide +kernel
theorem dX5_firstFault_16 : decode cX5_firstFault 16 = .ok (.ifCond .eq 21, 3) := by decide +kernel
theorem dX5_firstFault_19 : decode cX5_firstFault 19 = .ok (.aload_n 0, 1) := by decide +kernel
theorem dX5_firstFault_20 : decode cX5_firstFault 20 = .ok (.invokevirtual 39, 3) := by decide +kernel
theorem dX5_firstFault_23 : decode cX5_firstFault 23 = .ok (.ifCond .ne 8, 3) := by decide +kernel
theorem dX5_firstFault_26 : decode cX5_firstFault 26 = .ok (.aload_n 0, 1) := by decide +kernel
theorem dX5_firstFault_27 : decode cX5_firstFault 27 = .ok (.getfield 42, 3) := by decide +kernel
theorem dX5_firstFault_30 : decode cX5_firstFault 30 = .ok (.ireturn, 1) := by decide +kernel
theorem dX5_firstFault_31 : decode cX5_firstFault 31 = .ok (.iinc 1 1, 3) := by decide +kernel
theorem dX5_firstFault_34 : decode cX5_firstFault 34 = .ok (.goto (-28), 3) := by decide +kernel
theorem dX5_firstFault_37 : decode cX5_firstFault 37 = .ok (.iconst (-1), 1) := by decide +kernel
theorem dX5_firstFault_38 : decode cX5_firstFault 38 = .ok (.ireturn, 1) := by decide +kernel
theorem dX5_hasMore_0 : decode cX5_hasMore 0 = .ok (.aload_n 0, 1) := by decide +kernel
theorem dX5_hasMore_1 : decode cX5_hasMore 1 = .ok (.invokevirtual 45, 3) := by decide +kernel
theorem dX5_hasMore_4 : decode cX5_hasMore 4 = .ok (.aload_n 0, 1) := by decide +kernel
theorem dX5_hasMore_5 : decode cX5_hasMore 5 = .ok (.getfield 48, 3) := by decide +kernel
theorem dX5_hasMore_8 : decode cX5_hasMore 8 = .ok (.ifCond .eq 7, 3) := by decide +kernel
theorem dX5_hasMore_11 : decode cX5_hasMore 11 = .ok (.iconst 1, 1) := by decide +kernel
theorem dX5_hasMore_12 : decode cX5_hasMore 12 = .ok (.goto 4, 3) := by decide +kernel
theorem dX5_hasMore_15 : decode cX5_hasMore 15 = .ok (.iconst 0, 1) := by decide +kernel
theorem dX5_hasMore_16 : decode cX5_hasMore 16 = .ok (.ireturn, 1) := by decide +kernel
theorem dX5_readCommand_0 : decode cX5_readCommand 0 = .ok (.aload_n 0, 1) := by decide +kernel
theorem dX5_readCommand_1 : decode cX5_readCommand 1 = .ok (.ldc 51, 2) := by decide +kernel
theorem dX5_readCommand_3 : decode cX5_readCommand 3 = .ok (.invokevirtual 53, 3) := by decide +kernel
theorem dX5_readCommand_6 : decode cX5_readCommand 6 = .ok (.ifCond .eq 40, 3) := by decide +kernel
theorem dX5_readCommand_9 : decode cX5_readCommand 9 = .ok (.aload_n 0, 1) := by decide +kernel
theorem dX5_readCommand_10 : decode cX5_readCommand 10 = .ok (.iconst 0, 1) := by decide +kernel
theorem dX5_readCommand_11 : decode cX5_readCommand 11 = .ok (.putfield 57, 3) := by decide +kernel
theorem dX5_readCommand_14 : decode cX5_readCommand 14 = .ok (.aload_n 0, 1) := by decide +kernel
theorem dX5_readCommand_15 : decode cX5_readCommand 15 = .ok (.invokevirtual 60, 3) := by decide +kernel
theorem dX5_readCommand_18 : decode cX5_readCommand 18 = .ok (.ifCond .eq 26, 3) := by decide +kernel
theorem dX5_readCommand_21 : decode cX5_readCommand 21 = .ok (.aload_n 0, 1) := by decide +kernel
theorem dX5_readCommand_22 : decode cX5_readCommand 22 = .ok (.iconst 0, 1) := by decide +kernel
theorem dX5_readCommand_23 : decode cX5_readCommand 23 = .ok (.iconst 0, 1) := by decide +kernel
theorem dX5_readCommand_24 : decode cX5_readCommand 24 = .ok (.sipush 255, 3) := by decide +kernel
theorem dX5_readCommand_27 : decode cX5_readCommand 27 = .ok (.invokevirtual 63, 3) := by decide +kernel
theorem dX5_readCommand_30 : decode cX5_readCommand 30 = .ok (.ifCond .eq 14, 3) := by decide +kernel
theorem dX5_readCommand_33 : decode cX5_readCommand 33 = .ok (.aload_n 0, 1) := by decide +kernel
theorem dX5_readCommand_34 : decode cX5_readCommand 34 = .ok (.invokevirtual 67, 3) := by decide +kernel
theorem dX5_readCommand_37 : decode cX5_readCommand 37 = .ok (.ifCond .eq 7, 3) := by decide +kernel
theorem dX5_readCommand_40 : decode cX5_readCommand 40 = .ok (.iconst 1, 1) := by decide +kernel
theorem dX5_readCommand_41 : decode cX5_readCommand 41 = .ok (.goto 4, 3) := by decide +kernel
theorem dX5_readCommand_44 : decode cX5_readCommand 44 = .ok (.iconst 0, 1) := by decide +kernel
theorem dX5_readCommand_45 : decode cX5_readCommand 45 = .ok (.ireturn, 1) := by decide +kernel
theorem dX5_readCommand_46 : decode cX5_readCommand 46 = .ok (.aload_n 0, 1) := by decide +kernel
theorem dX5_readCommand_47 : decode cX5_readCommand 47 = .ok (.ldc 70, 2) := by decide +kernel
theorem dX5_readCommand_49 : decode cX5_readCommand 49 = .ok (.invokevirtual 53, 3) := by decide +kernel
theorem dX5_readCommand_52 : decode cX5_readCommand 52 = .ok (.ifCond .eq 28, 3) := by decide +kernel
theorem dX5_readCommand_55 : decode cX5_readCommand 55 = .ok (.aload_n 0, 1) := by decide +kernel
theorem dX5_readCommand_56 : decode cX5_readCommand 56 = .ok (.iconst 1, 1) := by decide +kernel
theorem dX5_readCommand_57 : decode cX5_readCommand 57 = .ok (.putfield 57, 3) := by decide +kernel
theorem dX5_readCommand_60 : decode cX5_readCommand 60 = .ok (.aload_n 0, 1) := by decide +kernel
theorem dX5_readCommand_61 : decode cX5_readCommand 61 = .ok (.invokevirtual 60, 3) := by decide +kernel
theorem dX5_readCommand_64 : decode cX5_readCommand 64 = .ok (.ifCond .eq 14, 3) := by decide +kernel
theorem dX5_readCommand_67 : decode cX5_readCommand 67 = .ok (.aload_n 0, 1) := by decide +kernel
theorem dX5_readCommand_68 : decode cX5_readCommand 68 = .ok (.invokevirtual 67, 3) := by decide +kernel
theorem dX5_readCommand_71 : decode cX5_readCommand 71 = .ok (.ifCond .eq 7, 3) := by decide +kernel
theorem dX5_readCommand_74 : decode cX5_readCommand 74 = .ok (.iconst 1, 1) := by decide +kernel
theorem dX5_readCommand_75 : decode cX5_readCommand 75 = .ok (.goto 4, 3) := by decide +kernel
theorem dX5_readCommand_78 : decode cX5_readCommand 78 = .ok (.iconst 0, 1) := by decide +kernel
theorem dX5_readCommand_79 : decode cX5_readCommand 79 = .ok (.ireturn, 1) := by decide +kernel
theorem dX5_readCommand_80 : decode cX5_readCommand 80 = .ok (.aload_n 0, 1) := by decide +kernel
theorem dX5_readCommand_81 : decode cX5_readCommand 81 = .ok (.iconst 2, 1) := by decide +kernel
theorem dX5_readCommand_82 : decode cX5_readCommand 82 = .ok (.putfield 57, 3) := by decide +kernel
theorem dX5_readCommand_85 : decode cX5_readCommand 85 = .ok (.aload_n 0, 1) := by decide +kernel
theorem dX5_readCommand_86 : decode cX5_readCommand 86 = .ok (.ldc 72, 2) := by decide +kernel
theorem dX5_readCommand_88 : decode cX5_readCommand 88 = .ok (.invokevirtual 53, 3) := by decide +kernel
theorem dX5_readCommand_91 : decode cX5_readCommand 91 = .ok (.ifCond .eq 69, 3) := by decide +kernel
theorem dX5_readCommand_94 : decode cX5_readCommand 94 = .ok (.aload_n 0, 1) := by decide +kernel
theorem dX5_readCommand_95 : decode cX5_readCommand 95 = .ok (.iconst 0, 1) := by decide +kernel
theorem dX5_readCommand_96 : decode cX5_readCommand 96 = .ok (.iconst 0, 1) := by decide +kernel
theorem dX5_readCommand_97 : decode cX5_readCommand 97 = .ok (.sipush 17575, 3) := by decide +kernel
theorem dX5_readCommand_100 : decode cX5_readCommand 100 = .ok (.invokevirtual 63, 3) := by decide +kernel
theorem dX5_readCommand_103 : decode cX5_readCommand 103 = .ok (.ifCond .eq 57, 3) := by decide +kernel
theorem dX5_readCommand_106 : decode cX5_readCommand 106 = .ok (.aload_n 0, 1) := by decide +kernel
theorem dX5_readCommand_107 : decode cX5_readCommand 107 = .ok (.iconst 1, 1) := by decide +kernel
theorem dX5_readCommand_108 : decode cX5_readCommand 108 = .ok (.iconst 1, 1) := by decide +kernel
theorem dX5_readCommand_109 : decode cX5_readCommand 109 = .ok (.bipush 99, 2) := by decide +kernel
theorem dX5_readCommand_111 : decode cX5_readCommand 111 = .ok (.invokevirtual 63, 3) := by decide +kernel
theorem dX5_readCommand_114 : decode cX5_readCommand 114 = .ok (.ifCond .eq 46, 3) := by decide +kernel
theorem dX5_readCommand_117 : decode cX5_readCommand 117 = .ok (.aload_n 0, 1) := by decide +kernel
theorem dX5_readCommand_118 : decode cX5_readCommand 118 = .ok (.iconst 2, 1) := by decide +kernel
theorem dX5_readCommand_119 : decode cX5_readCommand 119 = .ok (.iconst 1, 1) := by decide +kernel
theorem dX5_readCommand_120 : decode cX5_readCommand 120 = .ok (.bipush 60, 2) := by decide +kernel
theorem dX5_readCommand_122 : decode cX5_readCommand 122 = .ok (.invokevirtual 63, 3) := by decide +kernel
theorem dX5_readCommand_125 : decode cX5_readCommand 125 = .ok (.ifCond .eq 35, 3) := by decide +kernel
theorem dX5_readCommand_128 : decode cX5_readCommand 128 = .ok (.aload_n 0, 1) := by decide +kernel
theorem dX5_readCommand_129 : decode cX5_readCommand 129 = .ok (.iconst 0, 1) := by decide +kernel
theorem dX5_readCommand_130 : decode cX5_readCommand 130 = .ok (.invokevirtual 74, 3) := by decide +kernel
theorem dX5_readCommand_133 : decode cX5_readCommand 133 = .ok (.aload_n 0, 1) := by decide +kernel
theorem dX5_readCommand_134 : decode cX5_readCommand 134 = .ok (.iconst 1, 1) := by decide +kernel
theorem dX5_readCommand_135 : decode cX5_readCommand 135 = .ok (.invokevirtual 74, 3) := by decide +kernel
theorem dX5_readCommand_138 : decode cX5_readCommand 138 = .ok (.aload_n 0, 1) := by decide +kernel
theorem dX5_readCommand_139 : decode cX5_readCommand 139 = .ok (.iconst 2, 1) := by decide +kernel
theorem dX5_readCommand_140 : decode cX5_readCommand 140 = .ok (.invokevirtual 74, 3) := by decide +kernel
theorem dX5_readCommand_143 : decode cX5_readCommand 143 = .ok (.invokestatic 78, 3) := by decide +kernel
theorem dX5_readCommand_146 : decode cX5_readCommand 146 = .ok (.ifCond .eq 14, 3) := by decide +kernel
theorem dX5_readCommand_149 : decode cX5_readCommand 149 = .ok (.aload_n 0, 1) := by decide +kernel
theorem dX5_readCommand_150 : decode cX5_readCommand 150 = .ok (.invokevirtual 67, 3) := by decide +kernel
theorem dX5_readCommand_153 : decode cX5_readCommand 153 = .ok (.ifCond .eq 7, 3) := by decide +kernel
theorem dX5_readCommand_156 : decode cX5_readCommand 156 = .ok (.iconst 1, 1) := by decide +kernel
theorem dX5_readCommand_157 : decode cX5_readCommand 157 = .ok (.goto 4, 3) := by decide +kernel
theorem dX5_readCommand_160 : decode cX5_readCommand 160 = .ok (.iconst 0, 1) := by decide +kernel
theorem dX5_readCommand_161 : decode cX5_readCommand 161 = .ok (.ireturn, 1) := by decide +kernel
theorem dX5_number_0 : decode cX5_number 0 = .ok (.iload_n 1, 1) := by decide +kernel
theorem dX5_number_1 : decode cX5_number 1 = .ok (.ifCond .lt 21, 3) := by decide +kernel
theorem dX5_number_4 : decode cX5_number 4 = .ok (.iload_n 1, 1) := by decide +kernel
theorem dX5_number_5 : decode cX5_number 5 = .ok (.aload_n 0, 1) := by decide +kernel
theorem dX5_number_6 : decode cX5_number 6 = .ok (.getfield 22, 3) := by decide +kernel
theorem dX5_number_9 : decode cX5_number 9 = .ok (.arraylength, 1) := by decide +kernel
theorem dX5_number_10 : decode cX5_number 10 = .ok (.if_icmp .ge 12, 3) := by decide +kernel
theorem dX5_number_13 : decode cX5_number 13 = .ok (.aload_n 0, 1) := by decide +kernel
theorem dX5_number_14 : decode cX5_number 14 = .ok (.getfield 22, 3) := by decide +kernel
theorem dX5_number_17 : decode cX5_number 17 = .ok (.iload_n 1, 1) := by decide +kernel
theorem dX5_number_18 : decode cX5_number 18 = .ok (.iaload, 1) := by decide +kernel
theorem dX5_number_19 : decode cX5_number 19 = .ok (.goto 4, 3) := by decide +kernel
theorem dX5_number_22 : decode cX5_number 22 = .ok (.iconst 0, 1) := by decide +kernel
theorem dX5_number_23 : decode cX5_number 23 = .ok (.ireturn, 1) := by decide +kernel
theorem dX5_readKey_0 : decode cX5_readKey 0 = .ok (.aload_n 0, 1) := by decide +kernel
theorem dX5_readKey_1 : decode cX5_readKey 1 = .ok (.invokevirtual 45, 3) := by decide +kernel
theorem dX5_readKey_4 : decode cX5_readKey 4 = .ok (.aload_n 0, 1) := by decide +kernel
theorem dX5_readKey_5 : decode cX5_readKey 5 = .ok (.getfield 48, 3) := by decide +kernel
theorem dX5_readKey_8 : decode cX5_readKey 8 = .ok (.iconst 1, 1) := by decide +kernel
theorem dX5_readKey_9 : decode cX5_readKey 9 = .ok (.if_icmp .ne 17, 3) := by decide +kernel
theorem dX5_readKey_12 : decode cX5_readKey 12 = .ok (.aload_n 0, 1) := by decide +kernel
theorem dX5_readKey_13 : decode cX5_readKey 13 = .ok (.getfield 29, 3) := by decide +kernel
theorem dX5_readKey_16 : decode cX5_readKey 16 = .ok (.aload_n 0, 1) := by decide +kernel
theorem dX5_readKey_17 : decode cX5_readKey 17 = .ok (.getfield 42, 3) := by decide +kernel
theorem dX5_readKey_20 : decode cX5_readKey 20 = .ok (.isub, 1) := by decide +kernel
theorem dX5_readKey_21 : decode cX5_readKey 21 = .ok (.bipush 8, 2) := by decide +kernel
theorem dX5_readKey_23 : decode cX5_readKey 23 = .ok (.if_icmp .le 5, 3) := by decide +kernel
theorem dX5_readKey_26 : decode cX5_readKey 26 = .ok (.iconst 0, 1) := by decide +kernel
theorem dX5_readKey_27 : decode cX5_readKey 27 = .ok (.ireturn, 1) := by decide +kernel
theorem dX5_readKey_28 : decode cX5_readKey 28 = .ok (.aload_n 0, 1) := by decide +kernel
theorem dX5_readKey_29 : decode cX5_readKey 29 = .ok (.getfield 18, 3) := by decide +kernel
theorem dX5_readKey_32 : decode cX5_readKey 32 = .ok (.invokevirtual 81, 3) := by decide +kernel
theorem dX5_readKey_35 : decode cX5_readKey 35 = .ok (.aload_n 0, 1) := by decide +kernel
theorem dX5_readKey_36 : decode cX5_readKey 36 = .ok (.getfield 42, 3) := by decide +kernel
theorem dX5_readKey_39 : decode cX5_readKey 39 = .ok (.istore_n 1, 1) := by decide +kernel
theorem dX5_readKey_40 : decode cX5_readKey 40 = .ok (.iload_n 1, 1) := by decide +kernel
theorem dX5_readKey_41 : decode cX5_readKey 41 = .ok (.aload_n 0, 1) := by decide +kernel
theorem dX5_readKey_42 : decode cX5_readKey 42 = .ok (.getfield 29, 3) := by decide +kernel
theorem dX5_readKey_45 : decode cX5_readKey 45 = .ok (.if_icmp .ge 21, 3) := by decide +kernel
theorem dX5_readKey_48 : decode cX5_readKey 48 = .ok (.aload_n 0, 1) := by decide +kernel
theorem dX5_readKey_49 : decode cX5_readKey 49 = .ok (.getfield 18, 3) := by decide +kernel
theorem dX5_readKey_52 : decode cX5_readKey 52 = .ok (.aload_n 0, 1) := by decide +kernel
theorem dX5_readKey_53 : decode cX5_readKey 53 = .ok (.iload_n 1, 1) := by decide +kernel
theorem dX5_readKey_54 : decode cX5_readKey 54 = .ok (.invokevirtual 84, 3) := by decide +kernel
theorem dX5_readKey_57 : decode cX5_readKey 57 = .ok (.invokevirtual 87, 3) := by decide +kernel
theorem dX5_readKey_60 : decode cX5_readKey 60 = .ok (.iinc 1 1, 3) := by decide +kernel
theorem dX5_readKey_63 : decode cX5_readKey 63 = .ok (.goto (-23), 3) := by decide +kernel
theorem dX5_readKey_66 : decode cX5_readKey 66 = .ok (.iconst 1, 1) := by decide +kernel
theorem dX5_readKey_67 : decode cX5_readKey 67 = .ok (.ireturn, 1) := by decide +kernel
theorem dX5_readNumber_0 : decode cX5_readNumber 0 = .ok (.aload_n 0, 1) := by decide +kernel
theorem dX5_readNumber_1 : decode cX5_readNumber 1 = .ok (.invokevirtual 45, 3) := by decide +kernel
theorem dX5_readNumber_4 : decode cX5_readNumber 4 = .ok (.aload_n 0, 1) := by decide +kernel
theorem dX5_readNumber_5 : decode cX5_readNumber 5 = .ok (.getfield 48, 3) := by decide +kernel
theorem dX5_readNumber_8 : decode cX5_readNumber 8 = .ok (.iconst 2, 1) := by decide +kernel
theorem dX5_readNumber_9 : decode cX5_readNumber 9 = .ok (.if_icmp .ne 28, 3) := by decide +kernel
theorem dX5_readNumber_12 : decode cX5_readNumber 12 = .ok (.aload_n 0, 1) := by decide +kernel
theorem dX5_readNumber_13 : decode cX5_readNumber 13 = .ok (.getfield 91, 3) := by decide +kernel
theorem dX5_readNumber_16 : decode cX5_readNumber 16 = .ok (.iload_n 2, 1) := by decide +kernel
theorem dX5_readNumber_17 : decode cX5_readNumber 17 = .ok (.iload_n 3, 1) := by decide +kernel
theorem dX5_readNumber_18 : decode cX5_readNumber 18 = .ok (.invokestatic 94, 3) := by decide +kernel
theorem dX5_readNumber_21 : decode cX5_readNumber 21 = .ok (.ifCond .eq 16, 3) := by decide +kernel
theorem dX5_readNumber_24 : decode cX5_readNumber 24 = .ok (.iload_n 1, 1) := by decide +kernel
theorem dX5_readNumber_25 : decode cX5_readNumber 25 = .ok (.ifCond .lt 12, 3) := by decide +kernel
theorem dX5_readNumber_28 : decode cX5_readNumber 28 = .ok (.iload_n 1, 1) := by decide +kernel
theorem dX5_readNumber_29 : decode cX5_readNumber 29 = .ok (.aload_n 0, 1) := by decide +kernel
theorem dX5_readNumber_30 : decode cX5_readNumber 30 = .ok (.getfield 22, 3) := by decide +kernel
theorem dX5_readNumber_33 : decode cX5_readNumber 33 = .ok (.arraylength, 1) := by decide +kernel
theorem dX5_readNumber_34 : decode cX5_readNumber 34 = .ok (.if_icmp .lt 5, 3) := by decide +kernel
theorem dX5_readNumber_37 : decode cX5_readNumber 37 = .ok (.iconst 0, 1) := by decide +kernel
theorem dX5_readNumber_38 : decode cX5_readNumber 38 = .ok (.ireturn, 1) := by decide +kernel
theorem dX5_readNumber_39 : decode cX5_readNumber 39 = .ok (.aload_n 0, 1) := by decide +kernel
theorem dX5_readNumber_40 : decode cX5_readNumber 40 = .ok (.getfield 22, 3) := by decide +kernel
theorem dX5_readNumber_43 : decode cX5_readNumber 43 = .ok (.iload_n 1, 1) := by decide +kernel
theorem dX5_readNumber_44 : decode cX5_readNumber 44 = .ok (.aload_n 0, 1) := by decide +kernel
theorem dX5_readNumber_45 : decode cX5_readNumber 45 = .ok (.getfield 91, 3) := by decide +kernel
theorem dX5_readNumber_48 : decode cX5_readNumber 48 = .ok (.iastore, 1) := by decide +kernel
theorem dX5_readNumber_49 : decode cX5_readNumber 49 = .ok (.iconst 1, 1) := by decide +kernel
theorem dX5_readNumber_50 : decode cX5_readNumber 50 = .ok (.ireturn, 1) := by decide +kernel
theorem dX5_readStop_0 : decode cX5_readStop 0 = .ok (.aload_n 0, 1) := by decide +kernel
theorem dX5_readStop_1 : decode cX5_readStop 1 = .ok (.invokevirtual 45, 3) := by decide +kernel
theorem dX5_readStop_4 : decode cX5_readStop 4 = .ok (.aload_n 0, 1) := by decide +kernel
theorem dX5_readStop_5 : decode cX5_readStop 5 = .ok (.getfield 48, 3) := by decide +kernel
theorem dX5_readStop_8 : decode cX5_readStop 8 = .ok (.iconst 3, 1) := by decide +kernel
theorem dX5_readStop_9 : decode cX5_readStop 9 = .ok (.if_icmp .ne 7, 3) := by decide +kernel
theorem dX5_readStop_12 : decode cX5_readStop 12 = .ok (.iconst 1, 1) := by decide +kernel
theorem dX5_readStop_13 : decode cX5_readStop 13 = .ok (.goto 4, 3) := by decide +kernel
theorem dX5_readStop_16 : decode cX5_readStop 16 = .ok (.iconst 0, 1) := by decide +kernel
theorem dX5_readStop_17 : decode cX5_readStop 17 = .ok (.ireturn, 1) := by decide +kernel
theorem dX5_isWord_0 : decode cX5_isWord 0 = .ok (.aload_n 0, 1) := by decide +kernel
theorem dX5_isWord_1 : decode cX5_isWord 1 = .ok (.getfield 48, 3) := by decide +kernel
theorem dX5_isWord_4 : decode cX5_isWord 4 = .ok (.iconst 1, 1) := by decide +kernel
theorem dX5_isWord_5 : decode cX5_isWord 5 = .ok (.if_icmp .ne 19, 3) := by decide +kernel
theorem dX5_isWord_8 : decode cX5_isWord 8 = .ok (.aload_n 0, 1) := by decide +kernel
theorem dX5_isWord_9 : decode cX5_isWord 9 = .ok (.getfield 29, 3) := by decide +kernel
theorem dX5_isWord_12 : decode cX5_isWord 12 = .ok (.aload_n 0, 1) := by decide +kernel
theorem dX5_isWord_13 : decode cX5_isWord 13 = .ok (.getfield 42, 3) := by decide +kernel
theorem dX5_isWord_16 : decode cX5_isWord 16 = .ok (.isub, 1) := by decide +kernel
theorem dX5_isWord_17 : decode cX5_isWord 17 = .ok (.aload_n 1, 1) := by decide +kernel
theorem dX5_isWord_18 : decode cX5_isWord 18 = .ok (.invokevirtual 97, 3) := by decide +kernel
theorem dX5_isWord_21 : decode cX5_isWord 21 = .ok (.if_icmp .eq 5, 3) := by decide +kernel
theorem dX5_isWord_24 : decode cX5_isWord 24 = .ok (.iconst 0, 1) := by decide +kernel
theorem dX5_isWord_25 : decode cX5_isWord 25 = .ok (.ireturn, 1) := by decide +kernel
theorem dX5_isWord_26 : decode cX5_isWord 26 = .ok (.iconst 0, 1) := by decide +kernel
theorem dX5_isWord_27 : decode cX5_isWord 27 = .ok (.istore_n 2, 1) := by decide +kernel
theorem dX5_isWord_28 : decode cX5_isWord 28 = .ok (.iload_n 2, 1) := by decide +kernel
theorem dX5_isWord_29 : decode cX5_isWord 29 = .ok (.aload_n 1, 1) := by decide +kernel
theorem dX5_isWord_30 : decode cX5_isWord 30 = .ok (.invokevirtual 97, 3) := by decide +kernel
theorem dX5_isWord_33 : decode cX5_isWord 33 = .ok (.if_icmp .ge 29, 3) := by decide +kernel
theorem dX5_isWord_36 : decode cX5_isWord 36 = .ok (.aload_n 0, 1) := by decide +kernel
theorem dX5_isWord_37 : decode cX5_isWord 37 = .ok (.aload_n 0, 1) := by decide +kernel
theorem dX5_isWord_38 : decode cX5_isWord 38 = .ok (.getfield 42, 3) := by decide +kernel
theorem dX5_isWord_41 : decode cX5_isWord 41 = .ok (.iload_n 2, 1) := by decide +kernel
theorem dX5_isWord_42 : decode cX5_isWord 42 = .ok (.iadd, 1) := by decide +kernel
theorem dX5_isWord_43 : decode cX5_isWord 43 = .ok (.invokevirtual 84, 3) := by decide +kernel
theorem dX5_isWord_46 : decode cX5_isWord 46 = .ok (.aload_n 1, 1) := by decide +kernel
theorem dX5_isWord_47 : decode cX5_isWord 47 = .ok (.iload_n 2, 1) := by decide +kernel
theorem dX5_isWord_48 : decode cX5_isWord 48 = .ok (.invokevirtual 102, 3) := by decide +kernel
theorem dX5_isWord_51 : decode cX5_isWord 51 = .ok (.if_icmp .eq 5, 3) := by decide +kernel
theorem dX5_isWord_54 : decode cX5_isWord 54 = .ok (.iconst 0, 1) := by decide +kernel
theorem dX5_isWord_55 : decode cX5_isWord 55 = .ok (.ireturn, 1) := by decide +kernel
theorem dX5_isWord_56 : decode cX5_isWord 56 = .ok (.iinc 2 1, 3) := by decide +kernel
theorem dX5_isWord_59 : decode cX5_isWord 59 = .ok (.goto (-31), 3) := by decide +kernel
theorem dX5_isWord_62 : decode cX5_isWord 62 = .ok (.iconst 1, 1) := by decide +kernel
theorem dX5_isWord_63 : decode cX5_isWord 63 = .ok (.ireturn, 1) := by decide +kernel
theorem dX5_readToken_0 : decode cX5_readToken 0 = .ok (.aload_n 0, 1) := by decide +kernel
theorem dX5_readToken_1 : decode cX5_readToken 1 = .ok (.aload_n 0, 1) := by decide +kernel
theorem dX5_readToken_2 : decode cX5_readToken 2 = .ok (.getfield 29, 3) := by decide +kernel
theorem dX5_readToken_5 : decode cX5_readToken 5 = .ok (.putfield 42, 3) := by decide +kernel
theorem dX5_readToken_8 : decode cX5_readToken 8 = .ok (.aload_n 0, 1) := by decide +kernel
theorem dX5_readToken_9 : decode cX5_readToken 9 = .ok (.getfield 42, 3) := by decide +kernel
theorem dX5_readToken_12 : decode cX5_readToken 12 = .ok (.aload_n 0, 1) := by decide +kernel
theorem dX5_readToken_13 : decode cX5_readToken 13 = .ok (.getfield 25, 3) := by decide +kernel
theorem dX5_readToken_16 : decode cX5_readToken 16 = .ok (.if_icmp .ge 29, 3) := by decide +kernel
theorem dX5_readToken_19 : decode cX5_readToken 19 = .ok (.aload_n 0, 1) := by decide +kernel
theorem dX5_readToken_20 : decode cX5_readToken 20 = .ok (.aload_n 0, 1) := by decide +kernel
theorem dX5_readToken_21 : decode cX5_readToken 21 = .ok (.getfield 42, 3) := by decide +kernel
theorem dX5_readToken_24 : decode cX5_readToken 24 = .ok (.invokevirtual 84, 3) := by decide +kernel
theorem dX5_readToken_27 : decode cX5_readToken 27 = .ok (.bipush 32, 2) := by decide +kernel
theorem dX5_readToken_29 : decode cX5_readToken 29 = .ok (.if_icmp .ne 16, 3) := by decide +kernel
theorem dX5_readToken_32 : decode cX5_readToken 32 = .ok (.aload_n 0, 1) := by decide +kernel
theorem dX5_readToken_33 : decode cX5_readToken 33 = .ok (.dup, 1) := by decide +kernel
theorem dX5_readToken_34 : decode cX5_readToken 34 = .ok (.getfield 42, 3) := by decide +kernel
theorem dX5_readToken_37 : decode cX5_readToken 37 = .ok (.iconst 1, 1) := by decide +kernel
theorem dX5_readToken_38 : decode cX5_readToken 38 = .ok (.iadd, 1) := by decide +kernel
theorem dX5_readToken_39 : decode cX5_readToken 39 = .ok (.putfield 42, 3) := by decide +kernel
theorem dX5_readToken_42 : decode cX5_readToken 42 = .ok (.goto (-34), 3) := by decide +kernel
theorem dX5_readToken_45 : decode cX5_readToken 45 = .ok (.aload_n 0, 1) := by decide +kernel
theorem dX5_readToken_46 : decode cX5_readToken 46 = .ok (.getfield 42, 3) := by decide +kernel
theorem dX5_readToken_49 : decode cX5_readToken 49 = .ok (.aload_n 0, 1) := by decide +kernel
theorem dX5_readToken_50 : decode cX5_readToken 50 = .ok (.getfield 25, 3) := by decide +kernel
theorem dX5_readToken_53 : decode cX5_readToken 53 = .ok (.if_icmp .lt 17, 3) := by decide +kernel
theorem dX5_readToken_56 : decode cX5_readToken 56 = .ok (.aload_n 0, 1) := by decide +kernel
theorem dX5_readToken_57 : decode cX5_readToken 57 = .ok (.iconst 0, 1) := by decide +kernel
theorem dX5_readToken_58 : decode cX5_readToken 58 = .ok (.putfield 48, 3) := by decide +kernel
theorem dX5_readToken_61 : decode cX5_readToken 61 = .ok (.aload_n 0, 1) := by decide +kernel
theorem dX5_readToken_62 : decode cX5_readToken 62 = .ok (.aload_n 0, 1) := by decide +kernel
theorem dX5_readToken_63 : decode cX5_readToken 63 = .ok (.getfield 42, 3) := by decide +kernel
theorem dX5_readToken_66 : decode cX5_readToken 66 = .ok (.putfield 29, 3) := by decide +kernel
theorem dX5_readToken_69 : decode cX5_readToken 69 = .ok (.return_, 1) := by decide +kernel
theorem dX5_readToken_70 : decode cX5_readToken 70 = .ok (.aload_n 0, 1) := by decide +kernel
theorem dX5_readToken_71 : decode cX5_readToken 71 = .ok (.aload_n 0, 1) := by decide +kernel
theorem dX5_readToken_72 : decode cX5_readToken 72 = .ok (.getfield 42, 3) := by decide +kernel
theorem dX5_readToken_75 : decode cX5_readToken 75 = .ok (.iconst 1, 1) := by decide +kernel
theorem dX5_readToken_76 : decode cX5_readToken 76 = .ok (.iadd, 1) := by decide +kernel
theorem dX5_readToken_77 : decode cX5_readToken 77 = .ok (.putfield 29, 3) := by decide +kernel
theorem dX5_readToken_80 : decode cX5_readToken 80 = .ok (.aload_n 0, 1) := by decide +kernel
theorem dX5_readToken_81 : decode cX5_readToken 81 = .ok (.aload_n 0, 1) := by decide +kernel
theorem dX5_readToken_82 : decode cX5_readToken 82 = .ok (.getfield 42, 3) := by decide +kernel
theorem dX5_readToken_85 : decode cX5_readToken 85 = .ok (.invokevirtual 84, 3) := by decide +kernel
theorem dX5_readToken_88 : decode cX5_readToken 88 = .ok (.invokestatic 106, 3) := by decide +kernel
theorem dX5_readToken_91 : decode cX5_readToken 91 = .ok (.ifCond .eq 46, 3) := by decide +kernel
theorem dX5_readToken_94 : decode cX5_readToken 94 = .ok (.aload_n 0, 1) := by decide +kernel
theorem dX5_readToken_95 : decode cX5_readToken 95 = .ok (.iconst 1, 1) := by decide +kernel
theorem dX5_readToken_96 : decode cX5_readToken 96 = .ok (.putfield 48, 3) := by decide +kernel
theorem dX5_readToken_99 : decode cX5_readToken 99 = .ok (.aload_n 0, 1) := by decide +kernel
theorem dX5_readToken_100 : decode cX5_readToken 100 = .ok (.getfield 29, 3) := by decide +kernel
theorem dX5_readToken_103 : decode cX5_readToken 103 = .ok (.aload_n 0, 1) := by decide +kernel
theorem dX5_readToken_104 : decode cX5_readToken 104 = .ok (.getfield 25, 3) := by decide +kernel
theorem dX5_readToken_107 : decode cX5_readToken 107 = .ok (.if_icmp .ge 73, 3) := by decide +kernel
theorem dX5_readToken_110 : decode cX5_readToken 110 = .ok (.aload_n 0, 1) := by decide +kernel
theorem dX5_readToken_111 : decode cX5_readToken 111 = .ok (.aload_n 0, 1) := by decide +kernel
theorem dX5_readToken_112 : decode cX5_readToken 112 = .ok (.getfield 29, 3) := by decide +kernel
theorem dX5_readToken_115 : decode cX5_readToken 115 = .ok (.invokevirtual 84, 3) := by decide +kernel
theorem dX5_readToken_118 : decode cX5_readToken 118 = .ok (.invokestatic 106, 3) := by decide +kernel
theorem dX5_readToken_121 : decode cX5_readToken 121 = .ok (.ifCond .eq 59, 3) := by decide +kernel
theorem dX5_readToken_124 : decode cX5_readToken 124 = .ok (.aload_n 0, 1) := by decide +kernel
theorem dX5_readToken_125 : decode cX5_readToken 125 = .ok (.dup, 1) := by decide +kernel
theorem dX5_readToken_126 : decode cX5_readToken 126 = .ok (.getfield 29, 3) := by decide +kernel
theorem dX5_readToken_129 : decode cX5_readToken 129 = .ok (.iconst 1, 1) := by decide +kernel
theorem dX5_readToken_130 : decode cX5_readToken 130 = .ok (.iadd, 1) := by decide +kernel
theorem dX5_readToken_131 : decode cX5_readToken 131 = .ok (.putfield 29, 3) := by decide +kernel
theorem dX5_readToken_134 : decode cX5_readToken 134 = .ok (.goto (-35), 3) := by decide +kernel
theorem dX5_readToken_137 : decode cX5_readToken 137 = .ok (.aload_n 0, 1) := by decide +kernel
theorem dX5_readToken_138 : decode cX5_readToken 138 = .ok (.aload_n 0, 1) := by decide +kernel
theorem dX5_readToken_139 : decode cX5_readToken 139 = .ok (.getfield 42, 3) := by decide +kernel
theorem dX5_readToken_142 : decode cX5_readToken 142 = .ok (.invokevirtual 84, 3) := by decide +kernel
theorem dX5_readToken_145 : decode cX5_readToken 145 = .ok (.invokestatic 110, 3) := by decide +kernel
theorem dX5_readToken_148 : decode cX5_readToken 148 = .ok (.ifCond .eq 10, 3) := by decide +kernel
theorem dX5_readToken_151 : decode cX5_readToken 151 = .ok (.aload_n 0, 1) := by decide +kernel
theorem dX5_readToken_152 : decode cX5_readToken 152 = .ok (.invokevirtual 113, 3) := by decide +kernel
theorem dX5_readToken_155 : decode cX5_readToken 155 = .ok (.goto 25, 3) := by decide +kernel
theorem dX5_readToken_158 : decode cX5_readToken 158 = .ok (.aload_n 0, 1) := by decide +kernel
theorem dX5_readToken_159 : decode cX5_readToken 159 = .ok (.aload_n 0, 1) := by decide +kernel
theorem dX5_readToken_160 : decode cX5_readToken 160 = .ok (.aload_n 0, 1) := by decide +kernel
theorem dX5_readToken_161 : decode cX5_readToken 161 = .ok (.getfield 42, 3) := by decide +kernel
theorem dX5_readToken_164 : decode cX5_readToken 164 = .ok (.invokevirtual 84, 3) := by decide +kernel
theorem dX5_readToken_167 : decode cX5_readToken 167 = .ok (.bipush 59, 2) := by decide +kernel
theorem dX5_readToken_169 : decode cX5_readToken 169 = .ok (.if_icmp .ne 7, 3) := by decide +kernel
theorem dX5_readToken_172 : decode cX5_readToken 172 = .ok (.iconst 3, 1) := by decide +kernel
theorem dX5_readToken_173 : decode cX5_readToken 173 = .ok (.goto 4, 3) := by decide +kernel
theorem dX5_readToken_176 : decode cX5_readToken 176 = .ok (.iconst 4, 1) := by decide +kernel
theorem dX5_readToken_177 : decode cX5_readToken 177 = .ok (.putfield 48, 3) := by decide +kernel
theorem dX5_readToken_180 : decode cX5_readToken 180 = .ok (.return_, 1) := by decide +kernel
theorem dX5_readFigures_0 : decode cX5_readFigures 0 = .ok (.aload_n 0, 1) := by decide +kernel
theorem dX5_readFigures_1 : decode cX5_readFigures 1 = .ok (.aload_n 0, 1) := by decide +kernel
theorem dX5_readFigures_2 : decode cX5_readFigures 2 = .ok (.aload_n 0, 1) := by decide +kernel
theorem dX5_readFigures_3 : decode cX5_readFigures 3 = .ok (.getfield 42, 3) := by decide +kernel
theorem dX5_readFigures_6 : decode cX5_readFigures 6 = .ok (.invokevirtual 84, 3) := by decide +kernel
theorem dX5_readFigures_9 : decode cX5_readFigures 9 = .ok (.bipush 48, 2) := by decide +kernel
theorem dX5_readFigures_11 : decode cX5_readFigures 11 = .ok (.isub, 1) := by decide +kernel
theorem dX5_readFigures_12 : decode cX5_readFigures 12 = .ok (.putfield 91, 3) := by decide +kernel
theorem dX5_readFigures_15 : decode cX5_readFigures 15 = .ok (.aload_n 0, 1) := by decide +kernel
theorem dX5_readFigures_16 : decode cX5_readFigures 16 = .ok (.getfield 29, 3) := by decide +kernel
theorem dX5_readFigures_19 : decode cX5_readFigures 19 = .ok (.aload_n 0, 1) := by decide +kernel
theorem dX5_readFigures_20 : decode cX5_readFigures 20 = .ok (.getfield 25, 3) := by decide +kernel
theorem dX5_readFigures_23 : decode cX5_readFigures 23 = .ok (.if_icmp .ge 62, 3) := by decide +kernel
theorem dX5_readFigures_26 : decode cX5_readFigures 26 = .ok (.aload_n 0, 1) := by decide +kernel
theorem dX5_readFigures_27 : decode cX5_readFigures 27 = .ok (.aload_n 0, 1) := by decide +kernel
theorem dX5_readFigures_28 : decode cX5_readFigures 28 = .ok (.getfield 29, 3) := by decide +kernel
theorem dX5_readFigures_31 : decode cX5_readFigures 31 = .ok (.invokevirtual 84, 3) := by decide +kernel
theorem dX5_readFigures_34 : decode cX5_readFigures 34 = .ok (.invokestatic 110, 3) := by decide +kernel
theorem dX5_readFigures_37 : decode cX5_readFigures 37 = .ok (.ifCond .eq 48, 3) := by decide +kernel
theorem dX5_readFigures_40 : decode cX5_readFigures 40 = .ok (.aload_n 0, 1) := by decide +kernel
theorem dX5_readFigures_41 : decode cX5_readFigures 41 = .ok (.getfield 91, 3) := by decide +kernel
theorem dX5_readFigures_44 : decode cX5_readFigures 44 = .ok (.ldc 116, 2) := by decide +kernel
theorem dX5_readFigures_46 : decode cX5_readFigures 46 = .ok (.if_icmp .gt 26, 3) := by decide +kernel
theorem dX5_readFigures_49 : decode cX5_readFigures 49 = .ok (.aload_n 0, 1) := by decide +kernel
theorem dX5_readFigures_50 : decode cX5_readFigures 50 = .ok (.bipush 10, 2) := by decide +kernel
theorem dX5_readFigures_52 : decode cX5_readFigures 52 = .ok (.aload_n 0, 1) := by decide +kernel
theorem dX5_readFigures_53 : decode cX5_readFigures 53 = .ok (.getfield 91, 3) := by decide +kernel
theorem dX5_readFigures_56 : decode cX5_readFigures 56 = .ok (.imul, 1) := by decide +kernel
theorem dX5_readFigures_57 : decode cX5_readFigures 57 = .ok (.aload_n 0, 1) := by decide +kernel
theorem dX5_readFigures_58 : decode cX5_readFigures 58 = .ok (.aload_n 0, 1) := by decide +kernel
theorem dX5_readFigures_59 : decode cX5_readFigures 59 = .ok (.getfield 29, 3) := by decide +kernel
theorem dX5_readFigures_62 : decode cX5_readFigures 62 = .ok (.invokevirtual 84, 3) := by decide +kernel
theorem dX5_readFigures_65 : decode cX5_readFigures 65 = .ok (.iadd, 1) := by decide +kernel
theorem dX5_readFigures_66 : decode cX5_readFigures 66 = .ok (.bipush 48, 2) := by decide +kernel
theorem dX5_readFigures_68 : decode cX5_readFigures 68 = .ok (.isub, 1) := by decide +kernel
theorem dX5_readFigures_69 : decode cX5_readFigures 69 = .ok (.putfield 91, 3) := by decide +kernel
theorem dX5_readFigures_72 : decode cX5_readFigures 72 = .ok (.aload_n 0, 1) := by decide +kernel
theorem dX5_readFigures_73 : decode cX5_readFigures 73 = .ok (.dup, 1) := by decide +kernel
theorem dX5_readFigures_74 : decode cX5_readFigures 74 = .ok (.getfield 29, 3) := by decide +kernel
theorem dX5_readFigures_77 : decode cX5_readFigures 77 = .ok (.iconst 1, 1) := by decide +kernel
theorem dX5_readFigures_78 : decode cX5_readFigures 78 = .ok (.iadd, 1) := by decide +kernel
theorem dX5_readFigures_79 : decode cX5_readFigures 79 = .ok (.putfield 29, 3) := by decide +kernel
theorem dX5_readFigures_82 : decode cX5_readFigures 82 = .ok (.goto (-67), 3) := by decide +kernel
theorem dX5_readFigures_85 : decode cX5_readFigures 85 = .ok (.aload_n 0, 1) := by decide +kernel
theorem dX5_readFigures_86 : decode cX5_readFigures 86 = .ok (.aload_n 0, 1) := by decide +kernel
theorem dX5_readFigures_87 : decode cX5_readFigures 87 = .ok (.getfield 42, 3) := by decide +kernel
theorem dX5_readFigures_90 : decode cX5_readFigures 90 = .ok (.invokevirtual 84, 3) := by decide +kernel
theorem dX5_readFigures_93 : decode cX5_readFigures 93 = .ok (.bipush 48, 2) := by decide +kernel
theorem dX5_readFigures_95 : decode cX5_readFigures 95 = .ok (.if_icmp .ne 20, 3) := by decide +kernel
theorem dX5_readFigures_98 : decode cX5_readFigures 98 = .ok (.aload_n 0, 1) := by decide +kernel
theorem dX5_readFigures_99 : decode cX5_readFigures 99 = .ok (.getfield 29, 3) := by decide +kernel
theorem dX5_readFigures_102 : decode cX5_readFigures 102 = .ok (.aload_n 0, 1) := by decide +kernel
theorem dX5_readFigures_103 : decode cX5_readFigures 103 = .ok (.getfield 42, 3) := by decide +kernel
theorem dX5_readFigures_106 : decode cX5_readFigures 106 = .ok (.isub, 1) := by decide +kernel
theorem dX5_readFigures_107 : decode cX5_readFigures 107 = .ok (.iconst 1, 1) := by decide +kernel
theorem dX5_readFigures_108 : decode cX5_readFigures 108 = .ok (.if_icmp .le 7, 3) := by decide +kernel
theorem dX5_readFigures_111 : decode cX5_readFigures 111 = .ok (.iconst 1, 1) := by decide +kernel
theorem dX5_readFigures_112 : decode cX5_readFigures 112 = .ok (.goto 4, 3) := by decide +kernel
theorem dX5_readFigures_115 : decode cX5_readFigures 115 = .ok (.iconst 0, 1) := by decide +kernel
theorem dX5_readFigures_116 : decode cX5_readFigures 116 = .ok (.istore_n 1, 1) := by decide +kernel
theorem dX5_readFigures_117 : decode cX5_readFigures 117 = .ok (.aload_n 0, 1) := by decide +kernel
theorem dX5_readFigures_118 : decode cX5_readFigures 118 = .ok (.aload_n 0, 1) := by decide +kernel
theorem dX5_readFigures_119 : decode cX5_readFigures 119 = .ok (.getfield 91, 3) := by decide +kernel
theorem dX5_readFigures_122 : decode cX5_readFigures 122 = .ok (.ldc 116, 2) := by decide +kernel
theorem dX5_readFigures_124 : decode cX5_readFigures 124 = .ok (.if_icmp .gt 7, 3) := by decide +kernel
theorem dX5_readFigures_127 : decode cX5_readFigures 127 = .ok (.iload_n 1, 1) := by decide +kernel
theorem dX5_readFigures_128 : decode cX5_readFigures 128 = .ok (.ifCond .eq 7, 3) := by decide +kernel
theorem dX5_readFigures_131 : decode cX5_readFigures 131 = .ok (.iconst 4, 1) := by decide +kernel
theorem dX5_readFigures_132 : decode cX5_readFigures 132 = .ok (.goto 4, 3) := by decide +kernel
theorem dX5_readFigures_135 : decode cX5_readFigures 135 = .ok (.iconst 2, 1) := by decide +kernel
theorem dX5_readFigures_136 : decode cX5_readFigures 136 = .ok (.putfield 48, 3) := by decide +kernel
theorem dX5_readFigures_139 : decode cX5_readFigures 139 = .ok (.return_, 1) := by decide +kernel
theorem dX5_isFigure_0 : decode cX5_isFigure 0 = .ok (.iload_n 0, 1) := by decide +kernel
theorem dX5_isFigure_1 : decode cX5_isFigure 1 = .ok (.bipush 48, 2) := by decide +kernel
theorem dX5_isFigure_3 : decode cX5_isFigure 3 = .ok (.if_icmp .lt 13, 3) := by decide +kernel
theorem dX5_isFigure_6 : decode cX5_isFigure 6 = .ok (.iload_n 0, 1) := by decide +kernel
theorem dX5_isFigure_7 : decode cX5_isFigure 7 = .ok (.bipush 57, 2) := by decide +kernel
theorem dX5_isFigure_9 : decode cX5_isFigure 9 = .ok (.if_icmp .gt 7, 3) := by decide +kernel
theorem dX5_isFigure_12 : decode cX5_isFigure 12 = .ok (.iconst 1, 1) := by decide +kernel
theorem dX5_isFigure_13 : decode cX5_isFigure 13 = .ok (.goto 4, 3) := by decide +kernel
theorem dX5_isFigure_16 : decode cX5_isFigure 16 = .ok (.iconst 0, 1) := by decide +kernel
theorem dX5_isFigure_17 : decode cX5_isFigure 17 = .ok (.ireturn, 1) := by decide +kernel
theorem dX6_init_0 : decode cX6_init 0 = .ok (.aload_n 0, 1) := by decide +kernel
theorem dX6_init_1 : decode cX6_init 1 = .ok (.invokespecial 3, 3) := by decide +kernel
theorem dX6_init_4 : decode cX6_init 4 = .ok (.aload_n 0, 1) := by decide +kernel
theorem dX6_init_5 : decode cX6_init 5 = .ok (.bipush 32, 2) := by decide +kernel
theorem dX6_init_7 : decode cX6_init 7 = .ok (.anewarray 9, 3) := by decide +kernel
theorem dX6_init_10 : decode cX6_init 10 = .ok (.putfield 11, 3) := by decide +kernel
theorem dX6_init_13 : decode cX6_init 13 = .ok (.aload_n 0, 1) := by decide +kernel
theorem dX6_init_14 : decode cX6_init 14 = .ok (.new 9, 3) := by decide +kernel
theorem dX6_init_17 : decode cX6_init 17 = .ok (.dup, 1) := by decide +kernel
theorem dX6_init_18 : decode cX6_init 18 = .ok (.bipush 64, 2) := by decide +kernel
theorem dX6_init_20 : decode cX6_init 20 = .ok (.invokespecial 17, 3) := by decide +kernel
theorem dX6_init_23 : decode cX6_init 23 = .ok (.putfield 20, 3) := by decide +kernel
theorem dX6_init_26 : decode cX6_init 26 = .ok (.aload_n 0, 1) := by decide +kernel
theorem dX6_init_27 : decode cX6_init 27 = .ok (.bipush 32, 2) := by decide +kernel
theorem dX6_init_29 : decode cX6_init 29 = .ok (.newarray .int, 2) := by decide +kernel
theorem dX6_init_31 : decode cX6_init 31 = .ok (.putfield 24, 3) := by decide +kernel
theorem dX6_init_34 : decode cX6_init 34 = .ok (.aload_n 0, 1) := by decide +kernel
theorem dX6_init_35 : decode cX6_init 35 = .ok (.bipush 32, 2) := by decide +kernel
theorem dX6_init_37 : decode cX6_init 37 = .ok (.newarray .int, 2) := by decide +kernel
theorem dX6_init_39 : decode cX6_init 39 = .ok (.putfield 28, 3) := by decide +kernel
theorem dX6_init_42 : decode cX6_init 42 = .ok (.aload_n 0, 1) := by decide +kernel
theorem dX6_init_43 : decode cX6_init 43 = .ok (.iconst 1, 1) := by decide +kernel
theorem dX6_init_44 : decode cX6_init 44 = .ok (.putfield 31, 3) := by decide +kernel
theorem dX6_init_47 : decode cX6_init 47 = .ok (.iconst 0, 1) := by decide +kernel
theorem dX6_init_48 : decode cX6_init 48 = .ok (.istore_n 1, 1) := by decide +kernel
theorem dX6_init_49 : decode cX6_init 49 = .ok (.iload_n 1, 1) := by decide +kernel
theorem dX6_init_50 : decode cX6_init 50 = .ok (.bipush 32, 2) := by decide +kernel
theorem dX6_init_52 : decode cX6_init 52 = .ok (.if_icmp .ge 24, 3) := by decide +kernel
theorem dX6_init_55 : decode cX6_init 55 = .ok (.aload_n 0, 1) := by decide +kernel
theorem dX6_init_56 : decode cX6_init 56 = .ok (.getfield 11, 3) := by decide +kernel
theorem dX6_init_59 : decode cX6_init 59 = .ok (.iload_n 1, 1) := by decide +kernel
theorem dX6_init_60 : decode cX6_init 60 = .ok (.new 9, 3) := by decide +kernel
theorem dX6_init_63 : decode cX6_init 63 = .ok (.dup, 1) := by decide +kernel
theorem dX6_init_64 : decode cX6_init 64 = .ok (.bipush 64, 2) := by decide +kernel
theorem dX6_init_66 : decode cX6_init 66 = .ok (.invokespecial 17, 3) := by decide +kernel
theorem dX6_init_69 : decode cX6_init 69 = .ok (.aastore, 1) := by decide +kernel
theorem dX6_init_70 : decode cX6_init 70 = .ok (.iinc 1 1, 3) := by decide +kernel
theorem dX6_init_73 : decode cX6_init 73 = .ok (.goto (-24), 3) := by decide +kernel
theorem dX6_init_76 : decode cX6_init 76 = .ok (.aload_n 0, 1) := by decide +kernel
theorem dX6_init_77 : decode cX6_init 77 = .ok (.getfield 11, 3) := by decide +kernel
theorem dX6_init_80 : decode cX6_init 80 = .ok (.iconst 0, 1) := by decide +kernel
theorem dX6_init_81 : decode cX6_init 81 = .ok (.aaload, 1) := by decide +kernel
theorem dX6_init_82 : decode cX6_init 82 = .ok (.iconst 1, 1) := by decide +kernel
theorem dX6_init_83 : decode cX6_init 83 = .ok (.iconst 0, 1) := by decide +kernel
theorem dX6_init_84 : decode cX6_init 84 = .ok (.invokevirtual 35, 3) := by decide +kernel
theorem dX6_init_87 : decode cX6_init 87 = .ok (.return_, 1) := by decide +kernel
theorem dX6_pageOf_0 : decode cX6_pageOf 0 = .ok (.iload_n 1, 1) := by decide +kernel
theorem dX6_pageOf_1 : decode cX6_pageOf 1 = .ok (.ifCond .lt 21, 3) := by decide +kernel
theorem dX6_pageOf_4 : decode cX6_pageOf 4 = .ok (.iload_n 1, 1) := by decide +kernel
theorem dX6_pageOf_5 : decode cX6_pageOf 5 = .ok (.aload_n 0, 1) := by decide +kernel
theorem dX6_pageOf_6 : decode cX6_pageOf 6 = .ok (.getfield 11, 3) := by decide +kernel
theorem dX6_pageOf_9 : decode cX6_pageOf 9 = .ok (.arraylength, 1) := by decide +kernel
theorem dX6_pageOf_10 : decode cX6_pageOf 10 = .ok (.if_icmp .ge 12, 3) := by decide +kernel
theorem dX6_pageOf_13 : decode cX6_pageOf 13 = .ok (.aload_n 0, 1) := by decide +kernel
theorem dX6_pageOf_14 : decode cX6_pageOf 14 = .ok (.getfield 11, 3) := by decide +kernel
theorem dX6_pageOf_17 : decode cX6_pageOf 17 = .ok (.iload_n 1, 1) := by decide +kernel
theorem dX6_pageOf_18 : decode cX6_pageOf 18 = .ok (.aaload, 1) := by decide +kernel
theorem dX6_pageOf_19 : decode cX6_pageOf 19 = .ok (.goto 7, 3) := by decide +kernel
theorem dX6_pageOf_22 : decode cX6_pageOf 22 = .ok (.aload_n 0, 1) := by decide +kernel
theorem dX6_pageOf_23 : decode cX6_pageOf 23 = .ok (.getfield 20, 3) := by decide +kernel
theorem dX6_pageOf_26 : decode cX6_pageOf 26 = .ok (.areturn, 1) := by decide +kernel
theorem dX6_lowestFree_0 : decode cX6_lowestFree 0 = .ok (.iconst 0, 1) := by decide +kernel
theorem dX6_lowestFree_1 : decode cX6_lowestFree 1 = .ok (.istore_n 1, 1) := by decide +kernel
theorem dX6_lowestFree_2 : decode cX6_lowestFree 2 = .ok (.iload_n 1, 1) := by decide +kernel
theorem dX6_lowestFree_3 : decode cX6_lowestFree 3 = .ok (.bipush 32, 2) := by decide +kernel
theorem dX6_lowestFree_5 : decode cX6_lowestFree 5 = .ok (.if_icmp .ge 20, 3) := by decide +kernel
theorem dX6_lowestFree_8 : decode cX6_lowestFree 8 = .ok (.aload_n 0, 1) := by decide +kernel
theorem dX6_lowestFree_9 : decode cX6_lowestFree 9 = .ok (.iload_n 1, 1) := by decide +kernel
theorem dX6_lowestFree_10 : decode cX6_lowestFree 10 = .ok (.invokevirtual 39, 3) := by decide +kernel
theorem dX6_lowestFree_13 : decode cX6_lowestFree 13 = .ok (.invokevirtual 43, 3) := by decide +kernel
theorem dX6_lowestFree_16 : decode cX6_lowestFree 16 = .ok (.ifCond .eq 9, 3) := by decide +kernel
theorem dX6_lowestFree_19 : decode cX6_lowestFree 19 = .ok (.iinc 1 1, 3) := by decide +kernel
theorem dX6_lowestFree_22 : decode cX6_lowestFree 22 = .ok (.goto (-20), 3) := by decide +kernel
theorem dX6_lowestFree_25 : decode cX6_lowestFree 25 = .ok (.iload_n 1, 1) := by decide +kernel
theorem dX6_lowestFree_26 : decode cX6_lowestFree 26 = .ok (.ireturn, 1) := by decide +kernel
theorem dX6_goDown_0 : decode cX6_goDown 0 = .ok (.aload_n 0, 1) := by decide +kernel
theorem dX6_goDown_1 : decode cX6_goDown 1 = .ok (.getfield 24, 3) := by decide +kernel
theorem dX6_goDown_4 : decode cX6_goDown 4 = .ok (.iconst 0, 1) := by decide +kernel
theorem dX6_goDown_5 : decode cX6_goDown 5 = .ok (.aload_n 0, 1) := by decide +kernel
theorem dX6_goDown_6 : decode cX6_goDown 6 = .ok (.getfield 47, 3) := by decide +kernel
theorem dX6_goDown_9 : decode cX6_goDown 9 = .ok (.iastore, 1) := by decide +kernel
theorem dX6_goDown_10 : decode cX6_goDown 10 = .ok (.iconst 1, 1) := by decide +kernel
theorem dX6_goDown_11 : decode cX6_goDown 11 = .ok (.istore_n 2, 1) := by decide +kernel
theorem dX6_goDown_12 : decode cX6_goDown 12 = .ok (.iload_n 2, 1) := by decide +kernel
theorem dX6_goDown_13 : decode cX6_goDown 13 = .ok (.aload_n 0, 1) := by decide +kernel
theorem dX6_goDown_14 : decode cX6_goDown 14 = .ok (.getfield 31, 3) := by decide +kernel
theorem dX6_goDown_17 : decode cX6_goDown 17 = .ok (.if_icmp .ge 68, 3) := by decide +kernel
theorem dX6_goDown_20 : decode cX6_goDown 20 = .ok (.iload_n 2, 1) := by decide +kernel
theorem dX6_goDown_21 : decode cX6_goDown 21 = .ok (.aload_n 0, 1) := by decide +kernel
theorem dX6_goDown_22 : decode cX6_goDown 22 = .ok (.getfield 24, 3) := by decide +kernel
theorem dX6_goDown_25 : decode cX6_goDown 25 = .ok (.arraylength, 1) := by decide +kernel
theorem dX6_goDown_26 : decode cX6_goDown 26 = .ok (.if_icmp .ge 59, 3) := by decide +kernel
theorem dX6_goDown_29 : decode cX6_goDown 29 = .ok (.iload_n 2, 1) := by decide +kernel
theorem dX6_goDown_30 : decode cX6_goDown 30 = .ok (.aload_n 0, 1) := by decide +kernel
theorem dX6_goDown_31 : decode cX6_goDown 31 = .ok (.getfield 28, 3) := by decide +kernel
theorem dX6_goDown_34 : decode cX6_goDown 34 = .ok (.arraylength, 1) := by decide +kernel
theorem dX6_goDown_35 : decode cX6_goDown 35 = .ok (.if_icmp .ge 50, 3) := by decide +kernel
theorem dX6_goDown_38 : decode cX6_goDown 38 = .ok (.aload_n 0, 1) := by decide +kernel
theorem dX6_goDown_39 : decode cX6_goDown 39 = .ok (.aload_n 0, 1) := by decide +kernel
theorem dX6_goDown_40 : decode cX6_goDown 40 = .ok (.getfield 24, 3) := by decide +kernel
theorem dX6_goDown_43 : decode cX6_goDown 43 = .ok (.iload_n 2, 1) := by decide +kernel
theorem dX6_goDown_44 : decode cX6_goDown 44 = .ok (.iconst 1, 1) := by decide +kernel
theorem dX6_goDown_45 : decode cX6_goDown 45 = .ok (.isub, 1) := by decide +kernel
theorem dX6_goDown_46 : decode cX6_goDown 46 = .ok (.iaload, 1) := by decide +kernel
theorem dX6_goDown_47 : decode cX6_goDown 47 = .ok (.invokevirtual 39, 3) := by decide +kernel
theorem dX6_goDown_50 : decode cX6_goDown 50 = .ok (.astore_n 3, 1) := by decide +kernel
theorem dX6_goDown_51 : decode cX6_goDown 51 = .ok (.aload_n 0, 1) := by decide +kernel
theorem dX6_goDown_52 : decode cX6_goDown 52 = .ok (.getfield 28, 3) := by decide +kernel
theorem dX6_goDown_55 : decode cX6_goDown 55 = .ok (.iload_n 2, 1) := by decide +kernel
theorem dX6_goDown_56 : decode cX6_goDown 56 = .ok (.aload_n 3, 1) := by decide +kernel
theorem dX6_goDown_57 : decode cX6_goDown 57 = .ok (.aload_n 1, 1) := by decide +kernel
theorem dX6_goDown_58 : decode cX6_goDown 58 = .ok (.iconst 1, 1) := by decide +kernel
theorem dX6_goDown_59 : decode cX6_goDown 59 = .ok (.invokevirtual 50, 3) := by decide +kernel
theorem dX6_goDown_62 : decode cX6_goDown 62 = .ok (.iastore, 1) := by decide +kernel
theorem dX6_goDown_63 : decode cX6_goDown 63 = .ok (.aload_n 0, 1) := by decide +kernel
theorem dX6_goDown_64 : decode cX6_goDown 64 = .ok (.getfield 24, 3) := by decide +kernel
theorem dX6_goDown_67 : decode cX6_goDown 67 = .ok (.iload_n 2, 1) := by decide +kernel
theorem dX6_goDown_68 : decode cX6_goDown 68 = .ok (.aload_n 3, 1) := by decide +kernel
theorem dX6_goDown_69 : decode cX6_goDown 69 = .ok (.aload_n 0, 1) := by decide +kernel
theorem dX6_goDown_70 : decode cX6_goDown 70 = .ok (.getfield 28, 3) := by decide +kernel
theorem dX6_goDown_73 : decode cX6_goDown 73 = .ok (.iload_n 2, 1) := by decide +kernel
theorem dX6_goDown_74 : decode cX6_goDown 74 = .ok (.iaload, 1) := by decide +kernel
theorem dX6_goDown_75 : decode cX6_goDown 75 = .ok (.invokevirtual 54, 3) := by decide +kernel
theorem dX6_goDown_78 : decode cX6_goDown 78 = .ok (.iastore, 1) := by decide +kernel
theorem dX6_goDown_79 : decode cX6_goDown 79 = .ok (.iinc 2 1, 3) := by decide +kernel
theorem dX6_goDown_82 : decode cX6_goDown 82 = .ok (.goto (-70), 3) := by decide +kernel
theorem dX6_goDown_85 : decode cX6_goDown 85 = .ok (.return_, 1) := by decide +kernel
theorem dX6_numberOn_0 : decode cX6_numberOn 0 = .ok (.iload_n 1, 1) := by decide +kernel
theorem dX6_numberOn_1 : decode cX6_numberOn 1 = .ok (.ifCond .lt 21, 3) := by decide +kernel
theorem dX6_numberOn_4 : decode cX6_numberOn 4 = .ok (.iload_n 1, 1) := by decide +kernel
theorem dX6_numberOn_5 : decode cX6_numberOn 5 = .ok (.aload_n 0, 1) := by decide +kernel
theorem dX6_numberOn_6 : decode cX6_numberOn 6 = .ok (.getfield 24, 3) := by decide +kernel
theorem dX6_numberOn_9 : decode cX6_numberOn 9 = .ok (.arraylength, 1) := by decide +kernel
theorem dX6_numberOn_10 : decode cX6_numberOn 10 = .ok (.if_icmp .ge 12, 3) := by decide +kernel
theorem dX6_numberOn_13 : decode cX6_numberOn 13 = .ok (.aload_n 0, 1) := by decide +kernel
theorem dX6_numberOn_14 : decode cX6_numberOn 14 = .ok (.getfield 24, 3) := by decide +kernel
theorem dX6_numberOn_17 : decode cX6_numberOn 17 = .ok (.iload_n 1, 1) := by decide +kernel
theorem dX6_numberOn_18 : decode cX6_numberOn 18 = .ok (.iaload, 1) := by decide +kernel
theorem dX6_numberOn_19 : decode cX6_numberOn 19 = .ok (.goto 4, 3) := by decide +kernel
theorem dX6_numberOn_22 : decode cX6_numberOn 22 = .ok (.iconst 0, 1) := by decide +kernel
theorem dX6_numberOn_23 : decode cX6_numberOn 23 = .ok (.ireturn, 1) := by decide +kernel
theorem dX6_pageOn_0 : decode cX6_pageOn 0 = .ok (.aload_n 0, 1) := by decide +kernel
theorem dX6_pageOn_1 : decode cX6_pageOn 1 = .ok (.aload_n 0, 1) := by decide +kernel
theorem dX6_pageOn_2 : decode cX6_pageOn 2 = .ok (.iload_n 1, 1) := by decide +kernel
theorem dX6_pageOn_3 : decode cX6_pageOn 3 = .ok (.invokevirtual 58, 3) := by decide +kernel
theorem dX6_pageOn_6 : decode cX6_pageOn 6 = .ok (.invokevirtual 39, 3) := by decide +kernel
theorem dX6_pageOn_9 : decode cX6_pageOn 9 = .ok (.areturn, 1) := by decide +kernel
theorem dX6_slotOn_0 : decode cX6_slotOn 0 = .ok (.iload_n 1, 1) := by decide +kernel
theorem dX6_slotOn_1 : decode cX6_slotOn 1 = .ok (.ifCond .lt 21, 3) := by decide +kernel
theorem dX6_slotOn_4 : decode cX6_slotOn 4 = .ok (.iload_n 1, 1) := by decide +kernel
theorem dX6_slotOn_5 : decode cX6_slotOn 5 = .ok (.aload_n 0, 1) := by decide +kernel
theorem dX6_slotOn_6 : decode cX6_slotOn 6 = .ok (.getfield 28, 3) := by decide +kernel
theorem dX6_slotOn_9 : decode cX6_slotOn 9 = .ok (.arraylength, 1) := by decide +kernel
theorem dX6_slotOn_10 : decode cX6_slotOn 10 = .ok (.if_icmp .ge 12, 3) := by decide +kernel
theorem dX6_slotOn_13 : decode cX6_slotOn 13 = .ok (.aload_n 0, 1) := by decide +kernel
theorem dX6_slotOn_14 : decode cX6_slotOn 14 = .ok (.getfield 28, 3) := by decide +kernel
theorem dX6_slotOn_17 : decode cX6_slotOn 17 = .ok (.iload_n 1, 1) := by decide +kernel
theorem dX6_slotOn_18 : decode cX6_slotOn 18 = .ok (.iaload, 1) := by decide +kernel
theorem dX6_slotOn_19 : decode cX6_slotOn 19 = .ok (.goto 4, 3) := by decide +kernel
theorem dX6_slotOn_22 : decode cX6_slotOn 22 = .ok (.iconst 0, 1) := by decide +kernel
theorem dX6_slotOn_23 : decode cX6_slotOn 23 = .ok (.ireturn, 1) := by decide +kernel
theorem dX6_firstLeaf_0 : decode cX6_firstLeaf 0 = .ok (.aload_n 0, 1) := by decide +kernel
theorem dX6_firstLeaf_1 : decode cX6_firstLeaf 1 = .ok (.getfield 47, 3) := by decide +kernel
theorem dX6_firstLeaf_4 : decode cX6_firstLeaf 4 = .ok (.istore_n 1, 1) := by decide +kernel
theorem dX6_firstLeaf_5 : decode cX6_firstLeaf 5 = .ok (.iconst 1, 1) := by decide +kernel
theorem dX6_firstLeaf_6 : decode cX6_firstLeaf 6 = .ok (.istore_n 2, 1) := by decide +kernel
theorem dX6_firstLeaf_7 : decode cX6_firstLeaf 7 = .ok (.iload_n 2, 1) := by decide +kernel
theorem dX6_firstLeaf_8 : decode cX6_firstLeaf 8 = .ok (.aload_n 0, 1) := by decide +kernel
theorem dX6_firstLeaf_9 : decode cX6_firstLeaf 9 = .ok (.getfield 31, 3) := by decide +kernel
theorem dX6_firstLeaf_12 : decode cX6_firstLeaf 12 = .ok (.if_icmp .ge 18, 3) := by decide +kernel
theorem dX6_firstLeaf_15 : decode cX6_firstLeaf 15 = .ok (.aload_n 0, 1) := by decide +kernel
theorem dX6_firstLeaf_16 : decode cX6_firstLeaf 16 = .ok (.iload_n 1, 1) := by decide +kernel
theorem dX6_firstLeaf_17 : decode cX6_firstLeaf 17 = .ok (.invokevirtual 39, 3) := by decide +kernel
theorem dX6_firstLeaf_20 : decode cX6_firstLeaf 20 = .ok (.invokevirtual 61, 3) := by decide +kernel
theorem dX6_firstLeaf_23 : decode cX6_firstLeaf 23 = .ok (.istore_n 1, 1) := by decide +kernel
theorem dX6_firstLeaf_24 : decode cX6_firstLeaf 24 = .ok (.iinc 2 1, 3) := by decide +kernel
theorem dX6_firstLeaf_27 : decode cX6_firstLeaf 27 = .ok (.goto (-20), 3) := by decide +kernel
theorem dX6_firstLeaf_30 : decode cX6_firstLeaf 30 = .ok (.iload_n 1, 1) := by decide +kernel
theorem dX6_firstLeaf_31 : decode cX6_firstLeaf 31 = .ok (.ireturn, 1) := by decide +kernel
theorem dX6_placeOfKey_0 : decode cX6_placeOfKey 0 = .ok (.iload_n 1, 1) := by decide +kernel
theorem dX6_placeOfKey_1 : decode cX6_placeOfKey 1 = .ok (.istore_n 2, 1) := by decide +kernel
theorem dX6_placeOfKey_2 : decode cX6_placeOfKey 2 = .ok (.aload_n 0, 1) := by decide +kernel
theorem dX6_placeOfKey_3 : decode cX6_placeOfKey 3 = .ok (.invokevirtual 64, 3) := by decide +kernel
theorem dX6_placeOfKey_6 : decode cX6_placeOfKey 6 = .ok (.istore_n 3, 1) := by decide +kernel
theorem dX6_placeOfKey_7 : decode cX6_placeOfKey 7 = .ok (.iconst 0, 1) := by decide +kernel
theorem dX6_placeOfKey_8 : decode cX6_placeOfKey 8 = .ok (.istore 4, 2) := by decide +kernel
theorem dX6_placeOfKey_10 : decode cX6_placeOfKey 10 = .ok (.iload 4, 2) := by decide +kernel
theorem dX6_placeOfKey_12 : decode cX6_placeOfKey 12 = .ok (.bipush 32, 2) := by decide +kernel
theorem dX6_placeOfKey_14 : decode cX6_placeOfKey 14 = .ok (.if_icmp .ge 56, 3) := by decide +kernel
theorem dX6_placeOfKey_17 : decode cX6_placeOfKey 17 = .ok (.iload_n 3, 1) := by decide +kernel
theorem dX6_placeOfKey_18 : decode cX6_placeOfKey 18 = .ok (.ifCond .lt 52, 3) := by decide +kernel
theorem dX6_placeOfKey_21 : decode cX6_placeOfKey 21 = .ok (.iload_n 2, 1) := by decide +kernel
theorem dX6_placeOfKey_22 : decode cX6_placeOfKey 22 = .ok (.ifCond .lt 48, 3) := by decide +kernel
theorem dX6_placeOfKey_25 : decode cX6_placeOfKey 25 = .ok (.aload_n 0, 1) := by decide +kernel
theorem dX6_placeOfKey_26 : decode cX6_placeOfKey 26 = .ok (.iload_n 3, 1) := by decide +kernel
theorem dX6_placeOfKey_27 : decode cX6_placeOfKey 27 = .ok (.invokevirtual 39, 3) := by decide +kernel
theorem dX6_placeOfKey_30 : decode cX6_placeOfKey 30 = .ok (.astore 5, 2) := by decide +kernel
theorem dX6_placeOfKey_32 : decode cX6_placeOfKey 32 = .ok (.iload_n 2, 1) := by decide +kernel
theorem dX6_placeOfKey_33 : decode cX6_placeOfKey 33 = .ok (.aload 5, 2) := by decide +kernel
theorem dX6_placeOfKey_35 : decode cX6_placeOfKey 35 = .ok (.invokevirtual 67, 3) := by decide +kernel
theorem dX6_placeOfKey_38 : decode cX6_placeOfKey 38 = .ok (.if_icmp .ge 10, 3) := by decide +kernel
theorem dX6_placeOfKey_41 : decode cX6_placeOfKey 41 = .ok (.iload_n 3, 1) := by decide +kernel
theorem dX6_placeOfKey_42 : decode cX6_placeOfKey 42 = .ok (.bipush 64, 2) := by decide +kernel
theorem dX6_placeOfKey_44 : decode cX6_placeOfKey 44 = .ok (.imul, 1) := by decide +kernel
theorem dX6_placeOfKey_45 : decode cX6_placeOfKey 45 = .ok (.iload_n 2, 1) := by decide +kernel
theorem dX6_placeOfKey_46 : decode cX6_placeOfKey 46 = .ok (.iadd, 1) := by decide +kernel
theorem dX6_placeOfKey_47 : decode cX6_placeOfKey 47 = .ok (.ireturn, 1) := by decide +kernel
theorem dX6_placeOfKey_48 : decode cX6_placeOfKey 48 = .ok (.iload_n 2, 1) := by decide +kernel
theorem dX6_placeOfKey_49 : decode cX6_placeOfKey 49 = .ok (.aload 5, 2) := by decide +kernel
theorem dX6_placeOfKey_51 : decode cX6_placeOfKey 51 = .ok (.invokevirtual 67, 3) := by decide +kernel
theorem dX6_placeOfKey_54 : decode cX6_placeOfKey 54 = .ok (.isub, 1) := by decide +kernel
theorem dX6_placeOfKey_55 : decode cX6_placeOfKey 55 = .ok (.istore_n 2, 1) := by decide +kernel
theorem dX6_placeOfKey_56 : decode cX6_placeOfKey 56 = .ok (.aload 5, 2) := by decide +kernel
theorem dX6_placeOfKey_58 : decode cX6_placeOfKey 58 = .ok (.invokevirtual 61, 3) := by decide +kernel
theorem dX6_placeOfKey_61 : decode cX6_placeOfKey 61 = .ok (.iconst 1, 1) := by decide +kernel
theorem dX6_placeOfKey_62 : decode cX6_placeOfKey 62 = .ok (.isub, 1) := by decide +kernel
theorem dX6_placeOfKey_63 : decode cX6_placeOfKey 63 = .ok (.istore_n 3, 1) := by decide +kernel
theorem dX6_placeOfKey_64 : decode cX6_placeOfKey 64 = .ok (.iinc 4 1, 3) := by decide +kernel
theorem dX6_placeOfKey_67 : decode cX6_placeOfKey 67 = .ok (.goto (-57), 3) := by decide +kernel
theorem dX6_placeOfKey_70 : decode cX6_placeOfKey 70 = .ok (.iconst (-1), 1) := by decide +kernel
theorem dX6_placeOfKey_71 : decode cX6_placeOfKey 71 = .ok (.ireturn, 1) := by decide +kernel
theorem dX6_pagesOfSort_0 : decode cX6_pagesOfSort 0 = .ok (.iconst 0, 1) := by decide +kernel
theorem dX6_pagesOfSort_1 : decode cX6_pagesOfSort 1 = .ok (.istore_n 2, 1) := by decide +kernel
theorem dX6_pagesOfSort_2 : decode cX6_pagesOfSort 2 = .ok (.iconst 0, 1) := by decide +kernel
theorem dX6_pagesOfSort_3 : decode cX6_pagesOfSort 3 = .ok (.istore_n 3, 1) := by decide +kernel
theorem dX6_pagesOfSort_4 : decode cX6_pagesOfSort 4 = .ok (.iload_n 3, 1) := by decide +kernel
theorem dX6_pagesOfSort_5 : decode cX6_pagesOfSort 5 = .ok (.bipush 32, 2) := by decide +kernel
theorem dX6_pagesOfSort_7 : decode cX6_pagesOfSort 7 = .ok (.if_icmp .ge 29, 3) := by decide +kernel
theorem dX6_pagesOfSort_10 : decode cX6_pagesOfSort 10 = .ok (.iload_n 2, 1) := by decide +kernel
theorem dX6_pagesOfSort_11 : decode cX6_pagesOfSort 11 = .ok (.aload_n 0, 1) := by decide +kernel
theorem dX6_pagesOfSort_12 : decode cX6_pagesOfSort 12 = .ok (.iload_n 3, 1) := by decide +kernel
theorem dX6_pagesOfSort_13 : decode cX6_pagesOfSort 13 = .ok (.invokevirtual 39, 3) := by decide +kernel
theorem dX6_pagesOfSort_16 : decode cX6_pagesOfSort 16 = .ok (.invokevirtual 43, 3) := by decide +kernel
theorem dX6_pagesOfSort_19 : decode cX6_pagesOfSort 19 = .ok (.iload_n 1, 1) := by decide +kernel
theorem dX6_pagesOfSort_20 : decode cX6_pagesOfSort 20 = .ok (.if_icmp .ne 7, 3) := by decide +kernel
theorem dX6_pagesOfSort_23 : decode cX6_pagesOfSort 23 = .ok (.iconst 1, 1) := by decide +kernel
theorem dX6_pagesOfSort_24 : decode cX6_pagesOfSort 24 = .ok (.goto 4, 3) := by decide +kernel
theorem dX6_pagesOfSort_27 : decode cX6_pagesOfSort 27 = .ok (.iconst 0, 1) := by decide +kernel
theorem dX6_pagesOfSort_28 : decode cX6_pagesOfSort 28 = .ok (.iadd, 1) := by decide +kernel
theorem dX6_pagesOfSort_29 : decode cX6_pagesOfSort 29 = .ok (.istore_n 2, 1) := by decide +kernel
theorem dX6_pagesOfSort_30 : decode cX6_pagesOfSort 30 = .ok (.iinc 3 1, 3) := by decide +kernel
theorem dX6_pagesOfSort_33 : decode cX6_pagesOfSort 33 = .ok (.goto (-29), 3) := by decide +kernel
theorem dX6_pagesOfSort_36 : decode cX6_pagesOfSort 36 = .ok (.iload_n 2, 1) := by decide +kernel
theorem dX6_pagesOfSort_37 : decode cX6_pagesOfSort 37 = .ok (.ireturn, 1) := by decide +kernel
theorem dX6_keys_0 : decode cX6_keys 0 = .ok (.iconst 0, 1) := by decide +kernel
theorem dX6_keys_1 : decode cX6_keys 1 = .ok (.istore_n 1, 1) := by decide +kernel
theorem dX6_keys_2 : decode cX6_keys 2 = .ok (.iconst 0, 1) := by decide +kernel
theorem dX6_keys_3 : decode cX6_keys 3 = .ok (.istore_n 2, 1) := by decide +kernel
theorem dX6_keys_4 : decode cX6_keys 4 = .ok (.iload_n 2, 1) := by decide +kernel
theorem dX6_keys_5 : decode cX6_keys 5 = .ok (.bipush 32, 2) := by decide +kernel
theorem dX6_keys_7 : decode cX6_keys 7 = .ok (.if_icmp .ge 36, 3) := by decide +kernel
theorem dX6_keys_10 : decode cX6_keys 10 = .ok (.iload_n 1, 1) := by decide +kernel
theorem dX6_keys_11 : decode cX6_keys 11 = .ok (.aload_n 0, 1) := by decide +kernel
theorem dX6_keys_12 : decode cX6_keys 12 = .ok (.iload_n 2, 1) := by decide +kernel
theorem dX6_keys_13 : decode cX6_keys 13 = .ok (.invokevirtual 39, 3) := by decide +kernel
theorem dX6_keys_16 : decode cX6_keys 16 = .ok (.invokevirtual 43, 3) := by decide +kernel
theorem dX6_keys_19 : decode cX6_keys 19 = .ok (.iconst 1, 1) := by decide +kernel
theorem dX6_keys_20 : decode cX6_keys 20 = .ok (.if_icmp .ne 14, 3) := by decide +kernel
theorem dX6_keys_23 : decode cX6_keys 23 = .ok (.aload_n 0, 1) := by decide +kernel
theorem dX6_keys_24 : decode cX6_keys 24 = .ok (.iload_n 2, 1) := by decide +kernel
theorem dX6_keys_25 : decode cX6_keys 25 = .ok (.invokevirtual 39, 3) := by decide +kernel
theorem dX6_keys_28 : decode cX6_keys 28 = .ok (.invokevirtual 67, 3) := by decide +kernel
theorem dX6_keys_31 : decode cX6_keys 31 = .ok (.goto 4, 3) := by decide +kernel
theorem dX6_keys_34 : decode cX6_keys 34 = .ok (.iconst 0, 1) := by decide +kernel
theorem dX6_keys_35 : decode cX6_keys 35 = .ok (.iadd, 1) := by decide +kernel
theorem dX6_keys_36 : decode cX6_keys 36 = .ok (.istore_n 1, 1) := by decide +kernel
theorem dX6_keys_37 : decode cX6_keys 37 = .ok (.iinc 2 1, 3) := by decide +kernel
theorem dX6_keys_40 : decode cX6_keys 40 = .ok (.goto (-36), 3) := by decide +kernel
theorem dX6_keys_43 : decode cX6_keys 43 = .ok (.iload_n 1, 1) := by decide +kernel
theorem dX6_keys_44 : decode cX6_keys 44 = .ok (.ireturn, 1) := by decide +kernel
theorem dX6_usedOfAll_0 : decode cX6_usedOfAll 0 = .ok (.iconst 0, 1) := by decide +kernel
theorem dX6_usedOfAll_1 : decode cX6_usedOfAll 1 = .ok (.istore_n 1, 1) := by decide +kernel
theorem dX6_usedOfAll_2 : decode cX6_usedOfAll 2 = .ok (.iconst 0, 1) := by decide +kernel
theorem dX6_usedOfAll_3 : decode cX6_usedOfAll 3 = .ok (.istore_n 2, 1) := by decide +kernel
theorem dX6_usedOfAll_4 : decode cX6_usedOfAll 4 = .ok (.iload_n 2, 1) := by decide +kernel
theorem dX6_usedOfAll_5 : decode cX6_usedOfAll 5 = .ok (.bipush 32, 2) := by decide +kernel
theorem dX6_usedOfAll_7 : decode cX6_usedOfAll 7 = .ok (.if_icmp .ge 20, 3) := by decide +kernel
theorem dX6_usedOfAll_10 : decode cX6_usedOfAll 10 = .ok (.iload_n 1, 1) := by decide +kernel
theorem dX6_usedOfAll_11 : decode cX6_usedOfAll 11 = .ok (.aload_n 0, 1) := by decide +kernel
theorem dX6_usedOfAll_12 : decode cX6_usedOfAll 12 = .ok (.iload_n 2, 1) := by decide +kernel
theorem dX6_usedOfAll_13 : decode cX6_usedOfAll 13 = .ok (.invokevirtual 39, 3) := by decide +kernel
theorem dX6_usedOfAll_16 : decode cX6_usedOfAll 16 = .ok (.invokevirtual 70, 3) := by decide +kernel
theorem dX6_usedOfAll_19 : decode cX6_usedOfAll 19 = .ok (.iadd, 1) := by decide +kernel
theorem dX6_usedOfAll_20 : decode cX6_usedOfAll 20 = .ok (.istore_n 1, 1) := by decide +kernel
theorem dX6_usedOfAll_21 : decode cX6_usedOfAll 21 = .ok (.iinc 2 1, 3) := by decide +kernel
theorem dX6_usedOfAll_24 : decode cX6_usedOfAll 24 = .ok (.goto (-20), 3) := by decide +kernel
theorem dX6_usedOfAll_27 : decode cX6_usedOfAll 27 = .ok (.iload_n 1, 1) := by decide +kernel
theorem dX6_usedOfAll_28 : decode cX6_usedOfAll 28 = .ok (.ireturn, 1) := by decide +kernel
theorem dX6_separatorLetters_0 : decode cX6_separatorLetters 0 = .ok (.iconst 0, 1) := by decide +kernel
theorem dX6_separatorLetters_1 : decode cX6_separatorLetters 1 = .ok (.istore_n 1, 1) := by decide +kernel
theorem dX6_separatorLetters_2 : decode cX6_separatorLetters 2 = .ok (.iconst 0, 1) := by decide +kernel
theorem dX6_separatorLetters_3 : decode cX6_separatorLetters 3 = .ok (.istore_n 2, 1) := by decide +kernel
theorem dX6_separatorLetters_4 : decode cX6_separatorLetters 4 = .ok (.iload_n 2, 1) := by decide +kernel
theorem dX6_separatorLetters_5 : decode cX6_separatorLetters 5 = .ok (.bipush 32, 2) := by decide +kernel
theorem dX6_separatorLetters_7 : decode cX6_separatorLetters 7 = .ok (.if_icmp .ge 39, 3) := by decide +kernel
theorem dX6_separatorLetters_10 : decode cX6_separatorLetters 10 = .ok (.aload_n 0, 1) := by decide +kernel
theorem dX6_separatorLetters_11 : decode cX6_separatorLetters 11 = .ok (.iload_n 2, 1) := by decide +kernel
theorem dX6_separatorLetters_12 : decode cX6_separatorLetters 12 = .ok (.invokevirtual 39, 3) := by decide +kernel
theorem dX6_separatorLetters_15 : decode cX6_separatorLetters 15 = .ok (.astore_n 3, 1) := by decide +kernel
theorem dX6_separatorLetters_16 : decode cX6_separatorLetters 16 = .ok (.aload_n 3, 1) := by decide +kernel
theorem dX6_separatorLetters_17 : decode cX6_separatorLetters 17 = .ok (.invokevirtual 43, 3) := by decide +kernel
theorem dX6_separatorLetters_20 : decode cX6_separatorLetters 20 = .ok (.iconst 2, 1) := by decide +kernel
theorem dX6_separatorLetters_21 : decode cX6_separatorLetters 21 = .ok (.if_icmp .ne 19, 3) := by decide +kernel
theorem dX6_separatorLetters_24 : decode cX6_separatorLetters 24 = .ok (.iload_n 1, 1) := by decide +kernel
theorem dX6_separatorLetters_25 : decode cX6_separatorLetters 25 = .ok (.aload_n 3, 1) := by decide +kernel
theorem dX6_separatorLetters_26 : decode cX6_separatorLetters 26 = .ok (.invokevirtual 70, 3) := by decide +kernel
theorem dX6_separatorLetters_29 : decode cX6_separatorLetters 29 = .ok (.iconst 3, 1) := by decide +kernel
theorem dX6_separatorLetters_30 : decode cX6_separatorLetters 30 = .ok (.isub, 1) := by decide +kernel
theorem dX6_separatorLetters_31 : decode cX6_separatorLetters 31 = .ok (.iconst 2, 1) := by decide +kernel
theorem dX6_separatorLetters_32 : decode cX6_separatorLetters 32 = .ok (.aload_n 3, 1) := by decide +kernel
theorem dX6_separatorLetters_33 : decode cX6_separatorLetters 33 = .ok (.invokevirtual 67, 3) := by decide +kernel
theorem dX6_separatorLetters_36 : decode cX6_separatorLetters 36 = .ok (.imul, 1) := by decide +kernel
theorem dX6_separatorLetters_37 : decode cX6_separatorLetters 37 = .ok (.isub, 1) := by decide +kernel
theorem dX6_separatorLetters_38 : decode cX6_separatorLetters 38 = .ok (.iadd, 1) := by decide +kernel
theorem dX6_separatorLetters_39 : decode cX6_separatorLetters 39 = .ok (.istore_n 1, 1) := by decide +kernel
theorem dX6_separatorLetters_40 : decode cX6_separatorLetters 40 = .ok (.iinc 2 1, 3) := by decide +kernel
theorem dX6_separatorLetters_43 : decode cX6_separatorLetters 43 = .ok (.goto (-39), 3) := by decide +kernel
theorem dX6_separatorLetters_46 : decode cX6_separatorLetters 46 = .ok (.iload_n 1, 1) := by decide +kernel
theorem dX6_separatorLetters_47 : decode cX6_separatorLetters 47 = .ok (.ireturn, 1) := by decide +kernel
theorem dX7_init_0 : decode cX7_init 0 = .ok (.aload_n 0, 1) := by decide +kernel
theorem dX7_init_1 : decode cX7_init 1 = .ok (.invokespecial 1, 3) := by decide +kernel
theorem dX7_init_4 : decode cX7_init 4 = .ok (.aload_n 0, 1) := by decide +kernel
theorem dX7_init_5 : decode cX7_init 5 = .ok (.new 7, 3) := by decide +kernel
theorem dX7_init_8 : decode cX7_init 8 = .ok (.dup, 1) := by decide +kernel
theorem dX7_init_9 : decode cX7_init 9 = .ok (.invokespecial 9, 3) := by decide +kernel
theorem dX7_init_12 : decode cX7_init 12 = .ok (.putfield 10, 3) := by decide +kernel
theorem dX7_init_15 : decode cX7_init 15 = .ok (.aload_n 0, 1) := by decide +kernel
theorem dX7_init_16 : decode cX7_init 16 = .ok (.new 16, 3) := by decide +kernel
theorem dX7_init_19 : decode cX7_init 19 = .ok (.dup, 1) := by decide +kernel
theorem dX7_init_20 : decode cX7_init 20 = .ok (.aload_n 0, 1) := by decide +kernel
theorem dX7_init_21 : decode cX7_init 21 = .ok (.getfield 10, 3) := by decide +kernel
theorem dX7_init_24 : decode cX7_init 24 = .ok (.invokespecial 18, 3) := by decide +kernel
theorem dX7_init_27 : decode cX7_init 27 = .ok (.putfield 21, 3) := by decide +kernel
theorem dX7_init_30 : decode cX7_init 30 = .ok (.aload_n 0, 1) := by decide +kernel
theorem dX7_init_31 : decode cX7_init 31 = .ok (.new 25, 3) := by decide +kernel
theorem dX7_init_34 : decode cX7_init 34 = .ok (.dup, 1) := by decide +kernel
theorem dX7_init_35 : decode cX7_init 35 = .ok (.aload_n 0, 1) := by decide +kernel
theorem dX7_init_36 : decode cX7_init 36 = .ok (.getfield 10, 3) := by decide +kernel
theorem dX7_init_39 : decode cX7_init 39 = .ok (.invokespecial 27, 3) := by decide +kernel
theorem dX7_init_42 : decode cX7_init 42 = .ok (.putfield 28, 3) := by decide +kernel
theorem dX7_init_45 : decode cX7_init 45 = .ok (.aload_n 0, 1) := by decide +kernel
theorem dX7_init_46 : decode cX7_init 46 = .ok (.new 32, 3) := by decide +kernel
theorem dX7_init_49 : decode cX7_init 49 = .ok (.dup, 1) := by decide +kernel
theorem dX7_init_50 : decode cX7_init 50 = .ok (.invokespecial 34, 3) := by decide +kernel
theorem dX7_init_53 : decode cX7_init 53 = .ok (.putfield 35, 3) := by decide +kernel
theorem dX7_init_56 : decode cX7_init 56 = .ok (.aload_n 0, 1) := by decide +kernel
theorem dX7_init_57 : decode cX7_init 57 = .ok (.iconst 2, 1) := by decide +kernel
theorem dX7_init_58 : decode cX7_init 58 = .ok (.anewarray 39, 3) := by decide +kernel
theorem dX7_init_61 : decode cX7_init 61 = .ok (.putfield 41, 3) := by decide +kernel
theorem dX7_init_64 : decode cX7_init 64 = .ok (.aload_n 0, 1) := by decide +kernel
theorem dX7_init_65 : decode cX7_init 65 = .ok (.new 45, 3) := by decide +kernel
theorem dX7_init_68 : decode cX7_init 68 = .ok (.dup, 1) := by decide +kernel
theorem dX7_init_69 : decode cX7_init 69 = .ok (.invokespecial 47, 3) := by decide +kernel
theorem dX7_init_72 : decode cX7_init 72 = .ok (.putfield 48, 3) := by decide +kernel
theorem dX7_init_75 : decode cX7_init 75 = .ok (.iconst 0, 1) := by decide +kernel
theorem dX7_init_76 : decode cX7_init 76 = .ok (.istore_n 1, 1) := by decide +kernel
theorem dX7_init_77 : decode cX7_init 77 = .ok (.iload_n 1, 1) := by decide +kernel
theorem dX7_init_78 : decode cX7_init 78 = .ok (.iconst 2, 1) := by decide +kernel
theorem dX7_init_79 : decode cX7_init 79 = .ok (.if_icmp .ge 22, 3) := by decide +kernel
theorem dX7_init_82 : decode cX7_init 82 = .ok (.aload_n 0, 1) := by decide +kernel
theorem dX7_init_83 : decode cX7_init 83 = .ok (.getfield 41, 3) := by decide +kernel
theorem dX7_init_86 : decode cX7_init 86 = .ok (.iload_n 1, 1) := by decide +kernel
theorem dX7_init_87 : decode cX7_init 87 = .ok (.new 39, 3) := by decide +kernel
theorem dX7_init_90 : decode cX7_init 90 = .ok (.dup, 1) := by decide +kernel
theorem dX7_init_91 : decode cX7_init 91 = .ok (.invokespecial 52, 3) := by decide +kernel
theorem dX7_init_94 : decode cX7_init 94 = .ok (.aastore, 1) := by decide +kernel
theorem dX7_init_95 : decode cX7_init 95 = .ok (.iinc 1 1, 3) := by decide +kernel
theorem dX7_init_98 : decode cX7_init 98 = .ok (.goto (-21), 3) := by decide +kernel
theorem dX7_init_101 : decode cX7_init 101 = .ok (.return_, 1) := by decide +kernel
theorem dX7_type_0 : decode cX7_type 0 = .ok (.iload_n 1, 1) := by decide +kernel
theorem dX7_type_1 : decode cX7_type 1 = .ok (.invokestatic 53, 3) := by decide +kernel
theorem dX7_type_4 : decode cX7_type 4 = .ok (.ifCond .ne 5, 3) := by decide +kernel
theorem dX7_type_7 : decode cX7_type 7 = .ok (.iconst (-1), 1) := by decide +kernel
theorem dX7_type_8 : decode cX7_type 8 = .ok (.ireturn, 1) := by decide +kernel
theorem dX7_type_9 : decode cX7_type 9 = .ok (.aload_n 0, 1) := by decide +kernel
theorem dX7_type_10 : decode cX7_type 10 = .ok (.getfield 35, 3) := by decide +kernel
theorem dX7_type_13 : decode cX7_type 13 = .ok (.iload_n 1, 1) := by decide +kernel
theorem dX7_type_14 : decode cX7_type 14 = .ok (.invokevirtual 57, 3) := by decide +kernel
theorem dX7_type_17 : decode cX7_type 17 = .ok (.ifCond .eq 13, 3) := by decide +kernel
theorem dX7_type_20 : decode cX7_type 20 = .ok (.aload_n 0, 1) := by decide +kernel
theorem dX7_type_21 : decode cX7_type 21 = .ok (.getfield 35, 3) := by decide +kernel
theorem dX7_type_24 : decode cX7_type 24 = .ok (.getfield 60, 3) := by decide +kernel
theorem dX7_type_27 : decode cX7_type 27 = .ok (.goto 5, 3) := by decide +kernel
theorem dX7_type_30 : decode cX7_type 30 = .ok (.bipush (-3), 2) := by decide +kernel
theorem dX7_type_32 : decode cX7_type 32 = .ok (.ireturn, 1) := by decide +kernel
theorem dX7_clear_0 : decode cX7_clear 0 = .ok (.aload_n 0, 1) := by decide +kernel
theorem dX7_clear_1 : decode cX7_clear 1 = .ok (.getfield 35, 3) := by decide +kernel
theorem dX7_clear_4 : decode cX7_clear 4 = .ok (.getfield 60, 3) := by decide +kernel
theorem dX7_clear_7 : decode cX7_clear 7 = .ok (.istore_n 1, 1) := by decide +kernel
theorem dX7_clear_8 : decode cX7_clear 8 = .ok (.aload_n 0, 1) := by decide +kernel
theorem dX7_clear_9 : decode cX7_clear 9 = .ok (.getfield 35, 3) := by decide +kernel
theorem dX7_clear_12 : decode cX7_clear 12 = .ok (.iconst 0, 1) := by decide +kernel
theorem dX7_clear_13 : decode cX7_clear 13 = .ok (.putfield 60, 3) := by decide +kernel
theorem dX7_clear_16 : decode cX7_clear 16 = .ok (.iload_n 1, 1) := by decide +kernel
theorem dX7_clear_17 : decode cX7_clear 17 = .ok (.ireturn, 1) := by decide +kernel
theorem dX7_run_0 : decode cX7_run 0 = .ok (.aload_n 0, 1) := by decide +kernel
theorem dX7_run_1 : decode cX7_run 1 = .ok (.getfield 35, 3) := by decide +kernel
theorem dX7_run_4 : decode cX7_run 4 = .ok (.invokevirtual 64, 3) := by decide +kernel
theorem dX7_run_7 : decode cX7_run 7 = .ok (.istore_n 1, 1) := by decide +kernel
theorem dX7_run_8 : decode cX7_run 8 = .ok (.iload_n 1, 1) := by decide +kernel
theorem dX7_run_9 : decode cX7_run 9 = .ok (.ifCond .lt 8, 3) := by decide +kernel
theorem dX7_run_12 : decode cX7_run 12 = .ok (.bipush (-10), 2) := by decide +kernel
theorem dX7_run_14 : decode cX7_run 14 = .ok (.iload_n 1, 1) := by decide +kernel
theorem dX7_run_15 : decode cX7_run 15 = .ok (.isub, 1) := by decide +kernel
theorem dX7_run_16 : decode cX7_run 16 = .ok (.ireturn, 1) := by decide +kernel
theorem dX7_run_17 : decode cX7_run 17 = .ok (.iconst 0, 1) := by decide +kernel
theorem dX7_run_18 : decode cX7_run 18 = .ok (.istore_n 2, 1) := by decide +kernel
theorem dX7_run_19 : decode cX7_run 19 = .ok (.aload_n 0, 1) := by decide +kernel
theorem dX7_run_20 : decode cX7_run 20 = .ok (.getfield 35, 3) := by decide +kernel
theorem dX7_run_23 : decode cX7_run 23 = .ok (.invokevirtual 68, 3) := by decide +kernel
theorem dX7_run_26 : decode cX7_run 26 = .ok (.iconst 0, 1) := by decide +kernel
theorem dX7_run_27 : decode cX7_run 27 = .ok (.istore_n 3, 1) := by decide +kernel
theorem dX7_run_28 : decode cX7_run 28 = .ok (.iload_n 3, 1) := by decide +kernel
theorem dX7_run_29 : decode cX7_run 29 = .ok (.bipush 120, 2) := by decide +kernel
theorem dX7_run_31 : decode cX7_run 31 = .ok (.if_icmp .ge 163, 3) := by decide +kernel
theorem dX7_run_34 : decode cX7_run 34 = .ok (.aload_n 0, 1) := by decide +kernel
theorem dX7_run_35 : decode cX7_run 35 = .ok (.getfield 35, 3) := by decide +kernel
theorem dX7_run_38 : decode cX7_run 38 = .ok (.invokevirtual 71, 3) := by decide +kernel
theorem dX7_run_41 : decode cX7_run 41 = .ok (.ifCond .eq 153, 3) := by decide +kernel
theorem dX7_run_44 : decode cX7_run 44 = .ok (.aload_n 0, 1) := by decide +kernel
theorem dX7_run_45 : decode cX7_run 45 = .ok (.getfield 35, 3) := by decide +kernel
theorem dX7_run_48 : decode cX7_run 48 = .ok (.invokevirtual 75, 3) := by decide +kernel
theorem dX7_run_51 : decode cX7_run 51 = .ok (.ifCond .eq 143, 3) := by decide +kernel
theorem dX7_run_54 : decode cX7_run 54 = .ok (.iconst 0, 1) := by decide +kernel
theorem dX7_run_55 : decode cX7_run 55 = .ok (.istore 4, 2) := by decide +kernel
theorem dX7_run_57 : decode cX7_run 57 = .ok (.aload_n 0, 1) := by decide +kernel
theorem dX7_run_58 : decode cX7_run 58 = .ok (.getfield 35, 3) := by decide +kernel
theorem dX7_run_61 : decode cX7_run 61 = .ok (.getfield 78, 3) := by decide +kernel
theorem dX7_run_64 : decode cX7_run 64 = .ok (.ifCond .ne 40, 3) := by decide +kernel
theorem dX7_run_67 : decode cX7_run 67 = .ok (.aload_n 0, 1) := by decide +kernel
theorem dX7_run_68 : decode cX7_run 68 = .ok (.getfield 21, 3) := by decide +kernel
theorem dX7_run_71 : decode cX7_run 71 = .ok (.aload_n 0, 1) := by decide +kernel
theorem dX7_run_72 : decode cX7_run 72 = .ok (.getfield 35, 3) := by decide +kernel
theorem dX7_run_75 : decode cX7_run 75 = .ok (.getfield 81, 3) := by decide +kernel
theorem dX7_run_78 : decode cX7_run 78 = .ok (.aload_n 0, 1) := by decide +kernel
theorem dX7_run_79 : decode cX7_run 79 = .ok (.getfield 35, 3) := by decide +kernel
theorem dX7_run_82 : decode cX7_run 82 = .ok (.iconst 0, 1) := by decide +kernel
theorem dX7_run_83 : decode cX7_run 83 = .ok (.invokevirtual 84, 3) := by decide +kernel
theorem dX7_run_86 : decode cX7_run 86 = .ok (.invokevirtual 88, 3) := by decide +kernel
theorem dX7_run_89 : decode cX7_run 89 = .ok (.bipush (-3), 2) := by decide +kernel
theorem dX7_run_91 : decode cX7_run 91 = .ok (.if_icmp .ne 7, 3) := by decide +kernel
theorem dX7_run_94 : decode cX7_run 94 = .ok (.iconst 1, 1) := by decide +kernel
theorem dX7_run_95 : decode cX7_run 95 = .ok (.goto 4, 3) := by decide +kernel
theorem dX7_run_98 : decode cX7_run 98 = .ok (.iconst 0, 1) := by decide +kernel
theorem dX7_run_99 : decode cX7_run 99 = .ok (.istore 4, 2) := by decide +kernel
theorem dX7_run_101 : decode cX7_run 101 = .ok (.goto 74, 3) := by decide +kernel
theorem dX7_run_104 : decode cX7_run 104 = .ok (.aload_n 0, 1) := by decide +kernel
theorem dX7_run_105 : decode cX7_run 105 = .ok (.getfield 35, 3) := by decide +kernel
theorem dX7_run_108 : decode cX7_run 108 = .ok (.getfield 78, 3) := by decide +kernel
theorem dX7_run_111 : decode cX7_run 111 = .ok (.iconst 1, 1) := by decide +kernel
theorem dX7_run_112 : decode cX7_run 112 = .ok (.if_icmp .ne 32, 3) := by decide +kernel
theorem dX7_run_115 : decode cX7_run 115 = .ok (.aload_n 0, 1) := by decide +kernel
theorem dX7_run_116 : decode cX7_run 116 = .ok (.getfield 21, 3) := by decide +kernel
theorem dX7_run_119 : decode cX7_run 119 = .ok (.aload_n 0, 1) := by decide +kernel
theorem dX7_run_120 : decode cX7_run 120 = .ok (.getfield 35, 3) := by decide +kernel
theorem dX7_run_123 : decode cX7_run 123 = .ok (.getfield 81, 3) := by decide +kernel
theorem dX7_run_126 : decode cX7_run 126 = .ok (.invokevirtual 92, 3) := by decide +kernel
theorem dX7_run_129 : decode cX7_run 129 = .ok (.bipush (-9), 2) := by decide +kernel
theorem dX7_run_131 : decode cX7_run 131 = .ok (.if_icmp .ne 7, 3) := by decide +kernel
theorem dX7_run_134 : decode cX7_run 134 = .ok (.iconst 1, 1) := by decide +kernel
theorem dX7_run_135 : decode cX7_run 135 = .ok (.goto 4, 3) := by decide +kernel
theorem dX7_run_138 : decode cX7_run 138 = .ok (.iconst 0, 1) := by decide +kernel
theorem dX7_run_139 : decode cX7_run 139 = .ok (.istore 4, 2) := by decide +kernel
theorem dX7_run_141 : decode cX7_run 141 = .ok (.goto 34, 3) := by decide +kernel
theorem dX7_run_144 : decode cX7_run 144 = .ok (.aload_n 0, 1) := by decide +kernel
theorem dX7_run_145 : decode cX7_run 145 = .ok (.getfield 21, 3) := by decide +kernel
theorem dX7_run_148 : decode cX7_run 148 = .ok (.aload_n 0, 1) := by decide +kernel
theorem dX7_run_149 : decode cX7_run 149 = .ok (.getfield 35, 3) := by decide +kernel
theorem dX7_run_152 : decode cX7_run 152 = .ok (.iconst 0, 1) := by decide +kernel
theorem dX7_run_153 : decode cX7_run 153 = .ok (.invokevirtual 84, 3) := by decide +kernel
theorem dX7_run_156 : decode cX7_run 156 = .ok (.aload_n 0, 1) := by decide +kernel
theorem dX7_run_157 : decode cX7_run 157 = .ok (.getfield 35, 3) := by decide +kernel
theorem dX7_run_160 : decode cX7_run 160 = .ok (.iconst 1, 1) := by decide +kernel
theorem dX7_run_161 : decode cX7_run 161 = .ok (.invokevirtual 84, 3) := by decide +kernel
theorem dX7_run_164 : decode cX7_run 164 = .ok (.aload_n 0, 1) := by decide +kernel
theorem dX7_run_165 : decode cX7_run 165 = .ok (.getfield 35, 3) := by decide +kernel
theorem dX7_run_168 : decode cX7_run 168 = .ok (.iconst 2, 1) := by decide +kernel
theorem dX7_run_169 : decode cX7_run 169 = .ok (.invokevirtual 84, 3) := by decide +kernel
theorem dX7_run_172 : decode cX7_run 172 = .ok (.invokevirtual 96, 3) := by decide +kernel
theorem dX7_run_175 : decode cX7_run 175 = .ok (.iload_n 2, 1) := by decide +kernel
theorem dX7_run_176 : decode cX7_run 176 = .ok (.iload 4, 2) := by decide +kernel
theorem dX7_run_178 : decode cX7_run 178 = .ok (.ifCond .eq 7, 3) := by decide +kernel
theorem dX7_run_181 : decode cX7_run 181 = .ok (.iconst 0, 1) := by decide +kernel
theorem dX7_run_182 : decode cX7_run 182 = .ok (.goto 4, 3) := by decide +kernel
theorem dX7_run_185 : decode cX7_run 185 = .ok (.iconst 1, 1) := by decide +kernel
theorem dX7_run_186 : decode cX7_run 186 = .ok (.iadd, 1) := by decide +kernel
theorem dX7_run_187 : decode cX7_run 187 = .ok (.istore_n 2, 1) := by decide +kernel
theorem dX7_run_188 : decode cX7_run 188 = .ok (.iinc 3 1, 3) := by decide +kernel
theorem dX7_run_191 : decode cX7_run 191 = .ok (.goto (-163), 3) := by decide +kernel
theorem dX7_run_194 : decode cX7_run 194 = .ok (.aload_n 0, 1) := by decide +kernel
theorem dX7_run_195 : decode cX7_run 195 = .ok (.getfield 35, 3) := by decide +kernel
theorem dX7_run_198 : decode cX7_run 198 = .ok (.iconst 0, 1) := by decide +kernel
theorem dX7_run_199 : decode cX7_run 199 = .ok (.putfield 60, 3) := by decide +kernel
theorem dX7_run_202 : decode cX7_run 202 = .ok (.iload_n 2, 1) := by decide +kernel
theorem dX7_run_203 : decode cX7_run 203 = .ok (.ireturn, 1) := by decide +kernel
theorem dX7_put_0 : decode cX7_put 0 = .ok (.iload_n 1, 1) := by decide +kernel
theorem dX7_put_1 : decode cX7_put 1 = .ok (.iload_n 2, 1) := by decide +kernel
theorem dX7_put_2 : decode cX7_put 2 = .ok (.invokestatic 100, 3) := by decide +kernel
theorem dX7_put_5 : decode cX7_put 5 = .ok (.ifCond .eq 10, 3) := by decide +kernel
theorem dX7_put_8 : decode cX7_put 8 = .ok (.iload_n 3, 1) := by decide +kernel
theorem dX7_put_9 : decode cX7_put 9 = .ok (.invokestatic 53, 3) := by decide +kernel
theorem dX7_put_12 : decode cX7_put 12 = .ok (.ifCond .ne 5, 3) := by decide +kernel
theorem dX7_put_15 : decode cX7_put 15 = .ok (.iconst (-1), 1) := by decide +kernel
theorem dX7_put_16 : decode cX7_put 16 = .ok (.ireturn, 1) := by decide +kernel
theorem dX7_put_17 : decode cX7_put 17 = .ok (.aload_n 0, 1) := by decide +kernel
theorem dX7_put_18 : decode cX7_put 18 = .ok (.getfield 48, 3) := by decide +kernel
theorem dX7_put_21 : decode cX7_put 21 = .ok (.iload_n 1, 1) := by decide +kernel
theorem dX7_put_22 : decode cX7_put 22 = .ok (.iload_n 2, 1) := by decide +kernel
theorem dX7_put_23 : decode cX7_put 23 = .ok (.invokevirtual 104, 3) := by decide +kernel
theorem dX7_put_26 : decode cX7_put 26 = .ok (.aload_n 0, 1) := by decide +kernel
theorem dX7_put_27 : decode cX7_put 27 = .ok (.getfield 21, 3) := by decide +kernel
theorem dX7_put_30 : decode cX7_put 30 = .ok (.aload_n 0, 1) := by decide +kernel
theorem dX7_put_31 : decode cX7_put 31 = .ok (.getfield 48, 3) := by decide +kernel
theorem dX7_put_34 : decode cX7_put 34 = .ok (.iload_n 3, 1) := by decide +kernel
theorem dX7_put_35 : decode cX7_put 35 = .ok (.invokevirtual 88, 3) := by decide +kernel
theorem dX7_put_38 : decode cX7_put 38 = .ok (.ireturn, 1) := by decide +kernel
theorem dX7_take_0 : decode cX7_take 0 = .ok (.iload_n 1, 1) := by decide +kernel
theorem dX7_take_1 : decode cX7_take 1 = .ok (.iload_n 2, 1) := by decide +kernel
theorem dX7_take_2 : decode cX7_take 2 = .ok (.invokestatic 100, 3) := by decide +kernel
theorem dX7_take_5 : decode cX7_take 5 = .ok (.ifCond .ne 5, 3) := by decide +kernel
theorem dX7_take_8 : decode cX7_take 8 = .ok (.iconst (-1), 1) := by decide +kernel
theorem dX7_take_9 : decode cX7_take 9 = .ok (.ireturn, 1) := by decide +kernel
theorem dX7_take_10 : decode cX7_take 10 = .ok (.aload_n 0, 1) := by decide +kernel
theorem dX7_take_11 : decode cX7_take 11 = .ok (.getfield 48, 3) := by decide +kernel
theorem dX7_take_14 : decode cX7_take 14 = .ok (.iload_n 1, 1) := by decide +kernel
theorem dX7_take_15 : decode cX7_take 15 = .ok (.iload_n 2, 1) := by decide +kernel
theorem dX7_take_16 : decode cX7_take 16 = .ok (.invokevirtual 104, 3) := by decide +kernel
theorem dX7_take_19 : decode cX7_take 19 = .ok (.aload_n 0, 1) := by decide +kernel
theorem dX7_take_20 : decode cX7_take 20 = .ok (.getfield 21, 3) := by decide +kernel
theorem dX7_take_23 : decode cX7_take 23 = .ok (.aload_n 0, 1) := by decide +kernel
theorem dX7_take_24 : decode cX7_take 24 = .ok (.getfield 48, 3) := by decide +kernel
theorem dX7_take_27 : decode cX7_take 27 = .ok (.invokevirtual 92, 3) := by decide +kernel
theorem dX7_take_30 : decode cX7_take 30 = .ok (.ireturn, 1) := by decide +kernel
theorem dX7_load_0 : decode cX7_load 0 = .ok (.iload_n 1, 1) := by decide +kernel
theorem dX7_load_1 : decode cX7_load 1 = .ok (.iconst 0, 1) := by decide +kernel
theorem dX7_load_2 : decode cX7_load 2 = .ok (.sipush 17575, 3) := by decide +kernel
theorem dX7_load_5 : decode cX7_load 5 = .ok (.invokestatic 108, 3) := by decide +kernel
theorem dX7_load_8 : decode cX7_load 8 = .ok (.ifCond .eq 23, 3) := by decide +kernel
theorem dX7_load_11 : decode cX7_load 11 = .ok (.iload_n 2, 1) := by decide +kernel
theorem dX7_load_12 : decode cX7_load 12 = .ok (.iconst 1, 1) := by decide +kernel
theorem dX7_load_13 : decode cX7_load 13 = .ok (.bipush 99, 2) := by decide +kernel
theorem dX7_load_15 : decode cX7_load 15 = .ok (.invokestatic 108, 3) := by decide +kernel
theorem dX7_load_18 : decode cX7_load 18 = .ok (.ifCond .eq 13, 3) := by decide +kernel
theorem dX7_load_21 : decode cX7_load 21 = .ok (.iload_n 3, 1) := by decide +kernel
theorem dX7_load_22 : decode cX7_load 22 = .ok (.iconst 1, 1) := by decide +kernel
theorem dX7_load_23 : decode cX7_load 23 = .ok (.bipush 60, 2) := by decide +kernel
theorem dX7_load_25 : decode cX7_load 25 = .ok (.invokestatic 108, 3) := by decide +kernel
theorem dX7_load_28 : decode cX7_load 28 = .ok (.ifCond .ne 5, 3) := by decide +kernel
theorem dX7_load_31 : decode cX7_load 31 = .ok (.iconst (-1), 1) := by decide +kernel
theorem dX7_load_32 : decode cX7_load 32 = .ok (.ireturn, 1) := by decide +kernel
theorem dX7_load_33 : decode cX7_load 33 = .ok (.iload_n 1, 1) := by decide +kernel
theorem dX7_load_34 : decode cX7_load 34 = .ok (.iload_n 2, 1) := by decide +kernel
theorem dX7_load_35 : decode cX7_load 35 = .ok (.iload_n 3, 1) := by decide +kernel
theorem dX7_load_36 : decode cX7_load 36 = .ok (.invokestatic 112, 3) := by decide +kernel
theorem dX7_load_39 : decode cX7_load 39 = .ok (.ifCond .ne 5, 3) := by decide +kernel
theorem dX7_load_42 : decode cX7_load 42 = .ok (.iconst (-1), 1) := by decide +kernel
theorem dX7_load_43 : decode cX7_load 43 = .ok (.ireturn, 1) := by decide +kernel
theorem dX7_load_44 : decode cX7_load 44 = .ok (.aload_n 0, 1) := by decide +kernel
theorem dX7_load_45 : decode cX7_load 45 = .ok (.getfield 21, 3) := by decide +kernel
theorem dX7_load_48 : decode cX7_load 48 = .ok (.iload_n 1, 1) := by decide +kernel
theorem dX7_load_49 : decode cX7_load 49 = .ok (.iload_n 2, 1) := by decide +kernel
theorem dX7_load_50 : decode cX7_load 50 = .ok (.iload_n 3, 1) := by decide +kernel
theorem dX7_load_51 : decode cX7_load 51 = .ok (.invokevirtual 96, 3) := by decide +kernel
theorem dX7_load_54 : decode cX7_load 54 = .ok (.aload_n 0, 1) := by decide +kernel
theorem dX7_load_55 : decode cX7_load 55 = .ok (.getfield 10, 3) := by decide +kernel
theorem dX7_load_58 : decode cX7_load 58 = .ok (.getfield 115, 3) := by decide +kernel
theorem dX7_load_61 : decode cX7_load 61 = .ok (.ireturn, 1) := by decide +kernel
theorem dX7_find_0 : decode cX7_find 0 = .ok (.iload_n 1, 1) := by decide +kernel
theorem dX7_find_1 : decode cX7_find 1 = .ok (.iload_n 2, 1) := by decide +kernel
theorem dX7_find_2 : decode cX7_find 2 = .ok (.invokestatic 100, 3) := by decide +kernel
theorem dX7_find_5 : decode cX7_find 5 = .ok (.ifCond .ne 5, 3) := by decide +kernel
theorem dX7_find_8 : decode cX7_find 8 = .ok (.iconst (-1), 1) := by decide +kernel
theorem dX7_find_9 : decode cX7_find 9 = .ok (.ireturn, 1) := by decide +kernel
theorem dX7_find_10 : decode cX7_find 10 = .ok (.aload_n 0, 1) := by decide +kernel
theorem dX7_find_11 : decode cX7_find 11 = .ok (.getfield 48, 3) := by decide +kernel
theorem dX7_find_14 : decode cX7_find 14 = .ok (.iload_n 1, 1) := by decide +kernel
theorem dX7_find_15 : decode cX7_find 15 = .ok (.iload_n 2, 1) := by decide +kernel
theorem dX7_find_16 : decode cX7_find 16 = .ok (.invokevirtual 104, 3) := by decide +kernel
theorem dX7_find_19 : decode cX7_find 19 = .ok (.aload_n 0, 1) := by decide +kernel
theorem dX7_find_20 : decode cX7_find 20 = .ok (.getfield 10, 3) := by decide +kernel
theorem dX7_find_23 : decode cX7_find 23 = .ok (.aload_n 0, 1) := by decide +kernel
theorem dX7_find_24 : decode cX7_find 24 = .ok (.getfield 48, 3) := by decide +kernel
theorem dX7_find_27 : decode cX7_find 27 = .ok (.invokevirtual 118, 3) := by decide +kernel
theorem dX7_find_30 : decode cX7_find 30 = .ok (.aload_n 0, 1) := by decide +kernel
theorem dX7_find_31 : decode cX7_find 31 = .ok (.getfield 10, 3) := by decide +kernel
theorem dX7_find_34 : decode cX7_find 34 = .ok (.aload_n 0, 1) := by decide +kernel
theorem dX7_find_35 : decode cX7_find 35 = .ok (.getfield 10, 3) := by decide +kernel
theorem dX7_find_38 : decode cX7_find 38 = .ok (.getfield 115, 3) := by decide +kernel
theorem dX7_find_41 : decode cX7_find 41 = .ok (.iconst 1, 1) := by decide +kernel
theorem dX7_find_42 : decode cX7_find 42 = .ok (.isub, 1) := by decide +kernel
theorem dX7_find_43 : decode cX7_find 43 = .ok (.invokevirtual 122, 3) := by decide +kernel
theorem dX7_find_46 : decode cX7_find 46 = .ok (.astore_n 3, 1) := by decide +kernel
theorem dX7_find_47 : decode cX7_find 47 = .ok (.aload_n 3, 1) := by decide +kernel
theorem dX7_find_48 : decode cX7_find 48 = .ok (.aload_n 0, 1) := by decide +kernel
theorem dX7_find_49 : decode cX7_find 49 = .ok (.getfield 48, 3) := by decide +kernel
theorem dX7_find_52 : decode cX7_find 52 = .ok (.iconst 0, 1) := by decide +kernel
theorem dX7_find_53 : decode cX7_find 53 = .ok (.invokevirtual 126, 3) := by decide +kernel
theorem dX7_find_56 : decode cX7_find 56 = .ok (.istore 4, 2) := by decide +kernel
theorem dX7_find_58 : decode cX7_find 58 = .ok (.aload_n 3, 1) := by decide +kernel
theorem dX7_find_59 : decode cX7_find 59 = .ok (.iload 4, 2) := by decide +kernel
theorem dX7_find_61 : decode cX7_find 61 = .ok (.aload_n 0, 1) := by decide +kernel
theorem dX7_find_62 : decode cX7_find 62 = .ok (.getfield 48, 3) := by decide +kernel
theorem dX7_find_65 : decode cX7_find 65 = .ok (.invokevirtual 132, 3) := by decide +kernel
theorem dX7_find_68 : decode cX7_find 68 = .ok (.ifCond .eq 12, 3) := by decide +kernel
theorem dX7_find_71 : decode cX7_find 71 = .ok (.aload_n 3, 1) := by decide +kernel
theorem dX7_find_72 : decode cX7_find 72 = .ok (.iload 4, 2) := by decide +kernel
theorem dX7_find_74 : decode cX7_find 74 = .ok (.invokevirtual 136, 3) := by decide +kernel
theorem dX7_find_77 : decode cX7_find 77 = .ok (.goto 5, 3) := by decide +kernel
theorem dX7_find_80 : decode cX7_find 80 = .ok (.bipush (-9), 2) := by decide +kernel
theorem dX7_find_82 : decode cX7_find 82 = .ok (.ireturn, 1) := by decide +kernel
theorem dX7_rank_0 : decode cX7_rank 0 = .ok (.iload_n 1, 1) := by decide +kernel
theorem dX7_rank_1 : decode cX7_rank 1 = .ok (.iload_n 2, 1) := by decide +kernel
theorem dX7_rank_2 : decode cX7_rank 2 = .ok (.invokestatic 100, 3) := by decide +kernel
theorem dX7_rank_5 : decode cX7_rank 5 = .ok (.ifCond .eq 12, 3) := by decide +kernel
theorem dX7_rank_8 : decode cX7_rank 8 = .ok (.iload_n 3, 1) := by decide +kernel
theorem dX7_rank_9 : decode cX7_rank 9 = .ok (.iconst 0, 1) := by decide +kernel
theorem dX7_rank_10 : decode cX7_rank 10 = .ok (.iconst 1, 1) := by decide +kernel
theorem dX7_rank_11 : decode cX7_rank 11 = .ok (.invokestatic 108, 3) := by decide +kernel
theorem dX7_rank_14 : decode cX7_rank 14 = .ok (.ifCond .ne 5, 3) := by decide +kernel
theorem dX7_rank_17 : decode cX7_rank 17 = .ok (.iconst (-1), 1) := by decide +kernel
theorem dX7_rank_18 : decode cX7_rank 18 = .ok (.ireturn, 1) := by decide +kernel
theorem dX7_rank_19 : decode cX7_rank 19 = .ok (.aload_n 0, 1) := by decide +kernel
theorem dX7_rank_20 : decode cX7_rank 20 = .ok (.getfield 48, 3) := by decide +kernel
theorem dX7_rank_23 : decode cX7_rank 23 = .ok (.iload_n 1, 1) := by decide +kernel
theorem dX7_rank_24 : decode cX7_rank 24 = .ok (.iload_n 2, 1) := by decide +kernel
theorem dX7_rank_25 : decode cX7_rank 25 = .ok (.invokevirtual 104, 3) := by decide +kernel
theorem dX7_rank_28 : decode cX7_rank 28 = .ok (.iconst 0, 1) := by decide +kernel
theorem dX7_rank_29 : decode cX7_rank 29 = .ok (.istore 4, 2) := by decide +kernel
theorem dX7_rank_31 : decode cX7_rank 31 = .ok (.iconst 0, 1) := by decide +kernel
theorem dX7_rank_32 : decode cX7_rank 32 = .ok (.istore 5, 2) := by decide +kernel
theorem dX7_rank_34 : decode cX7_rank 34 = .ok (.iload 5, 2) := by decide +kernel
theorem dX7_rank_36 : decode cX7_rank 36 = .ok (.bipush 32, 2) := by decide +kernel
theorem dX7_rank_38 : decode cX7_rank 38 = .ok (.if_icmp .ge 60, 3) := by decide +kernel
theorem dX7_rank_41 : decode cX7_rank 41 = .ok (.aload_n 0, 1) := by decide +kernel
theorem dX7_rank_42 : decode cX7_rank 42 = .ok (.getfield 10, 3) := by decide +kernel
theorem dX7_rank_45 : decode cX7_rank 45 = .ok (.iload 5, 2) := by decide +kernel
theorem dX7_rank_47 : decode cX7_rank 47 = .ok (.invokevirtual 139, 3) := by decide +kernel
theorem dX7_rank_50 : decode cX7_rank 50 = .ok (.astore 6, 2) := by decide +kernel
theorem dX7_rank_52 : decode cX7_rank 52 = .ok (.aload 6, 2) := by decide +kernel
theorem dX7_rank_54 : decode cX7_rank 54 = .ok (.invokevirtual 142, 3) := by decide +kernel
theorem dX7_rank_57 : decode cX7_rank 57 = .ok (.iconst 1, 1) := by decide +kernel
theorem dX7_rank_58 : decode cX7_rank 58 = .ok (.if_icmp .ne 34, 3) := by decide +kernel
theorem dX7_rank_61 : decode cX7_rank 61 = .ok (.iload 4, 2) := by decide +kernel
theorem dX7_rank_63 : decode cX7_rank 63 = .ok (.iload_n 3, 1) := by decide +kernel
theorem dX7_rank_64 : decode cX7_rank 64 = .ok (.ifCond .ne 16, 3) := by decide +kernel
theorem dX7_rank_67 : decode cX7_rank 67 = .ok (.aload 6, 2) := by decide +kernel
theorem dX7_rank_69 : decode cX7_rank 69 = .ok (.aload_n 0, 1) := by decide +kernel
theorem dX7_rank_70 : decode cX7_rank 70 = .ok (.getfield 48, 3) := by decide +kernel
theorem dX7_rank_73 : decode cX7_rank 73 = .ok (.iconst 0, 1) := by decide +kernel
theorem dX7_rank_74 : decode cX7_rank 74 = .ok (.invokevirtual 126, 3) := by decide +kernel
theorem dX7_rank_77 : decode cX7_rank 77 = .ok (.goto 12, 3) := by decide +kernel
theorem dX7_rank_80 : decode cX7_rank 80 = .ok (.aload 6, 2) := by decide +kernel
theorem dX7_rank_82 : decode cX7_rank 82 = .ok (.aload_n 0, 1) := by decide +kernel
theorem dX7_rank_83 : decode cX7_rank 83 = .ok (.getfield 48, 3) := by decide +kernel
theorem dX7_rank_86 : decode cX7_rank 86 = .ok (.invokevirtual 145, 3) := by decide +kernel
theorem dX7_rank_89 : decode cX7_rank 89 = .ok (.iadd, 1) := by decide +kernel
theorem dX7_rank_90 : decode cX7_rank 90 = .ok (.istore 4, 2) := by decide +kernel
theorem dX7_rank_92 : decode cX7_rank 92 = .ok (.iinc 5 1, 3) := by decide +kernel
theorem dX7_rank_95 : decode cX7_rank 95 = .ok (.goto (-61), 3) := by decide +kernel
theorem dX7_rank_98 : decode cX7_rank 98 = .ok (.iload 4, 2) := by decide +kernel
theorem dX7_rank_100 : decode cX7_rank 100 = .ok (.ireturn, 1) := by decide +kernel
theorem dX7_path_0 : decode cX7_path 0 = .ok (.iload_n 1, 1) := by decide +kernel
theorem dX7_path_1 : decode cX7_path 1 = .ok (.iload_n 2, 1) := by decide +kernel
theorem dX7_path_2 : decode cX7_path 2 = .ok (.invokestatic 100, 3) := by decide +kernel
theorem dX7_path_5 : decode cX7_path 5 = .ok (.ifCond .eq 7, 3) := by decide +kernel
theorem dX7_path_8 : decode cX7_path 8 = .ok (.iload_n 3, 1) := by decide +kernel
theorem dX7_path_9 : decode cX7_path 9 = .ok (.ifCond .ge 5, 3) := by decide +kernel
theorem dX7_path_12 : decode cX7_path 12 = .ok (.iconst (-1), 1) := by decide +kernel
theorem dX7_path_13 : decode cX7_path 13 = .ok (.ireturn, 1) := by decide +kernel
theorem dX7_path_14 : decode cX7_path 14 = .ok (.iload_n 3, 1) := by decide +kernel
theorem dX7_path_15 : decode cX7_path 15 = .ok (.aload_n 0, 1) := by decide +kernel
theorem dX7_path_16 : decode cX7_path 16 = .ok (.getfield 10, 3) := by decide +kernel
theorem dX7_path_19 : decode cX7_path 19 = .ok (.getfield 115, 3) := by decide +kernel
theorem dX7_path_22 : decode cX7_path 22 = .ok (.if_icmp .lt 6, 3) := by decide +kernel
theorem dX7_path_25 : decode cX7_path 25 = .ok (.bipush (-9), 2) := by decide +kernel
theorem dX7_path_27 : decode cX7_path 27 = .ok (.ireturn, 1) := by decide +kernel
theorem dX7_path_28 : decode cX7_path 28 = .ok (.aload_n 0, 1) := by decide +kernel
theorem dX7_path_29 : decode cX7_path 29 = .ok (.getfield 48, 3) := by decide +kernel
theorem dX7_path_32 : decode cX7_path 32 = .ok (.iload_n 1, 1) := by decide +kernel
theorem dX7_path_33 : decode cX7_path 33 = .ok (.iload_n 2, 1) := by decide +kernel
theorem dX7_path_34 : decode cX7_path 34 = .ok (.invokevirtual 104, 3) := by decide +kernel
theorem dX7_path_37 : decode cX7_path 37 = .ok (.aload_n 0, 1) := by decide +kernel
theorem dX7_path_38 : decode cX7_path 38 = .ok (.getfield 10, 3) := by decide +kernel
theorem dX7_path_41 : decode cX7_path 41 = .ok (.aload_n 0, 1) := by decide +kernel
theorem dX7_path_42 : decode cX7_path 42 = .ok (.getfield 48, 3) := by decide +kernel
theorem dX7_path_45 : decode cX7_path 45 = .ok (.invokevirtual 118, 3) := by decide +kernel
theorem dX7_path_48 : decode cX7_path 48 = .ok (.aload_n 0, 1) := by decide +kernel
theorem dX7_path_49 : decode cX7_path 49 = .ok (.getfield 10, 3) := by decide +kernel
theorem dX7_path_52 : decode cX7_path 52 = .ok (.iload_n 3, 1) := by decide +kernel
theorem dX7_path_53 : decode cX7_path 53 = .ok (.invokevirtual 148, 3) := by decide +kernel
theorem dX7_path_56 : decode cX7_path 56 = .ok (.ireturn, 1) := by decide +kernel
theorem dX7_letter_0 : decode cX7_letter 0 = .ok (.aload_n 0, 1) := by decide +kernel
theorem dX7_letter_1 : decode cX7_letter 1 = .ok (.getfield 10, 3) := by decide +kernel
theorem dX7_letter_4 : decode cX7_letter 4 = .ok (.iload_n 1, 1) := by decide +kernel
theorem dX7_letter_5 : decode cX7_letter 5 = .ok (.invokevirtual 151, 3) := by decide +kernel
theorem dX7_letter_8 : decode cX7_letter 8 = .ok (.istore_n 3, 1) := by decide +kernel
theorem dX7_letter_9 : decode cX7_letter 9 = .ok (.iload_n 3, 1) := by decide +kernel
theorem dX7_letter_10 : decode cX7_letter 10 = .ok (.ifCond .lt 13, 3) := by decide +kernel
theorem dX7_letter_13 : decode cX7_letter 13 = .ok (.iload_n 2, 1) := by decide +kernel
theorem dX7_letter_14 : decode cX7_letter 14 = .ok (.iconst 0, 1) := by decide +kernel
theorem dX7_letter_15 : decode cX7_letter 15 = .ok (.bipush 7, 2) := by decide +kernel
theorem dX7_letter_17 : decode cX7_letter 17 = .ok (.invokestatic 108, 3) := by decide +kernel
theorem dX7_letter_20 : decode cX7_letter 20 = .ok (.ifCond .ne 5, 3) := by decide +kernel
theorem dX7_letter_23 : decode cX7_letter 23 = .ok (.iconst (-1), 1) := by decide +kernel
theorem dX7_letter_24 : decode cX7_letter 24 = .ok (.ireturn, 1) := by decide +kernel
theorem dX7_letter_25 : decode cX7_letter 25 = .ok (.aload_n 0, 1) := by decide +kernel
theorem dX7_letter_26 : decode cX7_letter 26 = .ok (.getfield 10, 3) := by decide +kernel
theorem dX7_letter_29 : decode cX7_letter 29 = .ok (.iload_n 3, 1) := by decide +kernel
theorem dX7_letter_30 : decode cX7_letter 30 = .ok (.bipush 64, 2) := by decide +kernel
theorem dX7_letter_32 : decode cX7_letter 32 = .ok (.idiv, 1) := by decide +kernel
theorem dX7_letter_33 : decode cX7_letter 33 = .ok (.invokevirtual 139, 3) := by decide +kernel
theorem dX7_letter_36 : decode cX7_letter 36 = .ok (.astore 4, 2) := by decide +kernel
theorem dX7_letter_38 : decode cX7_letter 38 = .ok (.iload_n 3, 1) := by decide +kernel
theorem dX7_letter_39 : decode cX7_letter 39 = .ok (.bipush 64, 2) := by decide +kernel
theorem dX7_letter_41 : decode cX7_letter 41 = .ok (.irem, 1) := by decide +kernel
theorem dX7_letter_42 : decode cX7_letter 42 = .ok (.istore 5, 2) := by decide +kernel
theorem dX7_letter_44 : decode cX7_letter 44 = .ok (.iload_n 2, 1) := by decide +kernel
theorem dX7_letter_45 : decode cX7_letter 45 = .ok (.aload 4, 2) := by decide +kernel
theorem dX7_letter_47 : decode cX7_letter 47 = .ok (.iload 5, 2) := by decide +kernel
theorem dX7_letter_49 : decode cX7_letter 49 = .ok (.invokevirtual 154, 3) := by decide +kernel
theorem dX7_letter_52 : decode cX7_letter 52 = .ok (.if_icmp .ge 14, 3) := by decide +kernel
theorem dX7_letter_55 : decode cX7_letter 55 = .ok (.aload 4, 2) := by decide +kernel
theorem dX7_letter_57 : decode cX7_letter 57 = .ok (.iload 5, 2) := by decide +kernel
theorem dX7_letter_59 : decode cX7_letter 59 = .ok (.iload_n 2, 1) := by decide +kernel
theorem dX7_letter_60 : decode cX7_letter 60 = .ok (.invokevirtual 157, 3) := by decide +kernel
theorem dX7_letter_63 : decode cX7_letter 63 = .ok (.goto 5, 3) := by decide +kernel
theorem dX7_letter_66 : decode cX7_letter 66 = .ok (.bipush (-9), 2) := by decide +kernel
theorem dX7_letter_68 : decode cX7_letter 68 = .ok (.ireturn, 1) := by decide +kernel
theorem dX7_value_0 : decode cX7_value 0 = .ok (.aload_n 0, 1) := by decide +kernel
theorem dX7_value_1 : decode cX7_value 1 = .ok (.getfield 10, 3) := by decide +kernel
theorem dX7_value_4 : decode cX7_value 4 = .ok (.iload_n 1, 1) := by decide +kernel
theorem dX7_value_5 : decode cX7_value 5 = .ok (.invokevirtual 151, 3) := by decide +kernel
theorem dX7_value_8 : decode cX7_value 8 = .ok (.istore_n 2, 1) := by decide +kernel
theorem dX7_value_9 : decode cX7_value 9 = .ok (.iload_n 2, 1) := by decide +kernel
theorem dX7_value_10 : decode cX7_value 10 = .ok (.ifCond .ge 7, 3) := by decide +kernel
theorem dX7_value_13 : decode cX7_value 13 = .ok (.iconst (-1), 1) := by decide +kernel
theorem dX7_value_14 : decode cX7_value 14 = .ok (.goto 21, 3) := by decide +kernel
theorem dX7_value_17 : decode cX7_value 17 = .ok (.aload_n 0, 1) := by decide +kernel
theorem dX7_value_18 : decode cX7_value 18 = .ok (.getfield 10, 3) := by decide +kernel
theorem dX7_value_21 : decode cX7_value 21 = .ok (.iload_n 2, 1) := by decide +kernel
theorem dX7_value_22 : decode cX7_value 22 = .ok (.bipush 64, 2) := by decide +kernel
theorem dX7_value_24 : decode cX7_value 24 = .ok (.idiv, 1) := by decide +kernel
theorem dX7_value_25 : decode cX7_value 25 = .ok (.invokevirtual 139, 3) := by decide +kernel
theorem dX7_value_28 : decode cX7_value 28 = .ok (.iload_n 2, 1) := by decide +kernel
theorem dX7_value_29 : decode cX7_value 29 = .ok (.bipush 64, 2) := by decide +kernel
theorem dX7_value_31 : decode cX7_value 31 = .ok (.irem, 1) := by decide +kernel
theorem dX7_value_32 : decode cX7_value 32 = .ok (.invokevirtual 136, 3) := by decide +kernel
theorem dX7_value_35 : decode cX7_value 35 = .ok (.ireturn, 1) := by decide +kernel
theorem dX7_page_0 : decode cX7_page 0 = .ok (.iload_n 1, 1) := by decide +kernel
theorem dX7_page_1 : decode cX7_page 1 = .ok (.invokestatic 161, 3) := by decide +kernel
theorem dX7_page_4 : decode cX7_page 4 = .ok (.ifCond .ne 5, 3) := by decide +kernel
theorem dX7_page_7 : decode cX7_page 7 = .ok (.iconst (-1), 1) := by decide +kernel
theorem dX7_page_8 : decode cX7_page 8 = .ok (.ireturn, 1) := by decide +kernel
theorem dX7_page_9 : decode cX7_page 9 = .ok (.aload_n 0, 1) := by decide +kernel
theorem dX7_page_10 : decode cX7_page 10 = .ok (.getfield 10, 3) := by decide +kernel
theorem dX7_page_13 : decode cX7_page 13 = .ok (.iload_n 1, 1) := by decide +kernel
theorem dX7_page_14 : decode cX7_page 14 = .ok (.invokevirtual 139, 3) := by decide +kernel
theorem dX7_page_17 : decode cX7_page 17 = .ok (.astore_n 3, 1) := by decide +kernel
theorem dX7_page_18 : decode cX7_page 18 = .ok (.iload_n 2, 1) := by decide +kernel
theorem dX7_page_19 : decode cX7_page 19 = .ok (.tableswitch 49 0 3 #[29, 34, 39, 44], 29) := by decide +kernel
theorem dX7_page_48 : decode cX7_page 48 = .ok (.aload_n 3, 1) := by decide +kernel
theorem dX7_page_49 : decode cX7_page 49 = .ok (.invokevirtual 142, 3) := by decide +kernel
theorem dX7_page_52 : decode cX7_page 52 = .ok (.ireturn, 1) := by decide +kernel
theorem dX7_page_53 : decode cX7_page 53 = .ok (.aload_n 3, 1) := by decide +kernel
theorem dX7_page_54 : decode cX7_page 54 = .ok (.invokevirtual 164, 3) := by decide +kernel
theorem dX7_page_57 : decode cX7_page 57 = .ok (.ireturn, 1) := by decide +kernel
theorem dX7_page_58 : decode cX7_page 58 = .ok (.aload_n 3, 1) := by decide +kernel
theorem dX7_page_59 : decode cX7_page 59 = .ok (.invokevirtual 167, 3) := by decide +kernel
theorem dX7_page_62 : decode cX7_page 62 = .ok (.ireturn, 1) := by decide +kernel
theorem dX7_page_63 : decode cX7_page 63 = .ok (.aload_n 3, 1) := by decide +kernel
theorem dX7_page_64 : decode cX7_page 64 = .ok (.invokevirtual 170, 3) := by decide +kernel
theorem dX7_page_67 : decode cX7_page 67 = .ok (.ireturn, 1) := by decide +kernel
theorem dX7_page_68 : decode cX7_page 68 = .ok (.iconst (-1), 1) := by decide +kernel
theorem dX7_page_69 : decode cX7_page 69 = .ok (.ireturn, 1) := by decide +kernel
theorem dX7_byteAt_0 : decode cX7_byteAt 0 = .ok (.iload_n 1, 1) := by decide +kernel
theorem dX7_byteAt_1 : decode cX7_byteAt 1 = .ok (.invokestatic 161, 3) := by decide +kernel
theorem dX7_byteAt_4 : decode cX7_byteAt 4 = .ok (.ifCond .eq 28, 3) := by decide +kernel
theorem dX7_byteAt_7 : decode cX7_byteAt 7 = .ok (.iload_n 2, 1) := by decide +kernel
theorem dX7_byteAt_8 : decode cX7_byteAt 8 = .ok (.iconst 0, 1) := by decide +kernel
theorem dX7_byteAt_9 : decode cX7_byteAt 9 = .ok (.bipush 63, 2) := by decide +kernel
theorem dX7_byteAt_11 : decode cX7_byteAt 11 = .ok (.invokestatic 108, 3) := by decide +kernel
theorem dX7_byteAt_14 : decode cX7_byteAt 14 = .ok (.ifCond .eq 18, 3) := by decide +kernel
theorem dX7_byteAt_17 : decode cX7_byteAt 17 = .ok (.aload_n 0, 1) := by decide +kernel
theorem dX7_byteAt_18 : decode cX7_byteAt 18 = .ok (.getfield 10, 3) := by decide +kernel
theorem dX7_byteAt_21 : decode cX7_byteAt 21 = .ok (.iload_n 1, 1) := by decide +kernel
theorem dX7_byteAt_22 : decode cX7_byteAt 22 = .ok (.invokevirtual 139, 3) := by decide +kernel
theorem dX7_byteAt_25 : decode cX7_byteAt 25 = .ok (.iload_n 2, 1) := by decide +kernel
theorem dX7_byteAt_26 : decode cX7_byteAt 26 = .ok (.invokevirtual 173, 3) := by decide +kernel
theorem dX7_byteAt_29 : decode cX7_byteAt 29 = .ok (.goto 4, 3) := by decide +kernel
theorem dX7_byteAt_32 : decode cX7_byteAt 32 = .ok (.iconst (-1), 1) := by decide +kernel
theorem dX7_byteAt_33 : decode cX7_byteAt 33 = .ok (.ireturn, 1) := by decide +kernel
theorem dX7_check_0 : decode cX7_check 0 = .ok (.iload_n 1, 1) := by decide +kernel
theorem dX7_check_1 : decode cX7_check 1 = .ok (.invokestatic 161, 3) := by decide +kernel
theorem dX7_check_4 : decode cX7_check 4 = .ok (.ifCond .eq 20, 3) := by decide +kernel
theorem dX7_check_7 : decode cX7_check 7 = .ok (.iload_n 2, 1) := by decide +kernel
theorem dX7_check_8 : decode cX7_check 8 = .ok (.iconst 0, 1) := by decide +kernel
theorem dX7_check_9 : decode cX7_check 9 = .ok (.bipush 63, 2) := by decide +kernel
theorem dX7_check_11 : decode cX7_check 11 = .ok (.invokestatic 108, 3) := by decide +kernel
theorem dX7_check_14 : decode cX7_check 14 = .ok (.ifCond .eq 10, 3) := by decide +kernel
theorem dX7_check_17 : decode cX7_check 17 = .ok (.iload_n 3, 1) := by decide +kernel
theorem dX7_check_18 : decode cX7_check 18 = .ok (.invokestatic 53, 3) := by decide +kernel
theorem dX7_check_21 : decode cX7_check 21 = .ok (.ifCond .ne 5, 3) := by decide +kernel
theorem dX7_check_24 : decode cX7_check 24 = .ok (.iconst (-1), 1) := by decide +kernel
theorem dX7_check_25 : decode cX7_check 25 = .ok (.ireturn, 1) := by decide +kernel
theorem dX7_check_26 : decode cX7_check 26 = .ok (.aload_n 0, 1) := by decide +kernel
theorem dX7_check_27 : decode cX7_check 27 = .ok (.getfield 10, 3) := by decide +kernel
theorem dX7_check_30 : decode cX7_check 30 = .ok (.iload_n 1, 1) := by decide +kernel
theorem dX7_check_31 : decode cX7_check 31 = .ok (.invokevirtual 139, 3) := by decide +kernel
theorem dX7_check_34 : decode cX7_check 34 = .ok (.astore 4, 2) := by decide +kernel
theorem dX7_check_36 : decode cX7_check 36 = .ok (.aload 4, 2) := by decide +kernel
theorem dX7_check_38 : decode cX7_check 38 = .ok (.iload_n 2, 1) := by decide +kernel
theorem dX7_check_39 : decode cX7_check 39 = .ok (.invokevirtual 173, 3) := by decide +kernel
theorem dX7_check_42 : decode cX7_check 42 = .ok (.istore 5, 2) := by decide +kernel
theorem dX7_check_44 : decode cX7_check 44 = .ok (.aload 4, 2) := by decide +kernel
theorem dX7_check_46 : decode cX7_check 46 = .ok (.iload_n 2, 1) := by decide +kernel
theorem dX7_check_47 : decode cX7_check 47 = .ok (.iload_n 3, 1) := by decide +kernel
theorem dX7_check_48 : decode cX7_check 48 = .ok (.invokevirtual 176, 3) := by decide +kernel
theorem dX7_check_51 : decode cX7_check 51 = .ok (.aload_n 0, 1) := by decide +kernel
theorem dX7_check_52 : decode cX7_check 52 = .ok (.getfield 28, 3) := by decide +kernel
theorem dX7_check_55 : decode cX7_check 55 = .ok (.invokevirtual 179, 3) := by decide +kernel
theorem dX7_check_58 : decode cX7_check 58 = .ok (.istore 6, 2) := by decide +kernel
theorem dX7_check_60 : decode cX7_check 60 = .ok (.aload 4, 2) := by decide +kernel
theorem dX7_check_62 : decode cX7_check 62 = .ok (.iload_n 2, 1) := by decide +kernel
theorem dX7_check_63 : decode cX7_check 63 = .ok (.iload 5, 2) := by decide +kernel
theorem dX7_check_65 : decode cX7_check 65 = .ok (.invokevirtual 176, 3) := by decide +kernel
theorem dX7_check_68 : decode cX7_check 68 = .ok (.iload 6, 2) := by decide +kernel
theorem dX7_check_70 : decode cX7_check 70 = .ok (.ireturn, 1) := by decide +kernel
theorem dX7_count_0 : decode cX7_count 0 = .ok (.iload_n 1, 1) := by decide +kernel
theorem dX7_count_1 : decode cX7_count 1 = .ok (.tableswitch 113 0 7 #[47, 55, 63, 71, 80, 88, 97, 105], 47) := by decide +kernel
theorem dX7_count_48 : decode cX7_count 48 = .ok (.aload_n 0, 1) := by decide +kernel
theorem dX7_count_49 : decode cX7_count 49 = .ok (.getfield 10, 3) := by decide +kernel
theorem dX7_count_52 : decode cX7_count 52 = .ok (.invokevirtual 182, 3) := by decide +kernel
theorem dX7_count_55 : decode cX7_count 55 = .ok (.ireturn, 1) := by decide +kernel
theorem dX7_count_56 : decode cX7_count 56 = .ok (.aload_n 0, 1) := by decide +kernel
theorem dX7_count_57 : decode cX7_count 57 = .ok (.getfield 10, 3) := by decide +kernel
theorem dX7_count_60 : decode cX7_count 60 = .ok (.getfield 115, 3) := by decide +kernel
theorem dX7_count_63 : decode cX7_count 63 = .ok (.ireturn, 1) := by decide +kernel
theorem dX7_count_64 : decode cX7_count 64 = .ok (.aload_n 0, 1) := by decide +kernel
theorem dX7_count_65 : decode cX7_count 65 = .ok (.getfield 10, 3) := by decide +kernel
theorem dX7_count_68 : decode cX7_count 68 = .ok (.getfield 185, 3) := by decide +kernel
theorem dX7_count_71 : decode cX7_count 71 = .ok (.ireturn, 1) := by decide +kernel
theorem dX7_count_72 : decode cX7_count 72 = .ok (.aload_n 0, 1) := by decide +kernel
theorem dX7_count_73 : decode cX7_count 73 = .ok (.getfield 10, 3) := by decide +kernel
theorem dX7_count_76 : decode cX7_count 76 = .ok (.iconst 0, 1) := by decide +kernel
theorem dX7_count_77 : decode cX7_count 77 = .ok (.invokevirtual 188, 3) := by decide +kernel
theorem dX7_count_80 : decode cX7_count 80 = .ok (.ireturn, 1) := by decide +kernel
theorem dX7_count_81 : decode cX7_count 81 = .ok (.aload_n 0, 1) := by decide +kernel
theorem dX7_count_82 : decode cX7_count 82 = .ok (.getfield 10, 3) := by decide +kernel
theorem dX7_count_85 : decode cX7_count 85 = .ok (.invokevirtual 191, 3) := by decide +kernel
theorem dX7_count_88 : decode cX7_count 88 = .ok (.ireturn, 1) := by decide +kernel
theorem dX7_count_89 : decode cX7_count 89 = .ok (.aload_n 0, 1) := by decide +kernel
theorem dX7_count_90 : decode cX7_count 90 = .ok (.getfield 10, 3) := by decide +kernel
theorem dX7_count_93 : decode cX7_count 93 = .ok (.iconst 1, 1) := by decide +kernel
theorem dX7_count_94 : decode cX7_count 94 = .ok (.invokevirtual 188, 3) := by decide +kernel
theorem dX7_count_97 : decode cX7_count 97 = .ok (.ireturn, 1) := by decide +kernel
theorem dX7_count_98 : decode cX7_count 98 = .ok (.aload_n 0, 1) := by decide +kernel
theorem dX7_count_99 : decode cX7_count 99 = .ok (.getfield 10, 3) := by decide +kernel
theorem dX7_count_102 : decode cX7_count 102 = .ok (.invokevirtual 194, 3) := by decide +kernel
theorem dX7_count_105 : decode cX7_count 105 = .ok (.ireturn, 1) := by decide +kernel
theorem dX7_count_106 : decode cX7_count 106 = .ok (.aload_n 0, 1) := by decide +kernel
theorem dX7_count_107 : decode cX7_count 107 = .ok (.getfield 10, 3) := by decide +kernel
theorem dX7_count_110 : decode cX7_count 110 = .ok (.invokevirtual 197, 3) := by decide +kernel
theorem dX7_count_113 : decode cX7_count 113 = .ok (.ireturn, 1) := by decide +kernel
theorem dX7_count_114 : decode cX7_count 114 = .ok (.iconst (-1), 1) := by decide +kernel
theorem dX7_count_115 : decode cX7_count 115 = .ok (.ireturn, 1) := by decide +kernel
theorem dX7_digest_0 : decode cX7_digest 0 = .ok (.ldc2_w 200, 3) := by decide +kernel
theorem dX7_digest_3 : decode cX7_digest 3 = .ok (.lstore_n 1, 1) := by decide +kernel
theorem dX7_digest_4 : decode cX7_digest 4 = .ok (.iconst 0, 1) := by decide +kernel
theorem dX7_digest_5 : decode cX7_digest 5 = .ok (.istore_n 3, 1) := by decide +kernel
theorem dX7_digest_6 : decode cX7_digest 6 = .ok (.iload_n 3, 1) := by decide +kernel
theorem dX7_digest_7 : decode cX7_digest 7 = .ok (.bipush 32, 2) := by decide +kernel
theorem dX7_digest_9 : decode cX7_digest 9 = .ok (.if_icmp .ge 50, 3) := by decide +kernel
theorem dX7_digest_12 : decode cX7_digest 12 = .ok (.aload_n 0, 1) := by decide +kernel
theorem dX7_digest_13 : decode cX7_digest 13 = .ok (.getfield 10, 3) := by decide +kernel
theorem dX7_digest_16 : decode cX7_digest 16 = .ok (.iload_n 3, 1) := by decide +kernel
theorem dX7_digest_17 : decode cX7_digest 17 = .ok (.invokevirtual 139, 3) := by decide +kernel
theorem dX7_digest_20 : decode cX7_digest 20 = .ok (.astore 4, 2) := by decide +kernel
theorem dX7_digest_22 : decode cX7_digest 22 = .ok (.iconst 0, 1) := by decide +kernel
theorem dX7_digest_23 : decode cX7_digest 23 = .ok (.istore 5, 2) := by decide +kernel
theorem dX7_digest_25 : decode cX7_digest 25 = .ok (.iload 5, 2) := by decide +kernel
theorem dX7_digest_27 : decode cX7_digest 27 = .ok (.bipush 64, 2) := by decide +kernel
theorem dX7_digest_29 : decode cX7_digest 29 = .ok (.if_icmp .ge 24, 3) := by decide +kernel
theorem dX7_digest_32 : decode cX7_digest 32 = .ok (.ldc2_w 202, 3) := by decide +kernel
theorem dX7_digest_35 : decode cX7_digest 35 = .ok (.lload_n 1, 1) := by decide +kernel
theorem dX7_digest_36 : decode cX7_digest 36 = .ok (.lmul, 1) := by decide +kernel
theorem dX7_digest_37 : decode cX7_digest 37 = .ok (.aload 4, 2) := by decide +kernel
theorem dX7_digest_39 : decode cX7_digest 39 = .ok (.iload 5, 2) := by decide +kernel
theorem dX7_digest_41 : decode cX7_digest 41 = .ok (.invokevirtual 173, 3) := by decide +kernel
theorem dX7_digest_44 : decode cX7_digest 44 = .ok (.i2l, 1) := by decide +kernel
theorem dX7_digest_45 : decode cX7_digest 45 = .ok (.ladd, 1) := by decide +kernel
theorem dX7_digest_46 : decode cX7_digest 46 = .ok (.lstore_n 1, 1) := by decide +kernel
theorem dX7_digest_47 : decode cX7_digest 47 = .ok (.iinc 5 1, 3) := by decide +kernel
theorem dX7_digest_50 : decode cX7_digest 50 = .ok (.goto (-25), 3) := by decide +kernel
theorem dX7_digest_53 : decode cX7_digest 53 = .ok (.iinc 3 1, 3) := by decide +kernel
theorem dX7_digest_56 : decode cX7_digest 56 = .ok (.goto (-50), 3) := by decide +kernel
theorem dX7_digest_59 : decode cX7_digest 59 = .ok (.lload_n 1, 1) := by decide +kernel
theorem dX7_digest_60 : decode cX7_digest 60 = .ok (.lreturn, 1) := by decide +kernel
theorem dX7_keep_0 : decode cX7_keep 0 = .ok (.iload_n 1, 1) := by decide +kernel
theorem dX7_keep_1 : decode cX7_keep 1 = .ok (.ifCond .lt 12, 3) := by decide +kernel
theorem dX7_keep_4 : decode cX7_keep 4 = .ok (.iload_n 1, 1) := by decide +kernel
theorem dX7_keep_5 : decode cX7_keep 5 = .ok (.aload_n 0, 1) := by decide +kernel
theorem dX7_keep_6 : decode cX7_keep 6 = .ok (.getfield 41, 3) := by decide +kernel
theorem dX7_keep_9 : decode cX7_keep 9 = .ok (.arraylength, 1) := by decide +kernel
theorem dX7_keep_10 : decode cX7_keep 10 = .ok (.if_icmp .lt 5, 3) := by decide +kernel
theorem dX7_keep_13 : decode cX7_keep 13 = .ok (.iconst (-1), 1) := by decide +kernel
theorem dX7_keep_14 : decode cX7_keep 14 = .ok (.ireturn, 1) := by decide +kernel
theorem dX7_keep_15 : decode cX7_keep 15 = .ok (.aload_n 0, 1) := by decide +kernel
theorem dX7_keep_16 : decode cX7_keep 16 = .ok (.getfield 41, 3) := by decide +kernel
theorem dX7_keep_19 : decode cX7_keep 19 = .ok (.iload_n 1, 1) := by decide +kernel
theorem dX7_keep_20 : decode cX7_keep 20 = .ok (.aaload, 1) := by decide +kernel
theorem dX7_keep_21 : decode cX7_keep 21 = .ok (.aload_n 0, 1) := by decide +kernel
theorem dX7_keep_22 : decode cX7_keep 22 = .ok (.getfield 10, 3) := by decide +kernel
theorem dX7_keep_25 : decode cX7_keep 25 = .ok (.invokevirtual 204, 3) := by decide +kernel
theorem dX7_keep_28 : decode cX7_keep 28 = .ok (.aload_n 0, 1) := by decide +kernel
theorem dX7_keep_29 : decode cX7_keep 29 = .ok (.getfield 10, 3) := by decide +kernel
theorem dX7_keep_32 : decode cX7_keep 32 = .ok (.invokevirtual 182, 3) := by decide +kernel
theorem dX7_keep_35 : decode cX7_keep 35 = .ok (.ireturn, 1) := by decide +kernel
theorem dX7_back_0 : decode cX7_back 0 = .ok (.iload_n 1, 1) := by decide +kernel
theorem dX7_back_1 : decode cX7_back 1 = .ok (.ifCond .lt 12, 3) := by decide +kernel
theorem dX7_back_4 : decode cX7_back 4 = .ok (.iload_n 1, 1) := by decide +kernel
theorem dX7_back_5 : decode cX7_back 5 = .ok (.aload_n 0, 1) := by decide +kernel
theorem dX7_back_6 : decode cX7_back 6 = .ok (.getfield 41, 3) := by decide +kernel
theorem dX7_back_9 : decode cX7_back 9 = .ok (.arraylength, 1) := by decide +kernel
theorem dX7_back_10 : decode cX7_back 10 = .ok (.if_icmp .lt 5, 3) := by decide +kernel
theorem dX7_back_13 : decode cX7_back 13 = .ok (.iconst (-1), 1) := by decide +kernel
theorem dX7_back_14 : decode cX7_back 14 = .ok (.ireturn, 1) := by decide +kernel
theorem dX7_back_15 : decode cX7_back 15 = .ok (.aload_n 0, 1) := by decide +kernel
theorem dX7_back_16 : decode cX7_back 16 = .ok (.getfield 41, 3) := by decide +kernel
theorem dX7_back_19 : decode cX7_back 19 = .ok (.iload_n 1, 1) := by decide +kernel
theorem dX7_back_20 : decode cX7_back 20 = .ok (.aaload, 1) := by decide +kernel
theorem dX7_back_21 : decode cX7_back 21 = .ok (.getfield 207, 3) := by decide +kernel
theorem dX7_back_24 : decode cX7_back 24 = .ok (.ifCond .ne 6, 3) := by decide +kernel
theorem dX7_back_27 : decode cX7_back 27 = .ok (.bipush (-2), 2) := by decide +kernel
theorem dX7_back_29 : decode cX7_back 29 = .ok (.ireturn, 1) := by decide +kernel
theorem dX7_back_30 : decode cX7_back 30 = .ok (.aload_n 0, 1) := by decide +kernel
theorem dX7_back_31 : decode cX7_back 31 = .ok (.getfield 41, 3) := by decide +kernel
theorem dX7_back_34 : decode cX7_back 34 = .ok (.iload_n 1, 1) := by decide +kernel
theorem dX7_back_35 : decode cX7_back 35 = .ok (.aaload, 1) := by decide +kernel
theorem dX7_back_36 : decode cX7_back 36 = .ok (.aload_n 0, 1) := by decide +kernel
theorem dX7_back_37 : decode cX7_back 37 = .ok (.getfield 10, 3) := by decide +kernel
theorem dX7_back_40 : decode cX7_back 40 = .ok (.invokevirtual 211, 3) := by decide +kernel
theorem dX7_back_43 : decode cX7_back 43 = .ok (.aload_n 0, 1) := by decide +kernel
theorem dX7_back_44 : decode cX7_back 44 = .ok (.getfield 10, 3) := by decide +kernel
theorem dX7_back_47 : decode cX7_back 47 = .ok (.invokevirtual 182, 3) := by decide +kernel
theorem dX7_back_50 : decode cX7_back 50 = .ok (.ireturn, 1) := by decide +kernel
theorem dX7_times_0 : decode cX7_times 0 = .ok (.iload_n 1, 1) := by decide +kernel
theorem dX7_times_1 : decode cX7_times 1 = .ok (.tableswitch 63 0 3 #[31, 39, 47, 55], 31) := by decide +kernel
theorem dX7_times_32 : decode cX7_times 32 = .ok (.aload_n 0, 1) := by decide +kernel
theorem dX7_times_33 : decode cX7_times 33 = .ok (.getfield 35, 3) := by decide +kernel
theorem dX7_times_36 : decode cX7_times 36 = .ok (.getfield 60, 3) := by decide +kernel
theorem dX7_times_39 : decode cX7_times 39 = .ok (.ireturn, 1) := by decide +kernel
theorem dX7_times_40 : decode cX7_times 40 = .ok (.aload_n 0, 1) := by decide +kernel
theorem dX7_times_41 : decode cX7_times 41 = .ok (.getfield 21, 3) := by decide +kernel
theorem dX7_times_44 : decode cX7_times 44 = .ok (.getfield 214, 3) := by decide +kernel
theorem dX7_times_47 : decode cX7_times 47 = .ok (.ireturn, 1) := by decide +kernel
theorem dX7_times_48 : decode cX7_times 48 = .ok (.aload_n 0, 1) := by decide +kernel
theorem dX7_times_49 : decode cX7_times 49 = .ok (.getfield 21, 3) := by decide +kernel
theorem dX7_times_52 : decode cX7_times 52 = .ok (.getfield 217, 3) := by decide +kernel
theorem dX7_times_55 : decode cX7_times 55 = .ok (.ireturn, 1) := by decide +kernel
theorem dX7_times_56 : decode cX7_times 56 = .ok (.aload_n 0, 1) := by decide +kernel
theorem dX7_times_57 : decode cX7_times 57 = .ok (.getfield 21, 3) := by decide +kernel
theorem dX7_times_60 : decode cX7_times 60 = .ok (.getfield 220, 3) := by decide +kernel
theorem dX7_times_63 : decode cX7_times 63 = .ok (.ireturn, 1) := by decide +kernel
theorem dX7_times_64 : decode cX7_times 64 = .ok (.iconst (-1), 1) := by decide +kernel
theorem dX7_times_65 : decode cX7_times 65 = .ok (.ireturn, 1) := by decide +kernel
theorem dX7_isWithin_0 : decode cX7_isWithin 0 = .ok (.iload_n 0, 1) := by decide +kernel
theorem dX7_isWithin_1 : decode cX7_isWithin 1 = .ok (.iload_n 1, 1) := by decide +kernel
theorem dX7_isWithin_2 : decode cX7_isWithin 2 = .ok (.if_icmp .lt 12, 3) := by decide +kernel
theorem dX7_isWithin_5 : decode cX7_isWithin 5 = .ok (.iload_n 0, 1) := by decide +kernel
theorem dX7_isWithin_6 : decode cX7_isWithin 6 = .ok (.iload_n 2, 1) := by decide +kernel
theorem dX7_isWithin_7 : decode cX7_isWithin 7 = .ok (.if_icmp .gt 7, 3) := by decide +kernel
theorem dX7_isWithin_10 : decode cX7_isWithin 10 = .ok (.iconst 1, 1) := by decide +kernel
theorem dX7_isWithin_11 : decode cX7_isWithin 11 = .ok (.goto 4, 3) := by decide +kernel
theorem dX7_isWithin_14 : decode cX7_isWithin 14 = .ok (.iconst 0, 1) := by decide +kernel
theorem dX7_isWithin_15 : decode cX7_isWithin 15 = .ok (.ireturn, 1) := by decide +kernel
theorem dX7_isByte_0 : decode cX7_isByte 0 = .ok (.iload_n 0, 1) := by decide +kernel
theorem dX7_isByte_1 : decode cX7_isByte 1 = .ok (.iconst 0, 1) := by decide +kernel
theorem dX7_isByte_2 : decode cX7_isByte 2 = .ok (.sipush 255, 3) := by decide +kernel
theorem dX7_isByte_5 : decode cX7_isByte 5 = .ok (.invokestatic 108, 3) := by decide +kernel
theorem dX7_isByte_8 : decode cX7_isByte 8 = .ok (.ireturn, 1) := by decide +kernel
theorem dX7_isPage_0 : decode cX7_isPage 0 = .ok (.iload_n 0, 1) := by decide +kernel
theorem dX7_isPage_1 : decode cX7_isPage 1 = .ok (.iconst 0, 1) := by decide +kernel
theorem dX7_isPage_2 : decode cX7_isPage 2 = .ok (.bipush 31, 2) := by decide +kernel
theorem dX7_isPage_4 : decode cX7_isPage 4 = .ok (.invokestatic 108, 3) := by decide +kernel
theorem dX7_isPage_7 : decode cX7_isPage 7 = .ok (.ireturn, 1) := by decide +kernel
theorem dX7_isLetter_0 : decode cX7_isLetter 0 = .ok (.iload_n 0, 1) := by decide +kernel
theorem dX7_isLetter_1 : decode cX7_isLetter 1 = .ok (.bipush 97, 2) := by decide +kernel
theorem dX7_isLetter_3 : decode cX7_isLetter 3 = .ok (.if_icmp .lt 13, 3) := by decide +kernel
theorem dX7_isLetter_6 : decode cX7_isLetter 6 = .ok (.iload_n 0, 1) := by decide +kernel
theorem dX7_isLetter_7 : decode cX7_isLetter 7 = .ok (.bipush 122, 2) := by decide +kernel
theorem dX7_isLetter_9 : decode cX7_isLetter 9 = .ok (.if_icmp .gt 7, 3) := by decide +kernel
theorem dX7_isLetter_12 : decode cX7_isLetter 12 = .ok (.iconst 1, 1) := by decide +kernel
theorem dX7_isLetter_13 : decode cX7_isLetter 13 = .ok (.goto 4, 3) := by decide +kernel
theorem dX7_isLetter_16 : decode cX7_isLetter 16 = .ok (.iconst 0, 1) := by decide +kernel
theorem dX7_isLetter_17 : decode cX7_isLetter 17 = .ok (.ireturn, 1) := by decide +kernel
theorem dX7_endsInTime_0 : decode cX7_endsInTime 0 = .ok (.iload_n 0, 1) := by decide +kernel
theorem dX7_endsInTime_1 : decode cX7_endsInTime 1 = .ok (.iload_n 1, 1) := by decide +kernel
theorem dX7_endsInTime_2 : decode cX7_endsInTime 2 = .ok (.iload_n 2, 1) := by decide +kernel
theorem dX7_endsInTime_3 : decode cX7_endsInTime 3 = .ok (.iconst 1, 1) := by decide +kernel
theorem dX7_endsInTime_4 : decode cX7_endsInTime 4 = .ok (.isub, 1) := by decide +kernel
theorem dX7_endsInTime_5 : decode cX7_endsInTime 5 = .ok (.imul, 1) := by decide +kernel
theorem dX7_endsInTime_6 : decode cX7_endsInTime 6 = .ok (.iadd, 1) := by decide +kernel
theorem dX7_endsInTime_7 : decode cX7_endsInTime 7 = .ok (.sipush 17575, 3) := by decide +kernel
theorem dX7_endsInTime_10 : decode cX7_endsInTime 10 = .ok (.if_icmp .gt 7, 3) := by decide +kernel
theorem dX7_endsInTime_13 : decode cX7_endsInTime 13 = .ok (.iconst 1, 1) := by decide +kernel
theorem dX7_endsInTime_14 : decode cX7_endsInTime 14 = .ok (.goto 4, 3) := by decide +kernel
theorem dX7_endsInTime_17 : decode cX7_endsInTime 17 = .ok (.iconst 0, 1) := by decide +kernel
theorem dX7_endsInTime_18 : decode cX7_endsInTime 18 = .ok (.ireturn, 1) := by decide +kernel
theorem dX7_isSpelled_0 : decode cX7_isSpelled 0 = .ok (.iload_n 1, 1) := by decide +kernel
theorem dX7_isSpelled_1 : decode cX7_isSpelled 1 = .ok (.iconst 1, 1) := by decide +kernel
theorem dX7_isSpelled_2 : decode cX7_isSpelled 2 = .ok (.iconst 5, 1) := by decide +kernel
theorem dX7_isSpelled_3 : decode cX7_isSpelled 3 = .ok (.invokestatic 108, 3) := by decide +kernel
theorem dX7_isSpelled_6 : decode cX7_isSpelled 6 = .ok (.ifCond .ne 5, 3) := by decide +kernel
theorem dX7_isSpelled_9 : decode cX7_isSpelled 9 = .ok (.iconst 0, 1) := by decide +kernel
theorem dX7_isSpelled_10 : decode cX7_isSpelled 10 = .ok (.ireturn, 1) := by decide +kernel
theorem dX7_isSpelled_11 : decode cX7_isSpelled 11 = .ok (.iconst 1, 1) := by decide +kernel
theorem dX7_isSpelled_12 : decode cX7_isSpelled 12 = .ok (.istore_n 2, 1) := by decide +kernel
theorem dX7_isSpelled_13 : decode cX7_isSpelled 13 = .ok (.iconst 0, 1) := by decide +kernel
theorem dX7_isSpelled_14 : decode cX7_isSpelled 14 = .ok (.istore_n 3, 1) := by decide +kernel
theorem dX7_isSpelled_15 : decode cX7_isSpelled 15 = .ok (.iload_n 3, 1) := by decide +kernel
theorem dX7_isSpelled_16 : decode cX7_isSpelled 16 = .ok (.iload_n 1, 1) := by decide +kernel
theorem dX7_isSpelled_17 : decode cX7_isSpelled 17 = .ok (.if_icmp .ge 14, 3) := by decide +kernel
theorem dX7_isSpelled_20 : decode cX7_isSpelled 20 = .ok (.iload_n 2, 1) := by decide +kernel
theorem dX7_isSpelled_21 : decode cX7_isSpelled 21 = .ok (.bipush 26, 2) := by decide +kernel
theorem dX7_isSpelled_23 : decode cX7_isSpelled 23 = .ok (.imul, 1) := by decide +kernel
theorem dX7_isSpelled_24 : decode cX7_isSpelled 24 = .ok (.istore_n 2, 1) := by decide +kernel
theorem dX7_isSpelled_25 : decode cX7_isSpelled 25 = .ok (.iinc 3 1, 3) := by decide +kernel
theorem dX7_isSpelled_28 : decode cX7_isSpelled 28 = .ok (.goto (-13), 3) := by decide +kernel
theorem dX7_isSpelled_31 : decode cX7_isSpelled 31 = .ok (.iload_n 0, 1) := by decide +kernel
theorem dX7_isSpelled_32 : decode cX7_isSpelled 32 = .ok (.iconst 0, 1) := by decide +kernel
theorem dX7_isSpelled_33 : decode cX7_isSpelled 33 = .ok (.iload_n 2, 1) := by decide +kernel
theorem dX7_isSpelled_34 : decode cX7_isSpelled 34 = .ok (.iconst 1, 1) := by decide +kernel
theorem dX7_isSpelled_35 : decode cX7_isSpelled 35 = .ok (.isub, 1) := by decide +kernel
theorem dX7_isSpelled_36 : decode cX7_isSpelled 36 = .ok (.invokestatic 108, 3) := by decide +kernel
theorem dX7_isSpelled_39 : decode cX7_isSpelled 39 = .ok (.ireturn, 1) := by decide +kernel
end
section
theorem dX8_in_0 : decode cX8_in 0 = .ok (.iload_n 0, 1) := by decide +kernel
theorem dX8_in_1 : decode cX8_in 1 = .ok (.iload_n 1, 1) := by decide +kernel
theorem dX8_in_2 : decode cX8_in 2 = .ok (.if_icmp .lt 12, 3) := by decide +kernel
theorem dX8_in_5 : decode cX8_in 5 = .ok (.iload_n 0, 1) := by decide +kernel
theorem dX8_in_6 : decode cX8_in 6 = .ok (.iload_n 2, 1) := by decide +kernel
theorem dX8_in_7 : decode cX8_in 7 = .ok (.if_icmp .gt 7, 3) := by decide +kernel
theorem dX8_in_10 : decode cX8_in 10 = .ok (.iconst 1, 1) := by decide +kernel
theorem dX8_in_11 : decode cX8_in 11 = .ok (.goto 4, 3) := by decide +kernel
theorem dX8_in_14 : decode cX8_in 14 = .ok (.iconst 0, 1) := by decide +kernel
theorem dX8_in_15 : decode cX8_in 15 = .ok (.ireturn, 1) := by decide +kernel
theorem dX8_init_0 : decode cX8_init 0 = .ok (.aload_n 0, 1) := by decide +kernel
theorem dX8_init_1 : decode cX8_init 1 = .ok (.invokespecial 1, 3) := by decide +kernel
theorem dX8_init_4 : decode cX8_init 4 = .ok (.aload_n 0, 1) := by decide +kernel
theorem dX8_init_5 : decode cX8_init 5 = .ok (.sipush 2048, 3) := by decide +kernel
theorem dX8_init_8 : decode cX8_init 8 = .ok (.newarray .int, 2) := by decide +kernel
theorem dX8_init_10 : decode cX8_init 10 = .ok (.putfield 7, 3) := by decide +kernel
theorem dX8_init_13 : decode cX8_init 13 = .ok (.aload_n 0, 1) := by decide +kernel
theorem dX8_init_14 : decode cX8_init 14 = .ok (.iconst 1, 1) := by decide +kernel
theorem dX8_init_15 : decode cX8_init 15 = .ok (.putfield 13, 3) := by decide +kernel
theorem dX8_init_18 : decode cX8_init 18 = .ok (.aload_n 0, 1) := by decide +kernel
theorem dX8_init_19 : decode cX8_init 19 = .ok (.bipush 48, 2) := by decide +kernel
theorem dX8_init_21 : decode cX8_init 21 = .ok (.newarray .int, 2) := by decide +kernel
theorem dX8_init_23 : decode cX8_init 23 = .ok (.putfield 17, 3) := by decide +kernel
theorem dX8_init_26 : decode cX8_init 26 = .ok (.aload_n 0, 1) := by decide +kernel
theorem dX8_init_27 : decode cX8_init 27 = .ok (.sipush 384, 3) := by decide +kernel
theorem dX8_init_30 : decode cX8_init 30 = .ok (.newarray .int, 2) := by decide +kernel
theorem dX8_init_32 : decode cX8_init 32 = .ok (.putfield 20, 3) := by decide +kernel
theorem dX8_init_35 : decode cX8_init 35 = .ok (.aload_n 0, 1) := by decide +kernel
theorem dX8_init_36 : decode cX8_init 36 = .ok (.bipush 48, 2) := by decide +kernel
theorem dX8_init_38 : decode cX8_init 38 = .ok (.newarray .int, 2) := by decide +kernel
theorem dX8_init_40 : decode cX8_init 40 = .ok (.putfield 23, 3) := by decide +kernel
theorem dX8_init_43 : decode cX8_init 43 = .ok (.aload_n 0, 1) := by decide +kernel
theorem dX8_init_44 : decode cX8_init 44 = .ok (.bipush 8, 2) := by decide +kernel
theorem dX8_init_46 : decode cX8_init 46 = .ok (.newarray .int, 2) := by decide +kernel
theorem dX8_init_48 : decode cX8_init 48 = .ok (.putfield 26, 3) := by decide +kernel
theorem dX8_init_51 : decode cX8_init 51 = .ok (.aload_n 0, 1) := by decide +kernel
theorem dX8_init_52 : decode cX8_init 52 = .ok (.bipush 8, 2) := by decide +kernel
theorem dX8_init_54 : decode cX8_init 54 = .ok (.newarray .int, 2) := by decide +kernel
theorem dX8_init_56 : decode cX8_init 56 = .ok (.putfield 29, 3) := by decide +kernel
theorem dX8_init_59 : decode cX8_init 59 = .ok (.aload_n 0, 1) := by decide +kernel
theorem dX8_init_60 : decode cX8_init 60 = .ok (.bipush 32, 2) := by decide +kernel
theorem dX8_init_62 : decode cX8_init 62 = .ok (.newarray .int, 2) := by decide +kernel
theorem dX8_init_64 : decode cX8_init 64 = .ok (.putfield 32, 3) := by decide +kernel
theorem dX8_init_67 : decode cX8_init 67 = .ok (.aload_n 0, 1) := by decide +kernel
theorem dX8_init_68 : decode cX8_init 68 = .ok (.bipush 32, 2) := by decide +kernel
theorem dX8_init_70 : decode cX8_init 70 = .ok (.newarray .int, 2) := by decide +kernel
theorem dX8_init_72 : decode cX8_init 72 = .ok (.putfield 35, 3) := by decide +kernel
theorem dX8_init_75 : decode cX8_init 75 = .ok (.aload_n 0, 1) := by decide +kernel
theorem dX8_init_76 : decode cX8_init 76 = .ok (.bipush 32, 2) := by decide +kernel
theorem dX8_init_78 : decode cX8_init 78 = .ok (.newarray .boolean, 2) := by decide +kernel
theorem dX8_init_80 : decode cX8_init 80 = .ok (.putfield 38, 3) := by decide +kernel
theorem dX8_init_83 : decode cX8_init 83 = .ok (.aload_n 0, 1) := by decide +kernel
theorem dX8_init_84 : decode cX8_init 84 = .ok (.sipush 800, 3) := by decide +kernel
theorem dX8_init_87 : decode cX8_init 87 = .ok (.newarray .int, 2) := by decide +kernel
theorem dX8_init_89 : decode cX8_init 89 = .ok (.putfield 42, 3) := by decide +kernel
theorem dX8_init_92 : decode cX8_init 92 = .ok (.aload_n 0, 1) := by decide +kernel
theorem dX8_init_93 : decode cX8_init 93 = .ok (.sipush 800, 3) := by decide +kernel
theorem dX8_init_96 : decode cX8_init 96 = .ok (.newarray .int, 2) := by decide +kernel
theorem dX8_init_98 : decode cX8_init 98 = .ok (.putfield 45, 3) := by decide +kernel
theorem dX8_init_101 : decode cX8_init 101 = .ok (.aload_n 0, 1) := by decide +kernel
theorem dX8_init_102 : decode cX8_init 102 = .ok (.sipush 800, 3) := by decide +kernel
theorem dX8_init_105 : decode cX8_init 105 = .ok (.newarray .int, 2) := by decide +kernel
theorem dX8_init_107 : decode cX8_init 107 = .ok (.putfield 48, 3) := by decide +kernel
theorem dX8_init_110 : decode cX8_init 110 = .ok (.aload_n 0, 1) := by decide +kernel
theorem dX8_init_111 : decode cX8_init 111 = .ok (.sipush 800, 3) := by decide +kernel
theorem dX8_init_114 : decode cX8_init 114 = .ok (.newarray .int, 2) := by decide +kernel
theorem dX8_init_116 : decode cX8_init 116 = .ok (.putfield 51, 3) := by decide +kernel
theorem dX8_init_119 : decode cX8_init 119 = .ok (.aload_n 0, 1) := by decide +kernel
theorem dX8_init_120 : decode cX8_init 120 = .ok (.sipush 800, 3) := by decide +kernel
theorem dX8_init_123 : decode cX8_init 123 = .ok (.newarray .int, 2) := by decide +kernel
theorem dX8_init_125 : decode cX8_init 125 = .ok (.putfield 54, 3) := by decide +kernel
theorem dX8_init_128 : decode cX8_init 128 = .ok (.aload_n 0, 1) := by decide +kernel
theorem dX8_init_129 : decode cX8_init 129 = .ok (.sipush 4096, 3) := by decide +kernel
theorem dX8_init_132 : decode cX8_init 132 = .ok (.newarray .int, 2) := by decide +kernel
theorem dX8_init_134 : decode cX8_init 134 = .ok (.putfield 57, 3) := by decide +kernel
theorem dX8_init_137 : decode cX8_init 137 = .ok (.aload_n 0, 1) := by decide +kernel
theorem dX8_init_138 : decode cX8_init 138 = .ok (.iconst 2, 1) := by decide +kernel
theorem dX8_init_139 : decode cX8_init 139 = .ok (.newarray .int, 2) := by decide +kernel
theorem dX8_init_141 : decode cX8_init 141 = .ok (.putfield 60, 3) := by decide +kernel
theorem dX8_init_144 : decode cX8_init 144 = .ok (.aload_n 0, 1) := by decide +kernel
theorem dX8_init_145 : decode cX8_init 145 = .ok (.iconst 2, 1) := by decide +kernel
theorem dX8_init_146 : decode cX8_init 146 = .ok (.newarray .int, 2) := by decide +kernel
theorem dX8_init_148 : decode cX8_init 148 = .ok (.putfield 63, 3) := by decide +kernel
theorem dX8_init_151 : decode cX8_init 151 = .ok (.aload_n 0, 1) := by decide +kernel
theorem dX8_init_152 : decode cX8_init 152 = .ok (.bipush 120, 2) := by decide +kernel
theorem dX8_init_154 : decode cX8_init 154 = .ok (.newarray .int, 2) := by decide +kernel
theorem dX8_init_156 : decode cX8_init 156 = .ok (.putfield 66, 3) := by decide +kernel
theorem dX8_init_159 : decode cX8_init 159 = .ok (.aload_n 0, 1) := by decide +kernel
theorem dX8_init_160 : decode cX8_init 160 = .ok (.getfield 7, 3) := by decide +kernel
theorem dX8_init_163 : decode cX8_init 163 = .ok (.iconst 0, 1) := by decide +kernel
theorem dX8_init_164 : decode cX8_init 164 = .ok (.iconst 1, 1) := by decide +kernel
theorem dX8_init_165 : decode cX8_init 165 = .ok (.iastore, 1) := by decide +kernel
theorem dX8_init_166 : decode cX8_init 166 = .ok (.return_, 1) := by decide +kernel
theorem dX8_at_0 : decode cX8_at 0 = .ok (.aload_n 0, 1) := by decide +kernel
theorem dX8_at_1 : decode cX8_at 1 = .ok (.getfield 7, 3) := by decide +kernel
theorem dX8_at_4 : decode cX8_at 4 = .ok (.bipush 64, 2) := by decide +kernel
theorem dX8_at_6 : decode cX8_at 6 = .ok (.iload_n 1, 1) := by decide +kernel
theorem dX8_at_7 : decode cX8_at 7 = .ok (.imul, 1) := by decide +kernel
theorem dX8_at_8 : decode cX8_at 8 = .ok (.iload_n 2, 1) := by decide +kernel
theorem dX8_at_9 : decode cX8_at 9 = .ok (.iadd, 1) := by decide +kernel
theorem dX8_at_10 : decode cX8_at 10 = .ok (.iaload, 1) := by decide +kernel
theorem dX8_at_11 : decode cX8_at 11 = .ok (.ireturn, 1) := by decide +kernel
theorem dX8_clears_0 : decode cX8_clears 0 = .ok (.iconst 0, 1) := by decide +kernel
theorem dX8_clears_1 : decode cX8_clears 1 = .ok (.istore_n 2, 1) := by decide +kernel
theorem dX8_clears_2 : decode cX8_clears 2 = .ok (.iload_n 2, 1) := by decide +kernel
theorem dX8_clears_3 : decode cX8_clears 3 = .ok (.bipush 64, 2) := by decide +kernel
theorem dX8_clears_5 : decode cX8_clears 5 = .ok (.if_icmp .ge 21, 3) := by decide +kernel
theorem dX8_clears_8 : decode cX8_clears 8 = .ok (.aload_n 0, 1) := by decide +kernel
theorem dX8_clears_9 : decode cX8_clears 9 = .ok (.getfield 7, 3) := by decide +kernel
theorem dX8_clears_12 : decode cX8_clears 12 = .ok (.bipush 64, 2) := by decide +kernel
theorem dX8_clears_14 : decode cX8_clears 14 = .ok (.iload_n 1, 1) := by decide +kernel
theorem dX8_clears_15 : decode cX8_clears 15 = .ok (.imul, 1) := by decide +kernel
theorem dX8_clears_16 : decode cX8_clears 16 = .ok (.iload_n 2, 1) := by decide +kernel
theorem dX8_clears_17 : decode cX8_clears 17 = .ok (.iadd, 1) := by decide +kernel
theorem dX8_clears_18 : decode cX8_clears 18 = .ok (.iconst 0, 1) := by decide +kernel
theorem dX8_clears_19 : decode cX8_clears 19 = .ok (.iastore, 1) := by decide +kernel
theorem dX8_clears_20 : decode cX8_clears 20 = .ok (.iinc 2 1, 3) := by decide +kernel
theorem dX8_clears_23 : decode cX8_clears 23 = .ok (.goto (-21), 3) := by decide +kernel
theorem dX8_clears_26 : decode cX8_clears 26 = .ok (.return_, 1) := by decide +kernel
theorem dX8_lowestFree_0 : decode cX8_lowestFree 0 = .ok (.iconst 0, 1) := by decide +kernel
theorem dX8_lowestFree_1 : decode cX8_lowestFree 1 = .ok (.istore_n 1, 1) := by decide +kernel
theorem dX8_lowestFree_2 : decode cX8_lowestFree 2 = .ok (.aload_n 0, 1) := by decide +kernel
theorem dX8_lowestFree_3 : decode cX8_lowestFree 3 = .ok (.iload_n 1, 1) := by decide +kernel
theorem dX8_lowestFree_4 : decode cX8_lowestFree 4 = .ok (.iconst 0, 1) := by decide +kernel
theorem dX8_lowestFree_5 : decode cX8_lowestFree 5 = .ok (.invokevirtual 69, 3) := by decide +kernel
theorem dX8_lowestFree_8 : decode cX8_lowestFree 8 = .ok (.ifCond .eq 9, 3) := by decide +kernel
theorem dX8_lowestFree_11 : decode cX8_lowestFree 11 = .ok (.iinc 1 1, 3) := by decide +kernel
theorem dX8_lowestFree_14 : decode cX8_lowestFree 14 = .ok (.goto (-12), 3) := by decide +kernel
theorem dX8_lowestFree_17 : decode cX8_lowestFree 17 = .ok (.iload_n 1, 1) := by decide +kernel
theorem dX8_lowestFree_18 : decode cX8_lowestFree 18 = .ok (.ireturn, 1) := by decide +kernel
theorem dX8_freeMany_0 : decode cX8_freeMany 0 = .ok (.iconst 0, 1) := by decide +kernel
theorem dX8_freeMany_1 : decode cX8_freeMany 1 = .ok (.istore_n 1, 1) := by decide +kernel
theorem dX8_freeMany_2 : decode cX8_freeMany 2 = .ok (.iconst 0, 1) := by decide +kernel
theorem dX8_freeMany_3 : decode cX8_freeMany 3 = .ok (.istore_n 2, 1) := by decide +kernel
theorem dX8_freeMany_4 : decode cX8_freeMany 4 = .ok (.iload_n 2, 1) := by decide +kernel
theorem dX8_freeMany_5 : decode cX8_freeMany 5 = .ok (.bipush 32, 2) := by decide +kernel
theorem dX8_freeMany_7 : decode cX8_freeMany 7 = .ok (.if_icmp .ge 26, 3) := by decide +kernel
theorem dX8_freeMany_10 : decode cX8_freeMany 10 = .ok (.iload_n 1, 1) := by decide +kernel
theorem dX8_freeMany_11 : decode cX8_freeMany 11 = .ok (.aload_n 0, 1) := by decide +kernel
theorem dX8_freeMany_12 : decode cX8_freeMany 12 = .ok (.iload_n 2, 1) := by decide +kernel
theorem dX8_freeMany_13 : decode cX8_freeMany 13 = .ok (.iconst 0, 1) := by decide +kernel
theorem dX8_freeMany_14 : decode cX8_freeMany 14 = .ok (.invokevirtual 69, 3) := by decide +kernel
theorem dX8_freeMany_17 : decode cX8_freeMany 17 = .ok (.ifCond .ne 7, 3) := by decide +kernel
theorem dX8_freeMany_20 : decode cX8_freeMany 20 = .ok (.iconst 1, 1) := by decide +kernel
theorem dX8_freeMany_21 : decode cX8_freeMany 21 = .ok (.goto 4, 3) := by decide +kernel
theorem dX8_freeMany_24 : decode cX8_freeMany 24 = .ok (.iconst 0, 1) := by decide +kernel
theorem dX8_freeMany_25 : decode cX8_freeMany 25 = .ok (.iadd, 1) := by decide +kernel
theorem dX8_freeMany_26 : decode cX8_freeMany 26 = .ok (.istore_n 1, 1) := by decide +kernel
theorem dX8_freeMany_27 : decode cX8_freeMany 27 = .ok (.iinc 2 1, 3) := by decide +kernel
theorem dX8_freeMany_30 : decode cX8_freeMany 30 = .ok (.goto (-26), 3) := by decide +kernel
theorem dX8_freeMany_33 : decode cX8_freeMany 33 = .ok (.iload_n 1, 1) := by decide +kernel
theorem dX8_freeMany_34 : decode cX8_freeMany 34 = .ok (.ireturn, 1) := by decide +kernel
theorem dX8_startOf_0 : decode cX8_startOf 0 = .ok (.iconst 3, 1) := by decide +kernel
theorem dX8_startOf_1 : decode cX8_startOf 1 = .ok (.istore_n 3, 1) := by decide +kernel
theorem dX8_startOf_2 : decode cX8_startOf 2 = .ok (.iconst 0, 1) := by decide +kernel
theorem dX8_startOf_3 : decode cX8_startOf 3 = .ok (.istore 4, 2) := by decide +kernel
theorem dX8_startOf_5 : decode cX8_startOf 5 = .ok (.iload 4, 2) := by decide +kernel
theorem dX8_startOf_7 : decode cX8_startOf 7 = .ok (.iload_n 2, 1) := by decide +kernel
theorem dX8_startOf_8 : decode cX8_startOf 8 = .ok (.if_icmp .ge 20, 3) := by decide +kernel
theorem dX8_startOf_11 : decode cX8_startOf 11 = .ok (.iload_n 3, 1) := by decide +kernel
theorem dX8_startOf_12 : decode cX8_startOf 12 = .ok (.aload_n 0, 1) := by decide +kernel
theorem dX8_startOf_13 : decode cX8_startOf 13 = .ok (.iload_n 1, 1) := by decide +kernel
theorem dX8_startOf_14 : decode cX8_startOf 14 = .ok (.iload_n 3, 1) := by decide +kernel
theorem dX8_startOf_15 : decode cX8_startOf 15 = .ok (.invokevirtual 69, 3) := by decide +kernel
theorem dX8_startOf_18 : decode cX8_startOf 18 = .ok (.iconst 2, 1) := by decide +kernel
theorem dX8_startOf_19 : decode cX8_startOf 19 = .ok (.iadd, 1) := by decide +kernel
theorem dX8_startOf_20 : decode cX8_startOf 20 = .ok (.iadd, 1) := by decide +kernel
theorem dX8_startOf_21 : decode cX8_startOf 21 = .ok (.istore_n 3, 1) := by decide +kernel
theorem dX8_startOf_22 : decode cX8_startOf 22 = .ok (.iinc 4 1, 3) := by decide +kernel
theorem dX8_startOf_25 : decode cX8_startOf 25 = .ok (.goto (-20), 3) := by decide +kernel
theorem dX8_startOf_28 : decode cX8_startOf 28 = .ok (.iload_n 3, 1) := by decide +kernel
theorem dX8_startOf_29 : decode cX8_startOf 29 = .ok (.ireturn, 1) := by decide +kernel
theorem dX8_usedOf_0 : decode cX8_usedOf 0 = .ok (.aload_n 0, 1) := by decide +kernel
theorem dX8_usedOf_1 : decode cX8_usedOf 1 = .ok (.iload_n 1, 1) := by decide +kernel
theorem dX8_usedOf_2 : decode cX8_usedOf 2 = .ok (.iconst 0, 1) := by decide +kernel
theorem dX8_usedOf_3 : decode cX8_usedOf 3 = .ok (.invokevirtual 69, 3) := by decide +kernel
theorem dX8_usedOf_6 : decode cX8_usedOf 6 = .ok (.ifCond .ne 7, 3) := by decide +kernel
theorem dX8_usedOf_9 : decode cX8_usedOf 9 = .ok (.iconst 0, 1) := by decide +kernel
theorem dX8_usedOf_10 : decode cX8_usedOf 10 = .ok (.goto 14, 3) := by decide +kernel
theorem dX8_usedOf_13 : decode cX8_usedOf 13 = .ok (.aload_n 0, 1) := by decide +kernel
theorem dX8_usedOf_14 : decode cX8_usedOf 14 = .ok (.iload_n 1, 1) := by decide +kernel
theorem dX8_usedOf_15 : decode cX8_usedOf 15 = .ok (.aload_n 0, 1) := by decide +kernel
theorem dX8_usedOf_16 : decode cX8_usedOf 16 = .ok (.iload_n 1, 1) := by decide +kernel
theorem dX8_usedOf_17 : decode cX8_usedOf 17 = .ok (.iconst 1, 1) := by decide +kernel
theorem dX8_usedOf_18 : decode cX8_usedOf 18 = .ok (.invokevirtual 69, 3) := by decide +kernel
theorem dX8_usedOf_21 : decode cX8_usedOf 21 = .ok (.invokevirtual 73, 3) := by decide +kernel
theorem dX8_usedOf_24 : decode cX8_usedOf 24 = .ok (.ireturn, 1) := by decide +kernel
theorem dX8_childOf_0 : decode cX8_childOf 0 = .ok (.iload_n 2, 1) := by decide +kernel
theorem dX8_childOf_1 : decode cX8_childOf 1 = .ok (.ifCond .ne 10, 3) := by decide +kernel
theorem dX8_childOf_4 : decode cX8_childOf 4 = .ok (.aload_n 0, 1) := by decide +kernel
theorem dX8_childOf_5 : decode cX8_childOf 5 = .ok (.iload_n 1, 1) := by decide +kernel
theorem dX8_childOf_6 : decode cX8_childOf 6 = .ok (.iconst 2, 1) := by decide +kernel
theorem dX8_childOf_7 : decode cX8_childOf 7 = .ok (.invokevirtual 69, 3) := by decide +kernel
theorem dX8_childOf_10 : decode cX8_childOf 10 = .ok (.ireturn, 1) := by decide +kernel
theorem dX8_childOf_11 : decode cX8_childOf 11 = .ok (.aload_n 0, 1) := by decide +kernel
theorem dX8_childOf_12 : decode cX8_childOf 12 = .ok (.iload_n 1, 1) := by decide +kernel
theorem dX8_childOf_13 : decode cX8_childOf 13 = .ok (.iload_n 2, 1) := by decide +kernel
theorem dX8_childOf_14 : decode cX8_childOf 14 = .ok (.iconst 1, 1) := by decide +kernel
theorem dX8_childOf_15 : decode cX8_childOf 15 = .ok (.isub, 1) := by decide +kernel
theorem dX8_childOf_16 : decode cX8_childOf 16 = .ok (.invokevirtual 73, 3) := by decide +kernel
theorem dX8_childOf_19 : decode cX8_childOf 19 = .ok (.istore_n 3, 1) := by decide +kernel
theorem dX8_childOf_20 : decode cX8_childOf 20 = .ok (.aload_n 0, 1) := by decide +kernel
theorem dX8_childOf_21 : decode cX8_childOf 21 = .ok (.iload_n 1, 1) := by decide +kernel
theorem dX8_childOf_22 : decode cX8_childOf 22 = .ok (.iload_n 3, 1) := by decide +kernel
theorem dX8_childOf_23 : decode cX8_childOf 23 = .ok (.aload_n 0, 1) := by decide +kernel
theorem dX8_childOf_24 : decode cX8_childOf 24 = .ok (.iload_n 1, 1) := by decide +kernel
theorem dX8_childOf_25 : decode cX8_childOf 25 = .ok (.iload_n 3, 1) := by decide +kernel
theorem dX8_childOf_26 : decode cX8_childOf 26 = .ok (.invokevirtual 69, 3) := by decide +kernel
theorem dX8_childOf_29 : decode cX8_childOf 29 = .ok (.iadd, 1) := by decide +kernel
theorem dX8_childOf_30 : decode cX8_childOf 30 = .ok (.iconst 1, 1) := by decide +kernel
theorem dX8_childOf_31 : decode cX8_childOf 31 = .ok (.iadd, 1) := by decide +kernel
theorem dX8_childOf_32 : decode cX8_childOf 32 = .ok (.invokevirtual 69, 3) := by decide +kernel
theorem dX8_childOf_35 : decode cX8_childOf 35 = .ok (.ireturn, 1) := by decide +kernel
theorem dX8_bytesOf_0 : decode cX8_bytesOf 0 = .ok (.iconst 0, 1) := by decide +kernel
theorem dX8_bytesOf_1 : decode cX8_bytesOf 1 = .ok (.istore_n 3, 1) := by decide +kernel
theorem dX8_bytesOf_2 : decode cX8_bytesOf 2 = .ok (.iload_n 1, 1) := by decide +kernel
theorem dX8_bytesOf_3 : decode cX8_bytesOf 3 = .ok (.istore 4, 2) := by decide +kernel
theorem dX8_bytesOf_5 : decode cX8_bytesOf 5 = .ok (.iload 4, 2) := by decide +kernel
theorem dX8_bytesOf_7 : decode cX8_bytesOf 7 = .ok (.iload_n 2, 1) := by decide +kernel
theorem dX8_bytesOf_8 : decode cX8_bytesOf 8 = .ok (.if_icmp .ge 21, 3) := by decide +kernel
theorem dX8_bytesOf_11 : decode cX8_bytesOf 11 = .ok (.iload_n 3, 1) := by decide +kernel
theorem dX8_bytesOf_12 : decode cX8_bytesOf 12 = .ok (.aload_n 0, 1) := by decide +kernel
theorem dX8_bytesOf_13 : decode cX8_bytesOf 13 = .ok (.getfield 17, 3) := by decide +kernel
theorem dX8_bytesOf_16 : decode cX8_bytesOf 16 = .ok (.iload 4, 2) := by decide +kernel
theorem dX8_bytesOf_18 : decode cX8_bytesOf 18 = .ok (.iaload, 1) := by decide +kernel
theorem dX8_bytesOf_19 : decode cX8_bytesOf 19 = .ok (.iconst 2, 1) := by decide +kernel
theorem dX8_bytesOf_20 : decode cX8_bytesOf 20 = .ok (.iadd, 1) := by decide +kernel
theorem dX8_bytesOf_21 : decode cX8_bytesOf 21 = .ok (.iadd, 1) := by decide +kernel
theorem dX8_bytesOf_22 : decode cX8_bytesOf 22 = .ok (.istore_n 3, 1) := by decide +kernel
theorem dX8_bytesOf_23 : decode cX8_bytesOf 23 = .ok (.iinc 4 1, 3) := by decide +kernel
theorem dX8_bytesOf_26 : decode cX8_bytesOf 26 = .ok (.goto (-21), 3) := by decide +kernel
theorem dX8_bytesOf_29 : decode cX8_bytesOf 29 = .ok (.iload_n 3, 1) := by decide +kernel
theorem dX8_bytesOf_30 : decode cX8_bytesOf 30 = .ok (.ireturn, 1) := by decide +kernel
theorem dX8_comeOut_0 : decode cX8_comeOut 0 = .ok (.iconst 3, 1) := by decide +kernel
theorem dX8_comeOut_1 : decode cX8_comeOut 1 = .ok (.istore_n 2, 1) := by decide +kernel
theorem dX8_comeOut_2 : decode cX8_comeOut 2 = .ok (.iconst 0, 1) := by decide +kernel
theorem dX8_comeOut_3 : decode cX8_comeOut 3 = .ok (.istore_n 3, 1) := by decide +kernel
theorem dX8_comeOut_4 : decode cX8_comeOut 4 = .ok (.iload_n 3, 1) := by decide +kernel
theorem dX8_comeOut_5 : decode cX8_comeOut 5 = .ok (.aload_n 0, 1) := by decide +kernel
theorem dX8_comeOut_6 : decode cX8_comeOut 6 = .ok (.iload_n 1, 1) := by decide +kernel
theorem dX8_comeOut_7 : decode cX8_comeOut 7 = .ok (.iconst 1, 1) := by decide +kernel
theorem dX8_comeOut_8 : decode cX8_comeOut 8 = .ok (.invokevirtual 69, 3) := by decide +kernel
theorem dX8_comeOut_11 : decode cX8_comeOut 11 = .ok (.if_icmp .ge 107, 3) := by decide +kernel
theorem dX8_comeOut_14 : decode cX8_comeOut 14 = .ok (.aload_n 0, 1) := by decide +kernel
theorem dX8_comeOut_15 : decode cX8_comeOut 15 = .ok (.iload_n 1, 1) := by decide +kernel
theorem dX8_comeOut_16 : decode cX8_comeOut 16 = .ok (.iload_n 2, 1) := by decide +kernel
theorem dX8_comeOut_17 : decode cX8_comeOut 17 = .ok (.invokevirtual 69, 3) := by decide +kernel
theorem dX8_comeOut_20 : decode cX8_comeOut 20 = .ok (.istore 4, 2) := by decide +kernel
theorem dX8_comeOut_22 : decode cX8_comeOut 22 = .ok (.aload_n 0, 1) := by decide +kernel
theorem dX8_comeOut_23 : decode cX8_comeOut 23 = .ok (.getfield 17, 3) := by decide +kernel
theorem dX8_comeOut_26 : decode cX8_comeOut 26 = .ok (.aload_n 0, 1) := by decide +kernel
theorem dX8_comeOut_27 : decode cX8_comeOut 27 = .ok (.getfield 76, 3) := by decide +kernel
theorem dX8_comeOut_30 : decode cX8_comeOut 30 = .ok (.iload 4, 2) := by decide +kernel
theorem dX8_comeOut_32 : decode cX8_comeOut 32 = .ok (.iastore, 1) := by decide +kernel
theorem dX8_comeOut_33 : decode cX8_comeOut 33 = .ok (.iconst 0, 1) := by decide +kernel
theorem dX8_comeOut_34 : decode cX8_comeOut 34 = .ok (.istore 5, 2) := by decide +kernel
theorem dX8_comeOut_36 : decode cX8_comeOut 36 = .ok (.iload 5, 2) := by decide +kernel
theorem dX8_comeOut_38 : decode cX8_comeOut 38 = .ok (.iload 4, 2) := by decide +kernel
theorem dX8_comeOut_40 : decode cX8_comeOut 40 = .ok (.if_icmp .ge 35, 3) := by decide +kernel
theorem dX8_comeOut_43 : decode cX8_comeOut 43 = .ok (.aload_n 0, 1) := by decide +kernel
theorem dX8_comeOut_44 : decode cX8_comeOut 44 = .ok (.getfield 20, 3) := by decide +kernel
theorem dX8_comeOut_47 : decode cX8_comeOut 47 = .ok (.bipush 8, 2) := by decide +kernel
theorem dX8_comeOut_49 : decode cX8_comeOut 49 = .ok (.aload_n 0, 1) := by decide +kernel
theorem dX8_comeOut_50 : decode cX8_comeOut 50 = .ok (.getfield 76, 3) := by decide +kernel
theorem dX8_comeOut_53 : decode cX8_comeOut 53 = .ok (.imul, 1) := by decide +kernel
theorem dX8_comeOut_54 : decode cX8_comeOut 54 = .ok (.iload 5, 2) := by decide +kernel
theorem dX8_comeOut_56 : decode cX8_comeOut 56 = .ok (.iadd, 1) := by decide +kernel
theorem dX8_comeOut_57 : decode cX8_comeOut 57 = .ok (.aload_n 0, 1) := by decide +kernel
theorem dX8_comeOut_58 : decode cX8_comeOut 58 = .ok (.iload_n 1, 1) := by decide +kernel
theorem dX8_comeOut_59 : decode cX8_comeOut 59 = .ok (.iload_n 2, 1) := by decide +kernel
theorem dX8_comeOut_60 : decode cX8_comeOut 60 = .ok (.iconst 1, 1) := by decide +kernel
theorem dX8_comeOut_61 : decode cX8_comeOut 61 = .ok (.iadd, 1) := by decide +kernel
theorem dX8_comeOut_62 : decode cX8_comeOut 62 = .ok (.iload 5, 2) := by decide +kernel
theorem dX8_comeOut_64 : decode cX8_comeOut 64 = .ok (.iadd, 1) := by decide +kernel
theorem dX8_comeOut_65 : decode cX8_comeOut 65 = .ok (.invokevirtual 69, 3) := by decide +kernel
theorem dX8_comeOut_68 : decode cX8_comeOut 68 = .ok (.iastore, 1) := by decide +kernel
theorem dX8_comeOut_69 : decode cX8_comeOut 69 = .ok (.iinc 5 1, 3) := by decide +kernel
theorem dX8_comeOut_72 : decode cX8_comeOut 72 = .ok (.goto (-36), 3) := by decide +kernel
theorem dX8_comeOut_75 : decode cX8_comeOut 75 = .ok (.aload_n 0, 1) := by decide +kernel
theorem dX8_comeOut_76 : decode cX8_comeOut 76 = .ok (.getfield 23, 3) := by decide +kernel
theorem dX8_comeOut_79 : decode cX8_comeOut 79 = .ok (.aload_n 0, 1) := by decide +kernel
theorem dX8_comeOut_80 : decode cX8_comeOut 80 = .ok (.getfield 76, 3) := by decide +kernel
theorem dX8_comeOut_83 : decode cX8_comeOut 83 = .ok (.aload_n 0, 1) := by decide +kernel
theorem dX8_comeOut_84 : decode cX8_comeOut 84 = .ok (.iload_n 1, 1) := by decide +kernel
theorem dX8_comeOut_85 : decode cX8_comeOut 85 = .ok (.iload_n 2, 1) := by decide +kernel
theorem dX8_comeOut_86 : decode cX8_comeOut 86 = .ok (.iconst 1, 1) := by decide +kernel
theorem dX8_comeOut_87 : decode cX8_comeOut 87 = .ok (.iadd, 1) := by decide +kernel
theorem dX8_comeOut_88 : decode cX8_comeOut 88 = .ok (.iload 4, 2) := by decide +kernel
theorem dX8_comeOut_90 : decode cX8_comeOut 90 = .ok (.iadd, 1) := by decide +kernel
theorem dX8_comeOut_91 : decode cX8_comeOut 91 = .ok (.invokevirtual 69, 3) := by decide +kernel
theorem dX8_comeOut_94 : decode cX8_comeOut 94 = .ok (.iastore, 1) := by decide +kernel
theorem dX8_comeOut_95 : decode cX8_comeOut 95 = .ok (.aload_n 0, 1) := by decide +kernel
theorem dX8_comeOut_96 : decode cX8_comeOut 96 = .ok (.dup, 1) := by decide +kernel
theorem dX8_comeOut_97 : decode cX8_comeOut 97 = .ok (.getfield 76, 3) := by decide +kernel
theorem dX8_comeOut_100 : decode cX8_comeOut 100 = .ok (.iconst 1, 1) := by decide +kernel
theorem dX8_comeOut_101 : decode cX8_comeOut 101 = .ok (.iadd, 1) := by decide +kernel
theorem dX8_comeOut_102 : decode cX8_comeOut 102 = .ok (.putfield 76, 3) := by decide +kernel
theorem dX8_comeOut_105 : decode cX8_comeOut 105 = .ok (.iload_n 2, 1) := by decide +kernel
theorem dX8_comeOut_106 : decode cX8_comeOut 106 = .ok (.iload 4, 2) := by decide +kernel
theorem dX8_comeOut_108 : decode cX8_comeOut 108 = .ok (.iconst 2, 1) := by decide +kernel
theorem dX8_comeOut_109 : decode cX8_comeOut 109 = .ok (.iadd, 1) := by decide +kernel
theorem dX8_comeOut_110 : decode cX8_comeOut 110 = .ok (.iadd, 1) := by decide +kernel
theorem dX8_comeOut_111 : decode cX8_comeOut 111 = .ok (.istore_n 2, 1) := by decide +kernel
theorem dX8_comeOut_112 : decode cX8_comeOut 112 = .ok (.iinc 3 1, 3) := by decide +kernel
theorem dX8_comeOut_115 : decode cX8_comeOut 115 = .ok (.goto (-111), 3) := by decide +kernel
theorem dX8_comeOut_118 : decode cX8_comeOut 118 = .ok (.return_, 1) := by decide +kernel
theorem dX8_goBack_0 : decode cX8_goBack 0 = .ok (.aload_n 0, 1) := by decide +kernel
theorem dX8_goBack_1 : decode cX8_goBack 1 = .ok (.iload_n 1, 1) := by decide +kernel
theorem dX8_goBack_2 : decode cX8_goBack 2 = .ok (.invokevirtual 79, 3) := by decide +kernel
theorem dX8_goBack_5 : decode cX8_goBack 5 = .ok (.aload_n 0, 1) := by decide +kernel
theorem dX8_goBack_6 : decode cX8_goBack 6 = .ok (.getfield 7, 3) := by decide +kernel
theorem dX8_goBack_9 : decode cX8_goBack 9 = .ok (.bipush 64, 2) := by decide +kernel
theorem dX8_goBack_11 : decode cX8_goBack 11 = .ok (.iload_n 1, 1) := by decide +kernel
theorem dX8_goBack_12 : decode cX8_goBack 12 = .ok (.imul, 1) := by decide +kernel
theorem dX8_goBack_13 : decode cX8_goBack 13 = .ok (.iload_n 2, 1) := by decide +kernel
theorem dX8_goBack_14 : decode cX8_goBack 14 = .ok (.iastore, 1) := by decide +kernel
theorem dX8_goBack_15 : decode cX8_goBack 15 = .ok (.aload_n 0, 1) := by decide +kernel
theorem dX8_goBack_16 : decode cX8_goBack 16 = .ok (.getfield 7, 3) := by decide +kernel
theorem dX8_goBack_19 : decode cX8_goBack 19 = .ok (.bipush 64, 2) := by decide +kernel
theorem dX8_goBack_21 : decode cX8_goBack 21 = .ok (.iload_n 1, 1) := by decide +kernel
theorem dX8_goBack_22 : decode cX8_goBack 22 = .ok (.imul, 1) := by decide +kernel
theorem dX8_goBack_23 : decode cX8_goBack 23 = .ok (.iconst 1, 1) := by decide +kernel
theorem dX8_goBack_24 : decode cX8_goBack 24 = .ok (.iadd, 1) := by decide +kernel
theorem dX8_goBack_25 : decode cX8_goBack 25 = .ok (.iload 5, 2) := by decide +kernel
theorem dX8_goBack_27 : decode cX8_goBack 27 = .ok (.iload 4, 2) := by decide +kernel
theorem dX8_goBack_29 : decode cX8_goBack 29 = .ok (.isub, 1) := by decide +kernel
theorem dX8_goBack_30 : decode cX8_goBack 30 = .ok (.iastore, 1) := by decide +kernel
theorem dX8_goBack_31 : decode cX8_goBack 31 = .ok (.aload_n 0, 1) := by decide +kernel
theorem dX8_goBack_32 : decode cX8_goBack 32 = .ok (.getfield 7, 3) := by decide +kernel
theorem dX8_goBack_35 : decode cX8_goBack 35 = .ok (.bipush 64, 2) := by decide +kernel
theorem dX8_goBack_37 : decode cX8_goBack 37 = .ok (.iload_n 1, 1) := by decide +kernel
theorem dX8_goBack_38 : decode cX8_goBack 38 = .ok (.imul, 1) := by decide +kernel
theorem dX8_goBack_39 : decode cX8_goBack 39 = .ok (.iconst 2, 1) := by decide +kernel
theorem dX8_goBack_40 : decode cX8_goBack 40 = .ok (.iadd, 1) := by decide +kernel
theorem dX8_goBack_41 : decode cX8_goBack 41 = .ok (.iload_n 3, 1) := by decide +kernel
theorem dX8_goBack_42 : decode cX8_goBack 42 = .ok (.iastore, 1) := by decide +kernel
theorem dX8_goBack_43 : decode cX8_goBack 43 = .ok (.bipush 64, 2) := by decide +kernel
theorem dX8_goBack_45 : decode cX8_goBack 45 = .ok (.iload_n 1, 1) := by decide +kernel
theorem dX8_goBack_46 : decode cX8_goBack 46 = .ok (.imul, 1) := by decide +kernel
theorem dX8_goBack_47 : decode cX8_goBack 47 = .ok (.iconst 3, 1) := by decide +kernel
theorem dX8_goBack_48 : decode cX8_goBack 48 = .ok (.iadd, 1) := by decide +kernel
theorem dX8_goBack_49 : decode cX8_goBack 49 = .ok (.istore 6, 2) := by decide +kernel
theorem dX8_goBack_51 : decode cX8_goBack 51 = .ok (.iload 4, 2) := by decide +kernel
theorem dX8_goBack_53 : decode cX8_goBack 53 = .ok (.istore 7, 2) := by decide +kernel
theorem dX8_goBack_55 : decode cX8_goBack 55 = .ok (.iload 7, 2) := by decide +kernel
theorem dX8_goBack_57 : decode cX8_goBack 57 = .ok (.iload 5, 2) := by decide +kernel
theorem dX8_goBack_59 : decode cX8_goBack 59 = .ok (.if_icmp .ge 107, 3) := by decide +kernel
theorem dX8_goBack_62 : decode cX8_goBack 62 = .ok (.aload_n 0, 1) := by decide +kernel
theorem dX8_goBack_63 : decode cX8_goBack 63 = .ok (.getfield 7, 3) := by decide +kernel
theorem dX8_goBack_66 : decode cX8_goBack 66 = .ok (.iload 6, 2) := by decide +kernel
theorem dX8_goBack_68 : decode cX8_goBack 68 = .ok (.aload_n 0, 1) := by decide +kernel
theorem dX8_goBack_69 : decode cX8_goBack 69 = .ok (.getfield 17, 3) := by decide +kernel
theorem dX8_goBack_72 : decode cX8_goBack 72 = .ok (.iload 7, 2) := by decide +kernel
theorem dX8_goBack_74 : decode cX8_goBack 74 = .ok (.iaload, 1) := by decide +kernel
theorem dX8_goBack_75 : decode cX8_goBack 75 = .ok (.iastore, 1) := by decide +kernel
theorem dX8_goBack_76 : decode cX8_goBack 76 = .ok (.iconst 0, 1) := by decide +kernel
theorem dX8_goBack_77 : decode cX8_goBack 77 = .ok (.istore 8, 2) := by decide +kernel
theorem dX8_goBack_79 : decode cX8_goBack 79 = .ok (.iload 8, 2) := by decide +kernel
theorem dX8_goBack_81 : decode cX8_goBack 81 = .ok (.aload_n 0, 1) := by decide +kernel
theorem dX8_goBack_82 : decode cX8_goBack 82 = .ok (.getfield 17, 3) := by decide +kernel
theorem dX8_goBack_85 : decode cX8_goBack 85 = .ok (.iload 7, 2) := by decide +kernel
theorem dX8_goBack_87 : decode cX8_goBack 87 = .ok (.iaload, 1) := by decide +kernel
theorem dX8_goBack_88 : decode cX8_goBack 88 = .ok (.if_icmp .ge 34, 3) := by decide +kernel
theorem dX8_goBack_91 : decode cX8_goBack 91 = .ok (.aload_n 0, 1) := by decide +kernel
theorem dX8_goBack_92 : decode cX8_goBack 92 = .ok (.getfield 7, 3) := by decide +kernel
theorem dX8_goBack_95 : decode cX8_goBack 95 = .ok (.iload 6, 2) := by decide +kernel
theorem dX8_goBack_97 : decode cX8_goBack 97 = .ok (.iconst 1, 1) := by decide +kernel
theorem dX8_goBack_98 : decode cX8_goBack 98 = .ok (.iadd, 1) := by decide +kernel
theorem dX8_goBack_99 : decode cX8_goBack 99 = .ok (.iload 8, 2) := by decide +kernel
theorem dX8_goBack_101 : decode cX8_goBack 101 = .ok (.iadd, 1) := by decide +kernel
theorem dX8_goBack_102 : decode cX8_goBack 102 = .ok (.aload_n 0, 1) := by decide +kernel
theorem dX8_goBack_103 : decode cX8_goBack 103 = .ok (.getfield 20, 3) := by decide +kernel
theorem dX8_goBack_106 : decode cX8_goBack 106 = .ok (.bipush 8, 2) := by decide +kernel
theorem dX8_goBack_108 : decode cX8_goBack 108 = .ok (.iload 7, 2) := by decide +kernel
theorem dX8_goBack_110 : decode cX8_goBack 110 = .ok (.imul, 1) := by decide +kernel
theorem dX8_goBack_111 : decode cX8_goBack 111 = .ok (.iload 8, 2) := by decide +kernel
theorem dX8_goBack_113 : decode cX8_goBack 113 = .ok (.iadd, 1) := by decide +kernel
theorem dX8_goBack_114 : decode cX8_goBack 114 = .ok (.iaload, 1) := by decide +kernel
theorem dX8_goBack_115 : decode cX8_goBack 115 = .ok (.iastore, 1) := by decide +kernel
theorem dX8_goBack_116 : decode cX8_goBack 116 = .ok (.iinc 8 1, 3) := by decide +kernel
theorem dX8_goBack_119 : decode cX8_goBack 119 = .ok (.goto (-40), 3) := by decide +kernel
theorem dX8_goBack_122 : decode cX8_goBack 122 = .ok (.aload_n 0, 1) := by decide +kernel
theorem dX8_goBack_123 : decode cX8_goBack 123 = .ok (.getfield 7, 3) := by decide +kernel
theorem dX8_goBack_126 : decode cX8_goBack 126 = .ok (.iload 6, 2) := by decide +kernel
theorem dX8_goBack_128 : decode cX8_goBack 128 = .ok (.iconst 1, 1) := by decide +kernel
theorem dX8_goBack_129 : decode cX8_goBack 129 = .ok (.iadd, 1) := by decide +kernel
theorem dX8_goBack_130 : decode cX8_goBack 130 = .ok (.aload_n 0, 1) := by decide +kernel
theorem dX8_goBack_131 : decode cX8_goBack 131 = .ok (.getfield 17, 3) := by decide +kernel
theorem dX8_goBack_134 : decode cX8_goBack 134 = .ok (.iload 7, 2) := by decide +kernel
theorem dX8_goBack_136 : decode cX8_goBack 136 = .ok (.iaload, 1) := by decide +kernel
theorem dX8_goBack_137 : decode cX8_goBack 137 = .ok (.iadd, 1) := by decide +kernel
theorem dX8_goBack_138 : decode cX8_goBack 138 = .ok (.aload_n 0, 1) := by decide +kernel
theorem dX8_goBack_139 : decode cX8_goBack 139 = .ok (.getfield 23, 3) := by decide +kernel
theorem dX8_goBack_142 : decode cX8_goBack 142 = .ok (.iload 7, 2) := by decide +kernel
theorem dX8_goBack_144 : decode cX8_goBack 144 = .ok (.iaload, 1) := by decide +kernel
theorem dX8_goBack_145 : decode cX8_goBack 145 = .ok (.iastore, 1) := by decide +kernel
theorem dX8_goBack_146 : decode cX8_goBack 146 = .ok (.iload 6, 2) := by decide +kernel
theorem dX8_goBack_148 : decode cX8_goBack 148 = .ok (.aload_n 0, 1) := by decide +kernel
theorem dX8_goBack_149 : decode cX8_goBack 149 = .ok (.getfield 17, 3) := by decide +kernel
theorem dX8_goBack_152 : decode cX8_goBack 152 = .ok (.iload 7, 2) := by decide +kernel
theorem dX8_goBack_154 : decode cX8_goBack 154 = .ok (.iaload, 1) := by decide +kernel
theorem dX8_goBack_155 : decode cX8_goBack 155 = .ok (.iconst 2, 1) := by decide +kernel
theorem dX8_goBack_156 : decode cX8_goBack 156 = .ok (.iadd, 1) := by decide +kernel
theorem dX8_goBack_157 : decode cX8_goBack 157 = .ok (.iadd, 1) := by decide +kernel
theorem dX8_goBack_158 : decode cX8_goBack 158 = .ok (.istore 6, 2) := by decide +kernel
theorem dX8_goBack_160 : decode cX8_goBack 160 = .ok (.iinc 7 1, 3) := by decide +kernel
theorem dX8_goBack_163 : decode cX8_goBack 163 = .ok (.goto (-108), 3) := by decide +kernel
theorem dX8_goBack_166 : decode cX8_goBack 166 = .ok (.return_, 1) := by decide +kernel
theorem dX8_copies_0 : decode cX8_copies 0 = .ok (.aload_n 0, 1) := by decide +kernel
theorem dX8_copies_1 : decode cX8_copies 1 = .ok (.getfield 17, 3) := by decide +kernel
theorem dX8_copies_4 : decode cX8_copies 4 = .ok (.iload_n 2, 1) := by decide +kernel
theorem dX8_copies_5 : decode cX8_copies 5 = .ok (.aload_n 0, 1) := by decide +kernel
theorem dX8_copies_6 : decode cX8_copies 6 = .ok (.getfield 17, 3) := by decide +kernel
theorem dX8_copies_9 : decode cX8_copies 9 = .ok (.iload_n 1, 1) := by decide +kernel
theorem dX8_copies_10 : decode cX8_copies 10 = .ok (.iaload, 1) := by decide +kernel
theorem dX8_copies_11 : decode cX8_copies 11 = .ok (.iastore, 1) := by decide +kernel
theorem dX8_copies_12 : decode cX8_copies 12 = .ok (.aload_n 0, 1) := by decide +kernel
theorem dX8_copies_13 : decode cX8_copies 13 = .ok (.getfield 23, 3) := by decide +kernel
theorem dX8_copies_16 : decode cX8_copies 16 = .ok (.iload_n 2, 1) := by decide +kernel
theorem dX8_copies_17 : decode cX8_copies 17 = .ok (.aload_n 0, 1) := by decide +kernel
theorem dX8_copies_18 : decode cX8_copies 18 = .ok (.getfield 23, 3) := by decide +kernel
theorem dX8_copies_21 : decode cX8_copies 21 = .ok (.iload_n 1, 1) := by decide +kernel
theorem dX8_copies_22 : decode cX8_copies 22 = .ok (.iaload, 1) := by decide +kernel
theorem dX8_copies_23 : decode cX8_copies 23 = .ok (.iastore, 1) := by decide +kernel
theorem dX8_copies_24 : decode cX8_copies 24 = .ok (.iconst 0, 1) := by decide +kernel
theorem dX8_copies_25 : decode cX8_copies 25 = .ok (.istore_n 3, 1) := by decide +kernel
theorem dX8_copies_26 : decode cX8_copies 26 = .ok (.iload_n 3, 1) := by decide +kernel
theorem dX8_copies_27 : decode cX8_copies 27 = .ok (.bipush 8, 2) := by decide +kernel
theorem dX8_copies_29 : decode cX8_copies 29 = .ok (.if_icmp .ge 31, 3) := by decide +kernel
theorem dX8_copies_32 : decode cX8_copies 32 = .ok (.aload_n 0, 1) := by decide +kernel
theorem dX8_copies_33 : decode cX8_copies 33 = .ok (.getfield 20, 3) := by decide +kernel
theorem dX8_copies_36 : decode cX8_copies 36 = .ok (.bipush 8, 2) := by decide +kernel
theorem dX8_copies_38 : decode cX8_copies 38 = .ok (.iload_n 2, 1) := by decide +kernel
theorem dX8_copies_39 : decode cX8_copies 39 = .ok (.imul, 1) := by decide +kernel
theorem dX8_copies_40 : decode cX8_copies 40 = .ok (.iload_n 3, 1) := by decide +kernel
theorem dX8_copies_41 : decode cX8_copies 41 = .ok (.iadd, 1) := by decide +kernel
theorem dX8_copies_42 : decode cX8_copies 42 = .ok (.aload_n 0, 1) := by decide +kernel
theorem dX8_copies_43 : decode cX8_copies 43 = .ok (.getfield 20, 3) := by decide +kernel
theorem dX8_copies_46 : decode cX8_copies 46 = .ok (.bipush 8, 2) := by decide +kernel
theorem dX8_copies_48 : decode cX8_copies 48 = .ok (.iload_n 1, 1) := by decide +kernel
theorem dX8_copies_49 : decode cX8_copies 49 = .ok (.imul, 1) := by decide +kernel
theorem dX8_copies_50 : decode cX8_copies 50 = .ok (.iload_n 3, 1) := by decide +kernel
theorem dX8_copies_51 : decode cX8_copies 51 = .ok (.iadd, 1) := by decide +kernel
theorem dX8_copies_52 : decode cX8_copies 52 = .ok (.iaload, 1) := by decide +kernel
theorem dX8_copies_53 : decode cX8_copies 53 = .ok (.iastore, 1) := by decide +kernel
theorem dX8_copies_54 : decode cX8_copies 54 = .ok (.iinc 3 1, 3) := by decide +kernel
theorem dX8_copies_57 : decode cX8_copies 57 = .ok (.goto (-31), 3) := by decide +kernel
theorem dX8_copies_60 : decode cX8_copies 60 = .ok (.return_, 1) := by decide +kernel
theorem dX8_comesIn_0 : decode cX8_comesIn 0 = .ok (.aload_n 0, 1) := by decide +kernel
theorem dX8_comesIn_1 : decode cX8_comesIn 1 = .ok (.getfield 76, 3) := by decide +kernel
theorem dX8_comesIn_4 : decode cX8_comesIn 4 = .ok (.istore 5, 2) := by decide +kernel
theorem dX8_comesIn_6 : decode cX8_comesIn 6 = .ok (.iload 5, 2) := by decide +kernel
theorem dX8_comesIn_8 : decode cX8_comesIn 8 = .ok (.iload_n 1, 1) := by decide +kernel
theorem dX8_comesIn_9 : decode cX8_comesIn 9 = .ok (.if_icmp .le 19, 3) := by decide +kernel
theorem dX8_comesIn_12 : decode cX8_comesIn 12 = .ok (.aload_n 0, 1) := by decide +kernel
theorem dX8_comesIn_13 : decode cX8_comesIn 13 = .ok (.iload 5, 2) := by decide +kernel
theorem dX8_comesIn_15 : decode cX8_comesIn 15 = .ok (.iconst 1, 1) := by decide +kernel
theorem dX8_comesIn_16 : decode cX8_comesIn 16 = .ok (.isub, 1) := by decide +kernel
theorem dX8_comesIn_17 : decode cX8_comesIn 17 = .ok (.iload 5, 2) := by decide +kernel
theorem dX8_comesIn_19 : decode cX8_comesIn 19 = .ok (.invokevirtual 83, 3) := by decide +kernel
theorem dX8_comesIn_22 : decode cX8_comesIn 22 = .ok (.iinc 5 (-1), 3) := by decide +kernel
theorem dX8_comesIn_25 : decode cX8_comesIn 25 = .ok (.goto (-19), 3) := by decide +kernel
theorem dX8_comesIn_28 : decode cX8_comesIn 28 = .ok (.aload_n 0, 1) := by decide +kernel
theorem dX8_comesIn_29 : decode cX8_comesIn 29 = .ok (.getfield 17, 3) := by decide +kernel
theorem dX8_comesIn_32 : decode cX8_comesIn 32 = .ok (.iload_n 1, 1) := by decide +kernel
theorem dX8_comesIn_33 : decode cX8_comesIn 33 = .ok (.iload_n 3, 1) := by decide +kernel
theorem dX8_comesIn_34 : decode cX8_comesIn 34 = .ok (.iastore, 1) := by decide +kernel
theorem dX8_comesIn_35 : decode cX8_comesIn 35 = .ok (.aload_n 0, 1) := by decide +kernel
theorem dX8_comesIn_36 : decode cX8_comesIn 36 = .ok (.getfield 23, 3) := by decide +kernel
theorem dX8_comesIn_39 : decode cX8_comesIn 39 = .ok (.iload_n 1, 1) := by decide +kernel
theorem dX8_comesIn_40 : decode cX8_comesIn 40 = .ok (.iload 4, 2) := by decide +kernel
theorem dX8_comesIn_42 : decode cX8_comesIn 42 = .ok (.iastore, 1) := by decide +kernel
theorem dX8_comesIn_43 : decode cX8_comesIn 43 = .ok (.iconst 0, 1) := by decide +kernel
theorem dX8_comesIn_44 : decode cX8_comesIn 44 = .ok (.istore 5, 2) := by decide +kernel
theorem dX8_comesIn_46 : decode cX8_comesIn 46 = .ok (.iload 5, 2) := by decide +kernel
theorem dX8_comesIn_48 : decode cX8_comesIn 48 = .ok (.iload_n 3, 1) := by decide +kernel
theorem dX8_comesIn_49 : decode cX8_comesIn 49 = .ok (.if_icmp .ge 25, 3) := by decide +kernel
theorem dX8_comesIn_52 : decode cX8_comesIn 52 = .ok (.aload_n 0, 1) := by decide +kernel
theorem dX8_comesIn_53 : decode cX8_comesIn 53 = .ok (.getfield 20, 3) := by decide +kernel
theorem dX8_comesIn_56 : decode cX8_comesIn 56 = .ok (.bipush 8, 2) := by decide +kernel
theorem dX8_comesIn_58 : decode cX8_comesIn 58 = .ok (.iload_n 1, 1) := by decide +kernel
theorem dX8_comesIn_59 : decode cX8_comesIn 59 = .ok (.imul, 1) := by decide +kernel
theorem dX8_comesIn_60 : decode cX8_comesIn 60 = .ok (.iload 5, 2) := by decide +kernel
theorem dX8_comesIn_62 : decode cX8_comesIn 62 = .ok (.iadd, 1) := by decide +kernel
theorem dX8_comesIn_63 : decode cX8_comesIn 63 = .ok (.aload_n 2, 1) := by decide +kernel
theorem dX8_comesIn_64 : decode cX8_comesIn 64 = .ok (.iload 5, 2) := by decide +kernel
theorem dX8_comesIn_66 : decode cX8_comesIn 66 = .ok (.iaload, 1) := by decide +kernel
theorem dX8_comesIn_67 : decode cX8_comesIn 67 = .ok (.iastore, 1) := by decide +kernel
theorem dX8_comesIn_68 : decode cX8_comesIn 68 = .ok (.iinc 5 1, 3) := by decide +kernel
theorem dX8_comesIn_71 : decode cX8_comesIn 71 = .ok (.goto (-25), 3) := by decide +kernel
theorem dX8_comesIn_74 : decode cX8_comesIn 74 = .ok (.aload_n 0, 1) := by decide +kernel
theorem dX8_comesIn_75 : decode cX8_comesIn 75 = .ok (.dup, 1) := by decide +kernel
theorem dX8_comesIn_76 : decode cX8_comesIn 76 = .ok (.getfield 76, 3) := by decide +kernel
theorem dX8_comesIn_79 : decode cX8_comesIn 79 = .ok (.iconst 1, 1) := by decide +kernel
theorem dX8_comesIn_80 : decode cX8_comesIn 80 = .ok (.iadd, 1) := by decide +kernel
theorem dX8_comesIn_81 : decode cX8_comesIn 81 = .ok (.putfield 76, 3) := by decide +kernel
theorem dX8_comesIn_84 : decode cX8_comesIn 84 = .ok (.return_, 1) := by decide +kernel
theorem dX8_goesOut_0 : decode cX8_goesOut 0 = .ok (.iload_n 1, 1) := by decide +kernel
theorem dX8_goesOut_1 : decode cX8_goesOut 1 = .ok (.iconst 1, 1) := by decide +kernel
theorem dX8_goesOut_2 : decode cX8_goesOut 2 = .ok (.iadd, 1) := by decide +kernel
theorem dX8_goesOut_3 : decode cX8_goesOut 3 = .ok (.istore_n 2, 1) := by decide +kernel
theorem dX8_goesOut_4 : decode cX8_goesOut 4 = .ok (.iload_n 2, 1) := by decide +kernel
theorem dX8_goesOut_5 : decode cX8_goesOut 5 = .ok (.aload_n 0, 1) := by decide +kernel
theorem dX8_goesOut_6 : decode cX8_goesOut 6 = .ok (.getfield 76, 3) := by decide +kernel
theorem dX8_goesOut_9 : decode cX8_goesOut 9 = .ok (.if_icmp .ge 17, 3) := by decide +kernel
theorem dX8_goesOut_12 : decode cX8_goesOut 12 = .ok (.aload_n 0, 1) := by decide +kernel
theorem dX8_goesOut_13 : decode cX8_goesOut 13 = .ok (.iload_n 2, 1) := by decide +kernel
theorem dX8_goesOut_14 : decode cX8_goesOut 14 = .ok (.iload_n 2, 1) := by decide +kernel
theorem dX8_goesOut_15 : decode cX8_goesOut 15 = .ok (.iconst 1, 1) := by decide +kernel
theorem dX8_goesOut_16 : decode cX8_goesOut 16 = .ok (.isub, 1) := by decide +kernel
theorem dX8_goesOut_17 : decode cX8_goesOut 17 = .ok (.invokevirtual 83, 3) := by decide +kernel
theorem dX8_goesOut_20 : decode cX8_goesOut 20 = .ok (.iinc 2 1, 3) := by decide +kernel
theorem dX8_goesOut_23 : decode cX8_goesOut 23 = .ok (.goto (-19), 3) := by decide +kernel
theorem dX8_goesOut_26 : decode cX8_goesOut 26 = .ok (.aload_n 0, 1) := by decide +kernel
theorem dX8_goesOut_27 : decode cX8_goesOut 27 = .ok (.dup, 1) := by decide +kernel
theorem dX8_goesOut_28 : decode cX8_goesOut 28 = .ok (.getfield 76, 3) := by decide +kernel
theorem dX8_goesOut_31 : decode cX8_goesOut 31 = .ok (.iconst 1, 1) := by decide +kernel
theorem dX8_goesOut_32 : decode cX8_goesOut 32 = .ok (.isub, 1) := by decide +kernel
theorem dX8_goesOut_33 : decode cX8_goesOut 33 = .ok (.putfield 76, 3) := by decide +kernel
theorem dX8_goesOut_36 : decode cX8_goesOut 36 = .ok (.return_, 1) := by decide +kernel
theorem dX8_half_0 : decode cX8_half 0 = .ok (.aload_n 0, 1) := by decide +kernel
theorem dX8_half_1 : decode cX8_half 1 = .ok (.iconst 0, 1) := by decide +kernel
theorem dX8_half_2 : decode cX8_half 2 = .ok (.aload_n 0, 1) := by decide +kernel
theorem dX8_half_3 : decode cX8_half 3 = .ok (.getfield 76, 3) := by decide +kernel
theorem dX8_half_6 : decode cX8_half 6 = .ok (.invokevirtual 87, 3) := by decide +kernel
theorem dX8_half_9 : decode cX8_half 9 = .ok (.istore_n 1, 1) := by decide +kernel
theorem dX8_half_10 : decode cX8_half 10 = .ok (.iconst 0, 1) := by decide +kernel
theorem dX8_half_11 : decode cX8_half 11 = .ok (.istore_n 2, 1) := by decide +kernel
theorem dX8_half_12 : decode cX8_half 12 = .ok (.iconst 2, 1) := by decide +kernel
theorem dX8_half_13 : decode cX8_half 13 = .ok (.aload_n 0, 1) := by decide +kernel
theorem dX8_half_14 : decode cX8_half 14 = .ok (.iconst 0, 1) := by decide +kernel
theorem dX8_half_15 : decode cX8_half 15 = .ok (.iload_n 2, 1) := by decide +kernel
theorem dX8_half_16 : decode cX8_half 16 = .ok (.invokevirtual 87, 3) := by decide +kernel
theorem dX8_half_19 : decode cX8_half 19 = .ok (.imul, 1) := by decide +kernel
theorem dX8_half_20 : decode cX8_half 20 = .ok (.iload_n 1, 1) := by decide +kernel
theorem dX8_half_21 : decode cX8_half 21 = .ok (.if_icmp .ge 9, 3) := by decide +kernel
theorem dX8_half_24 : decode cX8_half 24 = .ok (.iinc 2 1, 3) := by decide +kernel
theorem dX8_half_27 : decode cX8_half 27 = .ok (.goto (-15), 3) := by decide +kernel
theorem dX8_half_30 : decode cX8_half 30 = .ok (.iload_n 2, 1) := by decide +kernel
theorem dX8_half_31 : decode cX8_half 31 = .ok (.ireturn, 1) := by decide +kernel
theorem dX8_shortest_0 : decode cX8_shortest 0 = .ok (.iconst 0, 1) := by decide +kernel
theorem dX8_shortest_1 : decode cX8_shortest 1 = .ok (.istore_n 2, 1) := by decide +kernel
theorem dX8_shortest_2 : decode cX8_shortest 2 = .ok (.iload_n 2, 1) := by decide +kernel
theorem dX8_shortest_3 : decode cX8_shortest 3 = .ok (.aload_n 0, 1) := by decide +kernel
theorem dX8_shortest_4 : decode cX8_shortest 4 = .ok (.getfield 17, 3) := by decide +kernel
theorem dX8_shortest_7 : decode cX8_shortest 7 = .ok (.iload_n 1, 1) := by decide +kernel
theorem dX8_shortest_8 : decode cX8_shortest 8 = .ok (.iconst 1, 1) := by decide +kernel
theorem dX8_shortest_9 : decode cX8_shortest 9 = .ok (.isub, 1) := by decide +kernel
theorem dX8_shortest_10 : decode cX8_shortest 10 = .ok (.iaload, 1) := by decide +kernel
theorem dX8_shortest_11 : decode cX8_shortest 11 = .ok (.if_icmp .ge 46, 3) := by decide +kernel
theorem dX8_shortest_14 : decode cX8_shortest 14 = .ok (.iload_n 2, 1) := by decide +kernel
theorem dX8_shortest_15 : decode cX8_shortest 15 = .ok (.aload_n 0, 1) := by decide +kernel
theorem dX8_shortest_16 : decode cX8_shortest 16 = .ok (.getfield 17, 3) := by decide +kernel
theorem dX8_shortest_19 : decode cX8_shortest 19 = .ok (.iload_n 1, 1) := by decide +kernel
theorem dX8_shortest_20 : decode cX8_shortest 20 = .ok (.iaload, 1) := by decide +kernel
theorem dX8_shortest_21 : decode cX8_shortest 21 = .ok (.if_icmp .ge 36, 3) := by decide +kernel
theorem dX8_shortest_24 : decode cX8_shortest 24 = .ok (.aload_n 0, 1) := by decide +kernel
theorem dX8_shortest_25 : decode cX8_shortest 25 = .ok (.getfield 20, 3) := by decide +kernel
theorem dX8_shortest_28 : decode cX8_shortest 28 = .ok (.bipush 8, 2) := by decide +kernel
theorem dX8_shortest_30 : decode cX8_shortest 30 = .ok (.iload_n 1, 1) := by decide +kernel
theorem dX8_shortest_31 : decode cX8_shortest 31 = .ok (.iconst 1, 1) := by decide +kernel
theorem dX8_shortest_32 : decode cX8_shortest 32 = .ok (.isub, 1) := by decide +kernel
theorem dX8_shortest_33 : decode cX8_shortest 33 = .ok (.imul, 1) := by decide +kernel
theorem dX8_shortest_34 : decode cX8_shortest 34 = .ok (.iload_n 2, 1) := by decide +kernel
theorem dX8_shortest_35 : decode cX8_shortest 35 = .ok (.iadd, 1) := by decide +kernel
theorem dX8_shortest_36 : decode cX8_shortest 36 = .ok (.iaload, 1) := by decide +kernel
theorem dX8_shortest_37 : decode cX8_shortest 37 = .ok (.aload_n 0, 1) := by decide +kernel
theorem dX8_shortest_38 : decode cX8_shortest 38 = .ok (.getfield 20, 3) := by decide +kernel
theorem dX8_shortest_41 : decode cX8_shortest 41 = .ok (.bipush 8, 2) := by decide +kernel
theorem dX8_shortest_43 : decode cX8_shortest 43 = .ok (.iload_n 1, 1) := by decide +kernel
theorem dX8_shortest_44 : decode cX8_shortest 44 = .ok (.imul, 1) := by decide +kernel
theorem dX8_shortest_45 : decode cX8_shortest 45 = .ok (.iload_n 2, 1) := by decide +kernel
theorem dX8_shortest_46 : decode cX8_shortest 46 = .ok (.iadd, 1) := by decide +kernel
theorem dX8_shortest_47 : decode cX8_shortest 47 = .ok (.iaload, 1) := by decide +kernel
theorem dX8_shortest_48 : decode cX8_shortest 48 = .ok (.if_icmp .ne 9, 3) := by decide +kernel
theorem dX8_shortest_51 : decode cX8_shortest 51 = .ok (.iinc 2 1, 3) := by decide +kernel
theorem dX8_shortest_54 : decode cX8_shortest 54 = .ok (.goto (-52), 3) := by decide +kernel
theorem dX8_shortest_57 : decode cX8_shortest 57 = .ok (.iload_n 2, 1) := by decide +kernel
theorem dX8_shortest_58 : decode cX8_shortest 58 = .ok (.iconst 1, 1) := by decide +kernel
theorem dX8_shortest_59 : decode cX8_shortest 59 = .ok (.iadd, 1) := by decide +kernel
theorem dX8_shortest_60 : decode cX8_shortest 60 = .ok (.ireturn, 1) := by decide +kernel
theorem dX8_goesUp_0 : decode cX8_goesUp 0 = .ok (.aload_n 0, 1) := by decide +kernel
theorem dX8_goesUp_1 : decode cX8_goesUp 1 = .ok (.iload_n 2, 1) := by decide +kernel
theorem dX8_goesUp_2 : decode cX8_goesUp 2 = .ok (.putfield 90, 3) := by decide +kernel
theorem dX8_goesUp_5 : decode cX8_goesUp 5 = .ok (.iconst 0, 1) := by decide +kernel
theorem dX8_goesUp_6 : decode cX8_goesUp 6 = .ok (.istore_n 3, 1) := by decide +kernel
theorem dX8_goesUp_7 : decode cX8_goesUp 7 = .ok (.iload_n 3, 1) := by decide +kernel
theorem dX8_goesUp_8 : decode cX8_goesUp 8 = .ok (.iload_n 2, 1) := by decide +kernel
theorem dX8_goesUp_9 : decode cX8_goesUp 9 = .ok (.if_icmp .ge 26, 3) := by decide +kernel
theorem dX8_goesUp_12 : decode cX8_goesUp 12 = .ok (.aload_n 0, 1) := by decide +kernel
theorem dX8_goesUp_13 : decode cX8_goesUp 13 = .ok (.getfield 26, 3) := by decide +kernel
theorem dX8_goesUp_16 : decode cX8_goesUp 16 = .ok (.iload_n 3, 1) := by decide +kernel
theorem dX8_goesUp_17 : decode cX8_goesUp 17 = .ok (.aload_n 0, 1) := by decide +kernel
theorem dX8_goesUp_18 : decode cX8_goesUp 18 = .ok (.getfield 20, 3) := by decide +kernel
theorem dX8_goesUp_21 : decode cX8_goesUp 21 = .ok (.bipush 8, 2) := by decide +kernel
theorem dX8_goesUp_23 : decode cX8_goesUp 23 = .ok (.iload_n 1, 1) := by decide +kernel
theorem dX8_goesUp_24 : decode cX8_goesUp 24 = .ok (.imul, 1) := by decide +kernel
theorem dX8_goesUp_25 : decode cX8_goesUp 25 = .ok (.iload_n 3, 1) := by decide +kernel
theorem dX8_goesUp_26 : decode cX8_goesUp 26 = .ok (.iadd, 1) := by decide +kernel
theorem dX8_goesUp_27 : decode cX8_goesUp 27 = .ok (.iaload, 1) := by decide +kernel
theorem dX8_goesUp_28 : decode cX8_goesUp 28 = .ok (.iastore, 1) := by decide +kernel
theorem dX8_goesUp_29 : decode cX8_goesUp 29 = .ok (.iinc 3 1, 3) := by decide +kernel
theorem dX8_goesUp_32 : decode cX8_goesUp 32 = .ok (.goto (-25), 3) := by decide +kernel
theorem dX8_goesUp_35 : decode cX8_goesUp 35 = .ok (.return_, 1) := by decide +kernel
theorem dX8_setUp_0 : decode cX8_setUp 0 = .ok (.aload_n 0, 1) := by decide +kernel
theorem dX8_setUp_1 : decode cX8_setUp 1 = .ok (.iload_n 2, 1) := by decide +kernel
theorem dX8_setUp_2 : decode cX8_setUp 2 = .ok (.iload_n 1, 1) := by decide +kernel
theorem dX8_setUp_3 : decode cX8_setUp 3 = .ok (.iconst 1, 1) := by decide +kernel
theorem dX8_setUp_4 : decode cX8_setUp 4 = .ok (.if_icmp .ne 11, 3) := by decide +kernel
theorem dX8_setUp_7 : decode cX8_setUp 7 = .ok (.aload_n 0, 1) := by decide +kernel
theorem dX8_setUp_8 : decode cX8_setUp 8 = .ok (.iload_n 2, 1) := by decide +kernel
theorem dX8_setUp_9 : decode cX8_setUp 9 = .ok (.invokevirtual 93, 3) := by decide +kernel
theorem dX8_setUp_12 : decode cX8_setUp 12 = .ok (.goto 9, 3) := by decide +kernel
theorem dX8_setUp_15 : decode cX8_setUp 15 = .ok (.aload_n 0, 1) := by decide +kernel
theorem dX8_setUp_16 : decode cX8_setUp 16 = .ok (.getfield 17, 3) := by decide +kernel
theorem dX8_setUp_19 : decode cX8_setUp 19 = .ok (.iload_n 2, 1) := by decide +kernel
theorem dX8_setUp_20 : decode cX8_setUp 20 = .ok (.iaload, 1) := by decide +kernel
theorem dX8_setUp_21 : decode cX8_setUp 21 = .ok (.invokevirtual 97, 3) := by decide +kernel
theorem dX8_setUp_24 : decode cX8_setUp 24 = .ok (.return_, 1) := by decide +kernel
theorem dX8_share_0 : decode cX8_share 0 = .ok (.aload_n 0, 1) := by decide +kernel
theorem dX8_share_1 : decode cX8_share 1 = .ok (.invokevirtual 100, 3) := by decide +kernel
theorem dX8_share_4 : decode cX8_share 4 = .ok (.istore 6, 2) := by decide +kernel
theorem dX8_share_6 : decode cX8_share 6 = .ok (.aload_n 0, 1) := by decide +kernel
theorem dX8_share_7 : decode cX8_share 7 = .ok (.iload_n 3, 1) := by decide +kernel
theorem dX8_share_8 : decode cX8_share 8 = .ok (.iload 6, 2) := by decide +kernel
theorem dX8_share_10 : decode cX8_share 10 = .ok (.invokevirtual 104, 3) := by decide +kernel
theorem dX8_share_13 : decode cX8_share 13 = .ok (.iload_n 3, 1) := by decide +kernel
theorem dX8_share_14 : decode cX8_share 14 = .ok (.iconst 1, 1) := by decide +kernel
theorem dX8_share_15 : decode cX8_share 15 = .ok (.if_icmp .ne 32, 3) := by decide +kernel
theorem dX8_share_18 : decode cX8_share 18 = .ok (.aload_n 0, 1) := by decide +kernel
theorem dX8_share_19 : decode cX8_share 19 = .ok (.iload_n 1, 1) := by decide +kernel
theorem dX8_share_20 : decode cX8_share 20 = .ok (.iconst 1, 1) := by decide +kernel
theorem dX8_share_21 : decode cX8_share 21 = .ok (.iload_n 2, 1) := by decide +kernel
theorem dX8_share_22 : decode cX8_share 22 = .ok (.iconst 1, 1) := by decide +kernel
theorem dX8_share_23 : decode cX8_share 23 = .ok (.iadd, 1) := by decide +kernel
theorem dX8_share_24 : decode cX8_share 24 = .ok (.iconst 0, 1) := by decide +kernel
theorem dX8_share_25 : decode cX8_share 25 = .ok (.iload 6, 2) := by decide +kernel
theorem dX8_share_27 : decode cX8_share 27 = .ok (.invokevirtual 107, 3) := by decide +kernel
theorem dX8_share_30 : decode cX8_share 30 = .ok (.aload_n 0, 1) := by decide +kernel
theorem dX8_share_31 : decode cX8_share 31 = .ok (.iload_n 2, 1) := by decide +kernel
theorem dX8_share_32 : decode cX8_share 32 = .ok (.iconst 1, 1) := by decide +kernel
theorem dX8_share_33 : decode cX8_share 33 = .ok (.iload 5, 2) := by decide +kernel
theorem dX8_share_35 : decode cX8_share 35 = .ok (.iload 6, 2) := by decide +kernel
theorem dX8_share_37 : decode cX8_share 37 = .ok (.aload_n 0, 1) := by decide +kernel
theorem dX8_share_38 : decode cX8_share 38 = .ok (.getfield 76, 3) := by decide +kernel
theorem dX8_share_41 : decode cX8_share 41 = .ok (.invokevirtual 107, 3) := by decide +kernel
theorem dX8_share_44 : decode cX8_share 44 = .ok (.goto 39, 3) := by decide +kernel
theorem dX8_share_47 : decode cX8_share 47 = .ok (.aload_n 0, 1) := by decide +kernel
theorem dX8_share_48 : decode cX8_share 48 = .ok (.getfield 23, 3) := by decide +kernel
theorem dX8_share_51 : decode cX8_share 51 = .ok (.iload 6, 2) := by decide +kernel
theorem dX8_share_53 : decode cX8_share 53 = .ok (.iaload, 1) := by decide +kernel
theorem dX8_share_54 : decode cX8_share 54 = .ok (.istore 7, 2) := by decide +kernel
theorem dX8_share_56 : decode cX8_share 56 = .ok (.aload_n 0, 1) := by decide +kernel
theorem dX8_share_57 : decode cX8_share 57 = .ok (.iload_n 1, 1) := by decide +kernel
theorem dX8_share_58 : decode cX8_share 58 = .ok (.iconst 2, 1) := by decide +kernel
theorem dX8_share_59 : decode cX8_share 59 = .ok (.iload 4, 2) := by decide +kernel
theorem dX8_share_61 : decode cX8_share 61 = .ok (.iconst 0, 1) := by decide +kernel
theorem dX8_share_62 : decode cX8_share 62 = .ok (.iload 6, 2) := by decide +kernel
theorem dX8_share_64 : decode cX8_share 64 = .ok (.invokevirtual 107, 3) := by decide +kernel
theorem dX8_share_67 : decode cX8_share 67 = .ok (.aload_n 0, 1) := by decide +kernel
theorem dX8_share_68 : decode cX8_share 68 = .ok (.iload_n 2, 1) := by decide +kernel
theorem dX8_share_69 : decode cX8_share 69 = .ok (.iconst 2, 1) := by decide +kernel
theorem dX8_share_70 : decode cX8_share 70 = .ok (.iload 7, 2) := by decide +kernel
theorem dX8_share_72 : decode cX8_share 72 = .ok (.iload 6, 2) := by decide +kernel
theorem dX8_share_74 : decode cX8_share 74 = .ok (.iconst 1, 1) := by decide +kernel
theorem dX8_share_75 : decode cX8_share 75 = .ok (.iadd, 1) := by decide +kernel
theorem dX8_share_76 : decode cX8_share 76 = .ok (.aload_n 0, 1) := by decide +kernel
theorem dX8_share_77 : decode cX8_share 77 = .ok (.getfield 76, 3) := by decide +kernel
theorem dX8_share_80 : decode cX8_share 80 = .ok (.invokevirtual 107, 3) := by decide +kernel
theorem dX8_share_83 : decode cX8_share 83 = .ok (.return_, 1) := by decide +kernel
theorem dX8_spells_0 : decode cX8_spells 0 = .ok (.iload_n 1, 1) := by decide +kernel
theorem dX8_spells_1 : decode cX8_spells 1 = .ok (.istore_n 3, 1) := by decide +kernel
theorem dX8_spells_2 : decode cX8_spells 2 = .ok (.aload_n 0, 1) := by decide +kernel
theorem dX8_spells_3 : decode cX8_spells 3 = .ok (.iload_n 2, 1) := by decide +kernel
theorem dX8_spells_4 : decode cX8_spells 4 = .ok (.putfield 111, 3) := by decide +kernel
theorem dX8_spells_7 : decode cX8_spells 7 = .ok (.iload_n 2, 1) := by decide +kernel
theorem dX8_spells_8 : decode cX8_spells 8 = .ok (.iconst 1, 1) := by decide +kernel
theorem dX8_spells_9 : decode cX8_spells 9 = .ok (.isub, 1) := by decide +kernel
theorem dX8_spells_10 : decode cX8_spells 10 = .ok (.istore 4, 2) := by decide +kernel
theorem dX8_spells_12 : decode cX8_spells 12 = .ok (.iload 4, 2) := by decide +kernel
theorem dX8_spells_14 : decode cX8_spells 14 = .ok (.ifCond .lt 28, 3) := by decide +kernel
theorem dX8_spells_17 : decode cX8_spells 17 = .ok (.aload_n 0, 1) := by decide +kernel
theorem dX8_spells_18 : decode cX8_spells 18 = .ok (.getfield 29, 3) := by decide +kernel
theorem dX8_spells_21 : decode cX8_spells 21 = .ok (.iload 4, 2) := by decide +kernel
theorem dX8_spells_23 : decode cX8_spells 23 = .ok (.bipush 97, 2) := by decide +kernel
theorem dX8_spells_25 : decode cX8_spells 25 = .ok (.iload_n 3, 1) := by decide +kernel
theorem dX8_spells_26 : decode cX8_spells 26 = .ok (.bipush 26, 2) := by decide +kernel
theorem dX8_spells_28 : decode cX8_spells 28 = .ok (.irem, 1) := by decide +kernel
theorem dX8_spells_29 : decode cX8_spells 29 = .ok (.iadd, 1) := by decide +kernel
theorem dX8_spells_30 : decode cX8_spells 30 = .ok (.iastore, 1) := by decide +kernel
theorem dX8_spells_31 : decode cX8_spells 31 = .ok (.iload_n 3, 1) := by decide +kernel
theorem dX8_spells_32 : decode cX8_spells 32 = .ok (.bipush 26, 2) := by decide +kernel
theorem dX8_spells_34 : decode cX8_spells 34 = .ok (.idiv, 1) := by decide +kernel
theorem dX8_spells_35 : decode cX8_spells 35 = .ok (.istore_n 3, 1) := by decide +kernel
theorem dX8_spells_36 : decode cX8_spells 36 = .ok (.iinc 4 (-1), 3) := by decide +kernel
theorem dX8_spells_39 : decode cX8_spells 39 = .ok (.goto (-27), 3) := by decide +kernel
theorem dX8_spells_42 : decode cX8_spells 42 = .ok (.return_, 1) := by decide +kernel
theorem dX8_isSpelled_0 : decode cX8_isSpelled 0 = .ok (.iconst 1, 1) := by decide +kernel
theorem dX8_isSpelled_1 : decode cX8_isSpelled 1 = .ok (.istore_n 2, 1) := by decide +kernel
theorem dX8_isSpelled_2 : decode cX8_isSpelled 2 = .ok (.iconst 0, 1) := by decide +kernel
theorem dX8_isSpelled_3 : decode cX8_isSpelled 3 = .ok (.istore_n 3, 1) := by decide +kernel
theorem dX8_isSpelled_4 : decode cX8_isSpelled 4 = .ok (.iload_n 3, 1) := by decide +kernel
theorem dX8_isSpelled_5 : decode cX8_isSpelled 5 = .ok (.iload_n 1, 1) := by decide +kernel
theorem dX8_isSpelled_6 : decode cX8_isSpelled 6 = .ok (.if_icmp .ge 19, 3) := by decide +kernel
theorem dX8_isSpelled_9 : decode cX8_isSpelled 9 = .ok (.iload_n 3, 1) := by decide +kernel
theorem dX8_isSpelled_10 : decode cX8_isSpelled 10 = .ok (.iconst 5, 1) := by decide +kernel
theorem dX8_isSpelled_11 : decode cX8_isSpelled 11 = .ok (.if_icmp .ge 14, 3) := by decide +kernel
theorem dX8_isSpelled_14 : decode cX8_isSpelled 14 = .ok (.iload_n 2, 1) := by decide +kernel
theorem dX8_isSpelled_15 : decode cX8_isSpelled 15 = .ok (.bipush 26, 2) := by decide +kernel
theorem dX8_isSpelled_17 : decode cX8_isSpelled 17 = .ok (.imul, 1) := by decide +kernel
theorem dX8_isSpelled_18 : decode cX8_isSpelled 18 = .ok (.istore_n 2, 1) := by decide +kernel
theorem dX8_isSpelled_19 : decode cX8_isSpelled 19 = .ok (.iinc 3 1, 3) := by decide +kernel
theorem dX8_isSpelled_22 : decode cX8_isSpelled 22 = .ok (.goto (-18), 3) := by decide +kernel
theorem dX8_isSpelled_25 : decode cX8_isSpelled 25 = .ok (.iload_n 1, 1) := by decide +kernel
theorem dX8_isSpelled_26 : decode cX8_isSpelled 26 = .ok (.iconst 1, 1) := by decide +kernel
theorem dX8_isSpelled_27 : decode cX8_isSpelled 27 = .ok (.iconst 5, 1) := by decide +kernel
theorem dX8_isSpelled_28 : decode cX8_isSpelled 28 = .ok (.invokestatic 114, 3) := by decide +kernel
theorem dX8_isSpelled_31 : decode cX8_isSpelled 31 = .ok (.ifCond .eq 18, 3) := by decide +kernel
theorem dX8_isSpelled_34 : decode cX8_isSpelled 34 = .ok (.iload_n 0, 1) := by decide +kernel
theorem dX8_isSpelled_35 : decode cX8_isSpelled 35 = .ok (.iconst 0, 1) := by decide +kernel
theorem dX8_isSpelled_36 : decode cX8_isSpelled 36 = .ok (.iload_n 2, 1) := by decide +kernel
theorem dX8_isSpelled_37 : decode cX8_isSpelled 37 = .ok (.iconst 1, 1) := by decide +kernel
theorem dX8_isSpelled_38 : decode cX8_isSpelled 38 = .ok (.isub, 1) := by decide +kernel
theorem dX8_isSpelled_39 : decode cX8_isSpelled 39 = .ok (.invokestatic 114, 3) := by decide +kernel
theorem dX8_isSpelled_42 : decode cX8_isSpelled 42 = .ok (.ifCond .eq 7, 3) := by decide +kernel
theorem dX8_isSpelled_45 : decode cX8_isSpelled 45 = .ok (.iconst 1, 1) := by decide +kernel
theorem dX8_isSpelled_46 : decode cX8_isSpelled 46 = .ok (.goto 4, 3) := by decide +kernel
theorem dX8_isSpelled_49 : decode cX8_isSpelled 49 = .ok (.iconst 0, 1) := by decide +kernel
theorem dX8_isSpelled_50 : decode cX8_isSpelled 50 = .ok (.ireturn, 1) := by decide +kernel
theorem dX8_against_0 : decode cX8_against 0 = .ok (.aload_n 0, 1) := by decide +kernel
theorem dX8_against_1 : decode cX8_against 1 = .ok (.iload_n 1, 1) := by decide +kernel
theorem dX8_against_2 : decode cX8_against 2 = .ok (.iload_n 2, 1) := by decide +kernel
theorem dX8_against_3 : decode cX8_against 3 = .ok (.invokevirtual 69, 3) := by decide +kernel
theorem dX8_against_6 : decode cX8_against 6 = .ok (.istore_n 3, 1) := by decide +kernel
theorem dX8_against_7 : decode cX8_against 7 = .ok (.iconst 0, 1) := by decide +kernel
theorem dX8_against_8 : decode cX8_against 8 = .ok (.istore 4, 2) := by decide +kernel
theorem dX8_against_10 : decode cX8_against 10 = .ok (.iload 4, 2) := by decide +kernel
theorem dX8_against_12 : decode cX8_against 12 = .ok (.aload_n 0, 1) := by decide +kernel
theorem dX8_against_13 : decode cX8_against 13 = .ok (.getfield 111, 3) := by decide +kernel
theorem dX8_against_16 : decode cX8_against 16 = .ok (.if_icmp .ge 36, 3) := by decide +kernel
theorem dX8_against_19 : decode cX8_against 19 = .ok (.iload 4, 2) := by decide +kernel
theorem dX8_against_21 : decode cX8_against 21 = .ok (.iload_n 3, 1) := by decide +kernel
theorem dX8_against_22 : decode cX8_against 22 = .ok (.if_icmp .ge 30, 3) := by decide +kernel
theorem dX8_against_25 : decode cX8_against 25 = .ok (.aload_n 0, 1) := by decide +kernel
theorem dX8_against_26 : decode cX8_against 26 = .ok (.getfield 29, 3) := by decide +kernel
theorem dX8_against_29 : decode cX8_against 29 = .ok (.iload 4, 2) := by decide +kernel
theorem dX8_against_31 : decode cX8_against 31 = .ok (.iaload, 1) := by decide +kernel
theorem dX8_against_32 : decode cX8_against 32 = .ok (.aload_n 0, 1) := by decide +kernel
theorem dX8_against_33 : decode cX8_against 33 = .ok (.iload_n 1, 1) := by decide +kernel
theorem dX8_against_34 : decode cX8_against 34 = .ok (.iload_n 2, 1) := by decide +kernel
theorem dX8_against_35 : decode cX8_against 35 = .ok (.iconst 1, 1) := by decide +kernel
theorem dX8_against_36 : decode cX8_against 36 = .ok (.iadd, 1) := by decide +kernel
theorem dX8_against_37 : decode cX8_against 37 = .ok (.iload 4, 2) := by decide +kernel
theorem dX8_against_39 : decode cX8_against 39 = .ok (.iadd, 1) := by decide +kernel
theorem dX8_against_40 : decode cX8_against 40 = .ok (.invokevirtual 69, 3) := by decide +kernel
theorem dX8_against_43 : decode cX8_against 43 = .ok (.if_icmp .ne 9, 3) := by decide +kernel
theorem dX8_against_46 : decode cX8_against 46 = .ok (.iinc 4 1, 3) := by decide +kernel
theorem dX8_against_49 : decode cX8_against 49 = .ok (.goto (-39), 3) := by decide +kernel
theorem dX8_against_52 : decode cX8_against 52 = .ok (.iload 4, 2) := by decide +kernel
theorem dX8_against_54 : decode cX8_against 54 = .ok (.aload_n 0, 1) := by decide +kernel
theorem dX8_against_55 : decode cX8_against 55 = .ok (.getfield 111, 3) := by decide +kernel
theorem dX8_against_58 : decode cX8_against 58 = .ok (.if_icmp .ge 29, 3) := by decide +kernel
theorem dX8_against_61 : decode cX8_against 61 = .ok (.iload 4, 2) := by decide +kernel
theorem dX8_against_63 : decode cX8_against 63 = .ok (.iload_n 3, 1) := by decide +kernel
theorem dX8_against_64 : decode cX8_against 64 = .ok (.if_icmp .ge 23, 3) := by decide +kernel
theorem dX8_against_67 : decode cX8_against 67 = .ok (.aload_n 0, 1) := by decide +kernel
theorem dX8_against_68 : decode cX8_against 68 = .ok (.getfield 29, 3) := by decide +kernel
theorem dX8_against_71 : decode cX8_against 71 = .ok (.iload 4, 2) := by decide +kernel
theorem dX8_against_73 : decode cX8_against 73 = .ok (.iaload, 1) := by decide +kernel
theorem dX8_against_74 : decode cX8_against 74 = .ok (.aload_n 0, 1) := by decide +kernel
theorem dX8_against_75 : decode cX8_against 75 = .ok (.iload_n 1, 1) := by decide +kernel
theorem dX8_against_76 : decode cX8_against 76 = .ok (.iload_n 2, 1) := by decide +kernel
theorem dX8_against_77 : decode cX8_against 77 = .ok (.iconst 1, 1) := by decide +kernel
theorem dX8_against_78 : decode cX8_against 78 = .ok (.iadd, 1) := by decide +kernel
theorem dX8_against_79 : decode cX8_against 79 = .ok (.iload 4, 2) := by decide +kernel
theorem dX8_against_81 : decode cX8_against 81 = .ok (.iadd, 1) := by decide +kernel
theorem dX8_against_82 : decode cX8_against 82 = .ok (.invokevirtual 69, 3) := by decide +kernel
theorem dX8_against_85 : decode cX8_against 85 = .ok (.isub, 1) := by decide +kernel
theorem dX8_against_86 : decode cX8_against 86 = .ok (.ireturn, 1) := by decide +kernel
theorem dX8_against_87 : decode cX8_against 87 = .ok (.aload_n 0, 1) := by decide +kernel
theorem dX8_against_88 : decode cX8_against 88 = .ok (.getfield 111, 3) := by decide +kernel
theorem dX8_against_91 : decode cX8_against 91 = .ok (.iload_n 3, 1) := by decide +kernel
theorem dX8_against_92 : decode cX8_against 92 = .ok (.isub, 1) := by decide +kernel
theorem dX8_against_93 : decode cX8_against 93 = .ok (.ireturn, 1) := by decide +kernel
theorem dX8_goesDown_0 : decode cX8_goesDown 0 = .ok (.aload_n 0, 1) := by decide +kernel
theorem dX8_goesDown_1 : decode cX8_goesDown 1 = .ok (.getfield 118, 3) := by decide +kernel
theorem dX8_goesDown_4 : decode cX8_goesDown 4 = .ok (.istore_n 1, 1) := by decide +kernel
theorem dX8_goesDown_5 : decode cX8_goesDown 5 = .ok (.iconst 0, 1) := by decide +kernel
theorem dX8_goesDown_6 : decode cX8_goesDown 6 = .ok (.istore_n 2, 1) := by decide +kernel
theorem dX8_goesDown_7 : decode cX8_goesDown 7 = .ok (.iload_n 2, 1) := by decide +kernel
theorem dX8_goesDown_8 : decode cX8_goesDown 8 = .ok (.aload_n 0, 1) := by decide +kernel
theorem dX8_goesDown_9 : decode cX8_goesDown 9 = .ok (.getfield 13, 3) := by decide +kernel
theorem dX8_goesDown_12 : decode cX8_goesDown 12 = .ok (.if_icmp .ge 85, 3) := by decide +kernel
theorem dX8_goesDown_15 : decode cX8_goesDown 15 = .ok (.aload_n 0, 1) := by decide +kernel
theorem dX8_goesDown_16 : decode cX8_goesDown 16 = .ok (.getfield 32, 3) := by decide +kernel
theorem dX8_goesDown_19 : decode cX8_goesDown 19 = .ok (.iload_n 2, 1) := by decide +kernel
theorem dX8_goesDown_20 : decode cX8_goesDown 20 = .ok (.iload_n 1, 1) := by decide +kernel
theorem dX8_goesDown_21 : decode cX8_goesDown 21 = .ok (.iastore, 1) := by decide +kernel
theorem dX8_goesDown_22 : decode cX8_goesDown 22 = .ok (.iload_n 2, 1) := by decide +kernel
theorem dX8_goesDown_23 : decode cX8_goesDown 23 = .ok (.aload_n 0, 1) := by decide +kernel
theorem dX8_goesDown_24 : decode cX8_goesDown 24 = .ok (.getfield 13, 3) := by decide +kernel
theorem dX8_goesDown_27 : decode cX8_goesDown 27 = .ok (.iconst 1, 1) := by decide +kernel
theorem dX8_goesDown_28 : decode cX8_goesDown 28 = .ok (.isub, 1) := by decide +kernel
theorem dX8_goesDown_29 : decode cX8_goesDown 29 = .ok (.if_icmp .ge 62, 3) := by decide +kernel
theorem dX8_goesDown_32 : decode cX8_goesDown 32 = .ok (.iconst 0, 1) := by decide +kernel
theorem dX8_goesDown_33 : decode cX8_goesDown 33 = .ok (.istore_n 3, 1) := by decide +kernel
theorem dX8_goesDown_34 : decode cX8_goesDown 34 = .ok (.iconst 3, 1) := by decide +kernel
theorem dX8_goesDown_35 : decode cX8_goesDown 35 = .ok (.istore 4, 2) := by decide +kernel
theorem dX8_goesDown_37 : decode cX8_goesDown 37 = .ok (.iload_n 3, 1) := by decide +kernel
theorem dX8_goesDown_38 : decode cX8_goesDown 38 = .ok (.aload_n 0, 1) := by decide +kernel
theorem dX8_goesDown_39 : decode cX8_goesDown 39 = .ok (.iload_n 1, 1) := by decide +kernel
theorem dX8_goesDown_40 : decode cX8_goesDown 40 = .ok (.iconst 1, 1) := by decide +kernel
theorem dX8_goesDown_41 : decode cX8_goesDown 41 = .ok (.invokevirtual 69, 3) := by decide +kernel
theorem dX8_goesDown_44 : decode cX8_goesDown 44 = .ok (.if_icmp .ge 33, 3) := by decide +kernel
theorem dX8_goesDown_47 : decode cX8_goesDown 47 = .ok (.aload_n 0, 1) := by decide +kernel
theorem dX8_goesDown_48 : decode cX8_goesDown 48 = .ok (.iload_n 1, 1) := by decide +kernel
theorem dX8_goesDown_49 : decode cX8_goesDown 49 = .ok (.iload 4, 2) := by decide +kernel
theorem dX8_goesDown_51 : decode cX8_goesDown 51 = .ok (.invokevirtual 121, 3) := by decide +kernel
theorem dX8_goesDown_54 : decode cX8_goesDown 54 = .ok (.ifCond .lt 23, 3) := by decide +kernel
theorem dX8_goesDown_57 : decode cX8_goesDown 57 = .ok (.iload 4, 2) := by decide +kernel
theorem dX8_goesDown_59 : decode cX8_goesDown 59 = .ok (.aload_n 0, 1) := by decide +kernel
theorem dX8_goesDown_60 : decode cX8_goesDown 60 = .ok (.iload_n 1, 1) := by decide +kernel
theorem dX8_goesDown_61 : decode cX8_goesDown 61 = .ok (.iload 4, 2) := by decide +kernel
theorem dX8_goesDown_63 : decode cX8_goesDown 63 = .ok (.invokevirtual 69, 3) := by decide +kernel
theorem dX8_goesDown_66 : decode cX8_goesDown 66 = .ok (.iconst 2, 1) := by decide +kernel
theorem dX8_goesDown_67 : decode cX8_goesDown 67 = .ok (.iadd, 1) := by decide +kernel
theorem dX8_goesDown_68 : decode cX8_goesDown 68 = .ok (.iadd, 1) := by decide +kernel
theorem dX8_goesDown_69 : decode cX8_goesDown 69 = .ok (.istore 4, 2) := by decide +kernel
theorem dX8_goesDown_71 : decode cX8_goesDown 71 = .ok (.iinc 3 1, 3) := by decide +kernel
theorem dX8_goesDown_74 : decode cX8_goesDown 74 = .ok (.goto (-37), 3) := by decide +kernel
theorem dX8_goesDown_77 : decode cX8_goesDown 77 = .ok (.aload_n 0, 1) := by decide +kernel
theorem dX8_goesDown_78 : decode cX8_goesDown 78 = .ok (.getfield 35, 3) := by decide +kernel
theorem dX8_goesDown_81 : decode cX8_goesDown 81 = .ok (.iload_n 2, 1) := by decide +kernel
theorem dX8_goesDown_82 : decode cX8_goesDown 82 = .ok (.iload_n 3, 1) := by decide +kernel
theorem dX8_goesDown_83 : decode cX8_goesDown 83 = .ok (.iastore, 1) := by decide +kernel
theorem dX8_goesDown_84 : decode cX8_goesDown 84 = .ok (.aload_n 0, 1) := by decide +kernel
theorem dX8_goesDown_85 : decode cX8_goesDown 85 = .ok (.iload_n 1, 1) := by decide +kernel
theorem dX8_goesDown_86 : decode cX8_goesDown 86 = .ok (.iload_n 3, 1) := by decide +kernel
theorem dX8_goesDown_87 : decode cX8_goesDown 87 = .ok (.invokevirtual 124, 3) := by decide +kernel
theorem dX8_goesDown_90 : decode cX8_goesDown 90 = .ok (.istore_n 1, 1) := by decide +kernel
theorem dX8_goesDown_91 : decode cX8_goesDown 91 = .ok (.iinc 2 1, 3) := by decide +kernel
theorem dX8_goesDown_94 : decode cX8_goesDown 94 = .ok (.goto (-87), 3) := by decide +kernel
theorem dX8_goesDown_97 : decode cX8_goesDown 97 = .ok (.return_, 1) := by decide +kernel
theorem dX8_placeIn_0 : decode cX8_placeIn 0 = .ok (.iconst 0, 1) := by decide +kernel
theorem dX8_placeIn_1 : decode cX8_placeIn 1 = .ok (.istore_n 2, 1) := by decide +kernel
theorem dX8_placeIn_2 : decode cX8_placeIn 2 = .ok (.iconst 3, 1) := by decide +kernel
theorem dX8_placeIn_3 : decode cX8_placeIn 3 = .ok (.istore_n 3, 1) := by decide +kernel
theorem dX8_placeIn_4 : decode cX8_placeIn 4 = .ok (.iload_n 2, 1) := by decide +kernel
theorem dX8_placeIn_5 : decode cX8_placeIn 5 = .ok (.aload_n 0, 1) := by decide +kernel
theorem dX8_placeIn_6 : decode cX8_placeIn 6 = .ok (.iload_n 1, 1) := by decide +kernel
theorem dX8_placeIn_7 : decode cX8_placeIn 7 = .ok (.iconst 1, 1) := by decide +kernel
theorem dX8_placeIn_8 : decode cX8_placeIn 8 = .ok (.invokevirtual 69, 3) := by decide +kernel
theorem dX8_placeIn_11 : decode cX8_placeIn 11 = .ok (.if_icmp .ge 29, 3) := by decide +kernel
theorem dX8_placeIn_14 : decode cX8_placeIn 14 = .ok (.aload_n 0, 1) := by decide +kernel
theorem dX8_placeIn_15 : decode cX8_placeIn 15 = .ok (.iload_n 1, 1) := by decide +kernel
theorem dX8_placeIn_16 : decode cX8_placeIn 16 = .ok (.iload_n 3, 1) := by decide +kernel
theorem dX8_placeIn_17 : decode cX8_placeIn 17 = .ok (.invokevirtual 121, 3) := by decide +kernel
theorem dX8_placeIn_20 : decode cX8_placeIn 20 = .ok (.ifCond .le 20, 3) := by decide +kernel
theorem dX8_placeIn_23 : decode cX8_placeIn 23 = .ok (.iload_n 3, 1) := by decide +kernel
theorem dX8_placeIn_24 : decode cX8_placeIn 24 = .ok (.aload_n 0, 1) := by decide +kernel
theorem dX8_placeIn_25 : decode cX8_placeIn 25 = .ok (.iload_n 1, 1) := by decide +kernel
theorem dX8_placeIn_26 : decode cX8_placeIn 26 = .ok (.iload_n 3, 1) := by decide +kernel
theorem dX8_placeIn_27 : decode cX8_placeIn 27 = .ok (.invokevirtual 69, 3) := by decide +kernel
theorem dX8_placeIn_30 : decode cX8_placeIn 30 = .ok (.iconst 2, 1) := by decide +kernel
theorem dX8_placeIn_31 : decode cX8_placeIn 31 = .ok (.iadd, 1) := by decide +kernel
theorem dX8_placeIn_32 : decode cX8_placeIn 32 = .ok (.iadd, 1) := by decide +kernel
theorem dX8_placeIn_33 : decode cX8_placeIn 33 = .ok (.istore_n 3, 1) := by decide +kernel
theorem dX8_placeIn_34 : decode cX8_placeIn 34 = .ok (.iinc 2 1, 3) := by decide +kernel
theorem dX8_placeIn_37 : decode cX8_placeIn 37 = .ok (.goto (-33), 3) := by decide +kernel
theorem dX8_placeIn_40 : decode cX8_placeIn 40 = .ok (.iload_n 2, 1) := by decide +kernel
theorem dX8_placeIn_41 : decode cX8_placeIn 41 = .ok (.ireturn, 1) := by decide +kernel
theorem dX8_isAt_0 : decode cX8_isAt 0 = .ok (.iload_n 2, 1) := by decide +kernel
theorem dX8_isAt_1 : decode cX8_isAt 1 = .ok (.aload_n 0, 1) := by decide +kernel
theorem dX8_isAt_2 : decode cX8_isAt 2 = .ok (.iload_n 1, 1) := by decide +kernel
theorem dX8_isAt_3 : decode cX8_isAt 3 = .ok (.iconst 1, 1) := by decide +kernel
theorem dX8_isAt_4 : decode cX8_isAt 4 = .ok (.invokevirtual 69, 3) := by decide +kernel
theorem dX8_isAt_7 : decode cX8_isAt 7 = .ok (.if_icmp .ge 21, 3) := by decide +kernel
theorem dX8_isAt_10 : decode cX8_isAt 10 = .ok (.aload_n 0, 1) := by decide +kernel
theorem dX8_isAt_11 : decode cX8_isAt 11 = .ok (.iload_n 1, 1) := by decide +kernel
theorem dX8_isAt_12 : decode cX8_isAt 12 = .ok (.aload_n 0, 1) := by decide +kernel
theorem dX8_isAt_13 : decode cX8_isAt 13 = .ok (.iload_n 1, 1) := by decide +kernel
theorem dX8_isAt_14 : decode cX8_isAt 14 = .ok (.iload_n 2, 1) := by decide +kernel
theorem dX8_isAt_15 : decode cX8_isAt 15 = .ok (.invokevirtual 73, 3) := by decide +kernel
theorem dX8_isAt_18 : decode cX8_isAt 18 = .ok (.invokevirtual 121, 3) := by decide +kernel
theorem dX8_isAt_21 : decode cX8_isAt 21 = .ok (.ifCond .ne 7, 3) := by decide +kernel
theorem dX8_isAt_24 : decode cX8_isAt 24 = .ok (.iconst 1, 1) := by decide +kernel
theorem dX8_isAt_25 : decode cX8_isAt 25 = .ok (.goto 4, 3) := by decide +kernel
theorem dX8_isAt_28 : decode cX8_isAt 28 = .ok (.iconst 0, 1) := by decide +kernel
theorem dX8_isAt_29 : decode cX8_isAt 29 = .ok (.ireturn, 1) := by decide +kernel
theorem dX8_tellAt_0 : decode cX8_tellAt 0 = .ok (.aload_n 0, 1) := by decide +kernel
theorem dX8_tellAt_1 : decode cX8_tellAt 1 = .ok (.iload_n 1, 1) := by decide +kernel
theorem dX8_tellAt_2 : decode cX8_tellAt 2 = .ok (.iload_n 2, 1) := by decide +kernel
theorem dX8_tellAt_3 : decode cX8_tellAt 3 = .ok (.invokevirtual 73, 3) := by decide +kernel
theorem dX8_tellAt_6 : decode cX8_tellAt 6 = .ok (.istore_n 3, 1) := by decide +kernel
theorem dX8_tellAt_7 : decode cX8_tellAt 7 = .ok (.bipush 64, 2) := by decide +kernel
theorem dX8_tellAt_9 : decode cX8_tellAt 9 = .ok (.iload_n 1, 1) := by decide +kernel
theorem dX8_tellAt_10 : decode cX8_tellAt 10 = .ok (.imul, 1) := by decide +kernel
theorem dX8_tellAt_11 : decode cX8_tellAt 11 = .ok (.iload_n 3, 1) := by decide +kernel
theorem dX8_tellAt_12 : decode cX8_tellAt 12 = .ok (.iadd, 1) := by decide +kernel
theorem dX8_tellAt_13 : decode cX8_tellAt 13 = .ok (.aload_n 0, 1) := by decide +kernel
theorem dX8_tellAt_14 : decode cX8_tellAt 14 = .ok (.iload_n 1, 1) := by decide +kernel
theorem dX8_tellAt_15 : decode cX8_tellAt 15 = .ok (.iload_n 3, 1) := by decide +kernel
theorem dX8_tellAt_16 : decode cX8_tellAt 16 = .ok (.invokevirtual 69, 3) := by decide +kernel
theorem dX8_tellAt_19 : decode cX8_tellAt 19 = .ok (.iadd, 1) := by decide +kernel
theorem dX8_tellAt_20 : decode cX8_tellAt 20 = .ok (.iconst 1, 1) := by decide +kernel
theorem dX8_tellAt_21 : decode cX8_tellAt 21 = .ok (.iadd, 1) := by decide +kernel
theorem dX8_tellAt_22 : decode cX8_tellAt 22 = .ok (.ireturn, 1) := by decide +kernel
theorem dX8_valueOf_0 : decode cX8_valueOf 0 = .ok (.aload_n 0, 1) := by decide +kernel
theorem dX8_valueOf_1 : decode cX8_valueOf 1 = .ok (.invokevirtual 127, 3) := by decide +kernel
theorem dX8_valueOf_4 : decode cX8_valueOf 4 = .ok (.aload_n 0, 1) := by decide +kernel
theorem dX8_valueOf_5 : decode cX8_valueOf 5 = .ok (.getfield 32, 3) := by decide +kernel
theorem dX8_valueOf_8 : decode cX8_valueOf 8 = .ok (.aload_n 0, 1) := by decide +kernel
theorem dX8_valueOf_9 : decode cX8_valueOf 9 = .ok (.getfield 13, 3) := by decide +kernel
theorem dX8_valueOf_12 : decode cX8_valueOf 12 = .ok (.iconst 1, 1) := by decide +kernel
theorem dX8_valueOf_13 : decode cX8_valueOf 13 = .ok (.isub, 1) := by decide +kernel
theorem dX8_valueOf_14 : decode cX8_valueOf 14 = .ok (.iaload, 1) := by decide +kernel
theorem dX8_valueOf_15 : decode cX8_valueOf 15 = .ok (.istore_n 1, 1) := by decide +kernel
theorem dX8_valueOf_16 : decode cX8_valueOf 16 = .ok (.aload_n 0, 1) := by decide +kernel
theorem dX8_valueOf_17 : decode cX8_valueOf 17 = .ok (.iload_n 1, 1) := by decide +kernel
theorem dX8_valueOf_18 : decode cX8_valueOf 18 = .ok (.invokevirtual 130, 3) := by decide +kernel
theorem dX8_valueOf_21 : decode cX8_valueOf 21 = .ok (.istore_n 2, 1) := by decide +kernel
theorem dX8_valueOf_22 : decode cX8_valueOf 22 = .ok (.aload_n 0, 1) := by decide +kernel
theorem dX8_valueOf_23 : decode cX8_valueOf 23 = .ok (.iload_n 1, 1) := by decide +kernel
theorem dX8_valueOf_24 : decode cX8_valueOf 24 = .ok (.iload_n 2, 1) := by decide +kernel
theorem dX8_valueOf_25 : decode cX8_valueOf 25 = .ok (.invokevirtual 133, 3) := by decide +kernel
theorem dX8_valueOf_28 : decode cX8_valueOf 28 = .ok (.ifCond .eq 17, 3) := by decide +kernel
theorem dX8_valueOf_31 : decode cX8_valueOf 31 = .ok (.aload_n 0, 1) := by decide +kernel
theorem dX8_valueOf_32 : decode cX8_valueOf 32 = .ok (.getfield 7, 3) := by decide +kernel
theorem dX8_valueOf_35 : decode cX8_valueOf 35 = .ok (.aload_n 0, 1) := by decide +kernel
theorem dX8_valueOf_36 : decode cX8_valueOf 36 = .ok (.iload_n 1, 1) := by decide +kernel
theorem dX8_valueOf_37 : decode cX8_valueOf 37 = .ok (.iload_n 2, 1) := by decide +kernel
theorem dX8_valueOf_38 : decode cX8_valueOf 38 = .ok (.invokevirtual 137, 3) := by decide +kernel
theorem dX8_valueOf_41 : decode cX8_valueOf 41 = .ok (.iaload, 1) := by decide +kernel
theorem dX8_valueOf_42 : decode cX8_valueOf 42 = .ok (.goto 5, 3) := by decide +kernel
theorem dX8_valueOf_45 : decode cX8_valueOf 45 = .ok (.bipush (-9), 2) := by decide +kernel
theorem dX8_valueOf_47 : decode cX8_valueOf 47 = .ok (.ireturn, 1) := by decide +kernel
theorem dX8_putKey_0 : decode cX8_putKey 0 = .ok (.aload_n 0, 1) := by decide +kernel
theorem dX8_putKey_1 : decode cX8_putKey 1 = .ok (.invokevirtual 127, 3) := by decide +kernel
theorem dX8_putKey_4 : decode cX8_putKey 4 = .ok (.aload_n 0, 1) := by decide +kernel
theorem dX8_putKey_5 : decode cX8_putKey 5 = .ok (.getfield 13, 3) := by decide +kernel
theorem dX8_putKey_8 : decode cX8_putKey 8 = .ok (.iconst 1, 1) := by decide +kernel
theorem dX8_putKey_9 : decode cX8_putKey 9 = .ok (.isub, 1) := by decide +kernel
theorem dX8_putKey_10 : decode cX8_putKey 10 = .ok (.istore_n 2, 1) := by decide +kernel
theorem dX8_putKey_11 : decode cX8_putKey 11 = .ok (.aload_n 0, 1) := by decide +kernel
theorem dX8_putKey_12 : decode cX8_putKey 12 = .ok (.getfield 32, 3) := by decide +kernel
theorem dX8_putKey_15 : decode cX8_putKey 15 = .ok (.iload_n 2, 1) := by decide +kernel
theorem dX8_putKey_16 : decode cX8_putKey 16 = .ok (.iaload, 1) := by decide +kernel
theorem dX8_putKey_17 : decode cX8_putKey 17 = .ok (.istore_n 3, 1) := by decide +kernel
theorem dX8_putKey_18 : decode cX8_putKey 18 = .ok (.aload_n 0, 1) := by decide +kernel
theorem dX8_putKey_19 : decode cX8_putKey 19 = .ok (.iload_n 3, 1) := by decide +kernel
theorem dX8_putKey_20 : decode cX8_putKey 20 = .ok (.invokevirtual 130, 3) := by decide +kernel
theorem dX8_putKey_23 : decode cX8_putKey 23 = .ok (.istore 4, 2) := by decide +kernel
theorem dX8_putKey_25 : decode cX8_putKey 25 = .ok (.aload_n 0, 1) := by decide +kernel
theorem dX8_putKey_26 : decode cX8_putKey 26 = .ok (.iload_n 3, 1) := by decide +kernel
theorem dX8_putKey_27 : decode cX8_putKey 27 = .ok (.iload 4, 2) := by decide +kernel
theorem dX8_putKey_29 : decode cX8_putKey 29 = .ok (.invokevirtual 133, 3) := by decide +kernel
theorem dX8_putKey_32 : decode cX8_putKey 32 = .ok (.ifCond .eq 33, 3) := by decide +kernel
theorem dX8_putKey_35 : decode cX8_putKey 35 = .ok (.aload_n 0, 1) := by decide +kernel
theorem dX8_putKey_36 : decode cX8_putKey 36 = .ok (.getfield 7, 3) := by decide +kernel
theorem dX8_putKey_39 : decode cX8_putKey 39 = .ok (.aload_n 0, 1) := by decide +kernel
theorem dX8_putKey_40 : decode cX8_putKey 40 = .ok (.iload_n 3, 1) := by decide +kernel
theorem dX8_putKey_41 : decode cX8_putKey 41 = .ok (.iload 4, 2) := by decide +kernel
theorem dX8_putKey_43 : decode cX8_putKey 43 = .ok (.invokevirtual 137, 3) := by decide +kernel
theorem dX8_putKey_46 : decode cX8_putKey 46 = .ok (.iaload, 1) := by decide +kernel
theorem dX8_putKey_47 : decode cX8_putKey 47 = .ok (.istore 5, 2) := by decide +kernel
theorem dX8_putKey_49 : decode cX8_putKey 49 = .ok (.aload_n 0, 1) := by decide +kernel
theorem dX8_putKey_50 : decode cX8_putKey 50 = .ok (.getfield 7, 3) := by decide +kernel
theorem dX8_putKey_53 : decode cX8_putKey 53 = .ok (.aload_n 0, 1) := by decide +kernel
theorem dX8_putKey_54 : decode cX8_putKey 54 = .ok (.iload_n 3, 1) := by decide +kernel
theorem dX8_putKey_55 : decode cX8_putKey 55 = .ok (.iload 4, 2) := by decide +kernel
theorem dX8_putKey_57 : decode cX8_putKey 57 = .ok (.invokevirtual 137, 3) := by decide +kernel
theorem dX8_putKey_60 : decode cX8_putKey 60 = .ok (.iload_n 1, 1) := by decide +kernel
theorem dX8_putKey_61 : decode cX8_putKey 61 = .ok (.iastore, 1) := by decide +kernel
theorem dX8_putKey_62 : decode cX8_putKey 62 = .ok (.iload 5, 2) := by decide +kernel
theorem dX8_putKey_64 : decode cX8_putKey 64 = .ok (.ireturn, 1) := by decide +kernel
theorem dX8_putKey_65 : decode cX8_putKey 65 = .ok (.aload_n 0, 1) := by decide +kernel
theorem dX8_putKey_66 : decode cX8_putKey 66 = .ok (.invokevirtual 140, 3) := by decide +kernel
theorem dX8_putKey_69 : decode cX8_putKey 69 = .ok (.aload_n 0, 1) := by decide +kernel
theorem dX8_putKey_70 : decode cX8_putKey 70 = .ok (.getfield 13, 3) := by decide +kernel
theorem dX8_putKey_73 : decode cX8_putKey 73 = .ok (.if_icmp .gt 6, 3) := by decide +kernel
theorem dX8_putKey_76 : decode cX8_putKey 76 = .ok (.bipush (-3), 2) := by decide +kernel
theorem dX8_putKey_78 : decode cX8_putKey 78 = .ok (.ireturn, 1) := by decide +kernel
theorem dX8_putKey_79 : decode cX8_putKey 79 = .ok (.aload_n 0, 1) := by decide +kernel
theorem dX8_putKey_80 : decode cX8_putKey 80 = .ok (.iconst 0, 1) := by decide +kernel
theorem dX8_putKey_81 : decode cX8_putKey 81 = .ok (.putfield 76, 3) := by decide +kernel
theorem dX8_putKey_84 : decode cX8_putKey 84 = .ok (.aload_n 0, 1) := by decide +kernel
theorem dX8_putKey_85 : decode cX8_putKey 85 = .ok (.iload_n 3, 1) := by decide +kernel
theorem dX8_putKey_86 : decode cX8_putKey 86 = .ok (.invokevirtual 143, 3) := by decide +kernel
theorem dX8_putKey_89 : decode cX8_putKey 89 = .ok (.aload_n 0, 1) := by decide +kernel
theorem dX8_putKey_90 : decode cX8_putKey 90 = .ok (.iload 4, 2) := by decide +kernel
theorem dX8_putKey_92 : decode cX8_putKey 92 = .ok (.aload_n 0, 1) := by decide +kernel
theorem dX8_putKey_93 : decode cX8_putKey 93 = .ok (.getfield 29, 3) := by decide +kernel
theorem dX8_putKey_96 : decode cX8_putKey 96 = .ok (.aload_n 0, 1) := by decide +kernel
theorem dX8_putKey_97 : decode cX8_putKey 97 = .ok (.getfield 111, 3) := by decide +kernel
theorem dX8_putKey_100 : decode cX8_putKey 100 = .ok (.iload_n 1, 1) := by decide +kernel
theorem dX8_putKey_101 : decode cX8_putKey 101 = .ok (.invokevirtual 146, 3) := by decide +kernel
theorem dX8_putKey_104 : decode cX8_putKey 104 = .ok (.aload_n 0, 1) := by decide +kernel
theorem dX8_putKey_105 : decode cX8_putKey 105 = .ok (.iconst 0, 1) := by decide +kernel
theorem dX8_putKey_106 : decode cX8_putKey 106 = .ok (.aload_n 0, 1) := by decide +kernel
theorem dX8_putKey_107 : decode cX8_putKey 107 = .ok (.getfield 76, 3) := by decide +kernel
theorem dX8_putKey_110 : decode cX8_putKey 110 = .ok (.invokevirtual 87, 3) := by decide +kernel
theorem dX8_putKey_113 : decode cX8_putKey 113 = .ok (.bipush 61, 2) := by decide +kernel
theorem dX8_putKey_115 : decode cX8_putKey 115 = .ok (.if_icmp .le 105, 3) := by decide +kernel
theorem dX8_putKey_118 : decode cX8_putKey 118 = .ok (.aload_n 0, 1) := by decide +kernel
theorem dX8_putKey_119 : decode cX8_putKey 119 = .ok (.iload_n 3, 1) := by decide +kernel
theorem dX8_putKey_120 : decode cX8_putKey 120 = .ok (.iconst 0, 1) := by decide +kernel
theorem dX8_putKey_121 : decode cX8_putKey 121 = .ok (.invokevirtual 69, 3) := by decide +kernel
theorem dX8_putKey_124 : decode cX8_putKey 124 = .ok (.istore 5, 2) := by decide +kernel
theorem dX8_putKey_126 : decode cX8_putKey 126 = .ok (.aload_n 0, 1) := by decide +kernel
theorem dX8_putKey_127 : decode cX8_putKey 127 = .ok (.invokevirtual 150, 3) := by decide +kernel
theorem dX8_putKey_130 : decode cX8_putKey 130 = .ok (.istore 6, 2) := by decide +kernel
theorem dX8_putKey_132 : decode cX8_putKey 132 = .ok (.aload_n 0, 1) := by decide +kernel
theorem dX8_putKey_133 : decode cX8_putKey 133 = .ok (.iload_n 3, 1) := by decide +kernel
theorem dX8_putKey_134 : decode cX8_putKey 134 = .ok (.iload 6, 2) := by decide +kernel
theorem dX8_putKey_136 : decode cX8_putKey 136 = .ok (.iload 5, 2) := by decide +kernel
theorem dX8_putKey_138 : decode cX8_putKey 138 = .ok (.aload_n 0, 1) := by decide +kernel
theorem dX8_putKey_139 : decode cX8_putKey 139 = .ok (.iload_n 3, 1) := by decide +kernel
theorem dX8_putKey_140 : decode cX8_putKey 140 = .ok (.iconst 2, 1) := by decide +kernel
theorem dX8_putKey_141 : decode cX8_putKey 141 = .ok (.invokevirtual 69, 3) := by decide +kernel
theorem dX8_putKey_144 : decode cX8_putKey 144 = .ok (.aload_n 0, 1) := by decide +kernel
theorem dX8_putKey_145 : decode cX8_putKey 145 = .ok (.iload_n 3, 1) := by decide +kernel
theorem dX8_putKey_146 : decode cX8_putKey 146 = .ok (.iconst 2, 1) := by decide +kernel
theorem dX8_putKey_147 : decode cX8_putKey 147 = .ok (.invokevirtual 69, 3) := by decide +kernel
theorem dX8_putKey_150 : decode cX8_putKey 150 = .ok (.invokevirtual 153, 3) := by decide +kernel
theorem dX8_putKey_153 : decode cX8_putKey 153 = .ok (.aload_n 0, 1) := by decide +kernel
theorem dX8_putKey_154 : decode cX8_putKey 154 = .ok (.dup, 1) := by decide +kernel
theorem dX8_putKey_155 : decode cX8_putKey 155 = .ok (.getfield 156, 3) := by decide +kernel
theorem dX8_putKey_158 : decode cX8_putKey 158 = .ok (.iconst 1, 1) := by decide +kernel
theorem dX8_putKey_159 : decode cX8_putKey 159 = .ok (.iadd, 1) := by decide +kernel
theorem dX8_putKey_160 : decode cX8_putKey 160 = .ok (.putfield 156, 3) := by decide +kernel
theorem dX8_putKey_163 : decode cX8_putKey 163 = .ok (.iload_n 2, 1) := by decide +kernel
theorem dX8_putKey_164 : decode cX8_putKey 164 = .ok (.ifCond .ne 13, 3) := by decide +kernel
theorem dX8_putKey_167 : decode cX8_putKey 167 = .ok (.aload_n 0, 1) := by decide +kernel
theorem dX8_putKey_168 : decode cX8_putKey 168 = .ok (.iload_n 3, 1) := by decide +kernel
theorem dX8_putKey_169 : decode cX8_putKey 169 = .ok (.iload 6, 2) := by decide +kernel
theorem dX8_putKey_171 : decode cX8_putKey 171 = .ok (.invokevirtual 159, 3) := by decide +kernel
theorem dX8_putKey_174 : decode cX8_putKey 174 = .ok (.bipush (-9), 2) := by decide +kernel
theorem dX8_putKey_176 : decode cX8_putKey 176 = .ok (.ireturn, 1) := by decide +kernel
theorem dX8_putKey_177 : decode cX8_putKey 177 = .ok (.iinc 2 (-1), 3) := by decide +kernel
theorem dX8_putKey_180 : decode cX8_putKey 180 = .ok (.aload_n 0, 1) := by decide +kernel
theorem dX8_putKey_181 : decode cX8_putKey 181 = .ok (.getfield 32, 3) := by decide +kernel
theorem dX8_putKey_184 : decode cX8_putKey 184 = .ok (.iload_n 2, 1) := by decide +kernel
theorem dX8_putKey_185 : decode cX8_putKey 185 = .ok (.iaload, 1) := by decide +kernel
theorem dX8_putKey_186 : decode cX8_putKey 186 = .ok (.istore_n 3, 1) := by decide +kernel
theorem dX8_putKey_187 : decode cX8_putKey 187 = .ok (.aload_n 0, 1) := by decide +kernel
theorem dX8_putKey_188 : decode cX8_putKey 188 = .ok (.iconst 0, 1) := by decide +kernel
theorem dX8_putKey_189 : decode cX8_putKey 189 = .ok (.putfield 76, 3) := by decide +kernel
theorem dX8_putKey_192 : decode cX8_putKey 192 = .ok (.aload_n 0, 1) := by decide +kernel
theorem dX8_putKey_193 : decode cX8_putKey 193 = .ok (.iload_n 3, 1) := by decide +kernel
theorem dX8_putKey_194 : decode cX8_putKey 194 = .ok (.invokevirtual 143, 3) := by decide +kernel
theorem dX8_putKey_197 : decode cX8_putKey 197 = .ok (.aload_n 0, 1) := by decide +kernel
theorem dX8_putKey_198 : decode cX8_putKey 198 = .ok (.aload_n 0, 1) := by decide +kernel
theorem dX8_putKey_199 : decode cX8_putKey 199 = .ok (.getfield 35, 3) := by decide +kernel
theorem dX8_putKey_202 : decode cX8_putKey 202 = .ok (.iload_n 2, 1) := by decide +kernel
theorem dX8_putKey_203 : decode cX8_putKey 203 = .ok (.iaload, 1) := by decide +kernel
theorem dX8_putKey_204 : decode cX8_putKey 204 = .ok (.aload_n 0, 1) := by decide +kernel
theorem dX8_putKey_205 : decode cX8_putKey 205 = .ok (.getfield 26, 3) := by decide +kernel
theorem dX8_putKey_208 : decode cX8_putKey 208 = .ok (.aload_n 0, 1) := by decide +kernel
theorem dX8_putKey_209 : decode cX8_putKey 209 = .ok (.getfield 90, 3) := by decide +kernel
theorem dX8_putKey_212 : decode cX8_putKey 212 = .ok (.iload 6, 2) := by decide +kernel
theorem dX8_putKey_214 : decode cX8_putKey 214 = .ok (.invokevirtual 146, 3) := by decide +kernel
theorem dX8_putKey_217 : decode cX8_putKey 217 = .ok (.goto (-113), 3) := by decide +kernel
theorem dX8_putKey_220 : decode cX8_putKey 220 = .ok (.aload_n 0, 1) := by decide +kernel
theorem dX8_putKey_221 : decode cX8_putKey 221 = .ok (.iload_n 3, 1) := by decide +kernel
theorem dX8_putKey_222 : decode cX8_putKey 222 = .ok (.aload_n 0, 1) := by decide +kernel
theorem dX8_putKey_223 : decode cX8_putKey 223 = .ok (.iload_n 3, 1) := by decide +kernel
theorem dX8_putKey_224 : decode cX8_putKey 224 = .ok (.iconst 0, 1) := by decide +kernel
theorem dX8_putKey_225 : decode cX8_putKey 225 = .ok (.invokevirtual 69, 3) := by decide +kernel
theorem dX8_putKey_228 : decode cX8_putKey 228 = .ok (.aload_n 0, 1) := by decide +kernel
theorem dX8_putKey_229 : decode cX8_putKey 229 = .ok (.iload_n 3, 1) := by decide +kernel
theorem dX8_putKey_230 : decode cX8_putKey 230 = .ok (.iconst 2, 1) := by decide +kernel
theorem dX8_putKey_231 : decode cX8_putKey 231 = .ok (.invokevirtual 69, 3) := by decide +kernel
theorem dX8_putKey_234 : decode cX8_putKey 234 = .ok (.iconst 0, 1) := by decide +kernel
theorem dX8_putKey_235 : decode cX8_putKey 235 = .ok (.aload_n 0, 1) := by decide +kernel
theorem dX8_putKey_236 : decode cX8_putKey 236 = .ok (.getfield 76, 3) := by decide +kernel
theorem dX8_putKey_239 : decode cX8_putKey 239 = .ok (.invokevirtual 107, 3) := by decide +kernel
theorem dX8_putKey_242 : decode cX8_putKey 242 = .ok (.bipush (-9), 2) := by decide +kernel
theorem dX8_putKey_244 : decode cX8_putKey 244 = .ok (.ireturn, 1) := by decide +kernel
theorem dX8_newRoot_0 : decode cX8_newRoot 0 = .ok (.aload_n 0, 1) := by decide +kernel
theorem dX8_newRoot_1 : decode cX8_newRoot 1 = .ok (.aload_n 0, 1) := by decide +kernel
theorem dX8_newRoot_2 : decode cX8_newRoot 2 = .ok (.invokevirtual 150, 3) := by decide +kernel
theorem dX8_newRoot_5 : decode cX8_newRoot 5 = .ok (.putfield 118, 3) := by decide +kernel
theorem dX8_newRoot_8 : decode cX8_newRoot 8 = .ok (.aload_n 0, 1) := by decide +kernel
theorem dX8_newRoot_9 : decode cX8_newRoot 9 = .ok (.dup, 1) := by decide +kernel
theorem dX8_newRoot_10 : decode cX8_newRoot 10 = .ok (.getfield 13, 3) := by decide +kernel
theorem dX8_newRoot_13 : decode cX8_newRoot 13 = .ok (.iconst 1, 1) := by decide +kernel
theorem dX8_newRoot_14 : decode cX8_newRoot 14 = .ok (.iadd, 1) := by decide +kernel
theorem dX8_newRoot_15 : decode cX8_newRoot 15 = .ok (.putfield 13, 3) := by decide +kernel
theorem dX8_newRoot_18 : decode cX8_newRoot 18 = .ok (.aload_n 0, 1) := by decide +kernel
theorem dX8_newRoot_19 : decode cX8_newRoot 19 = .ok (.iconst 0, 1) := by decide +kernel
theorem dX8_newRoot_20 : decode cX8_newRoot 20 = .ok (.putfield 76, 3) := by decide +kernel
theorem dX8_newRoot_23 : decode cX8_newRoot 23 = .ok (.aload_n 0, 1) := by decide +kernel
theorem dX8_newRoot_24 : decode cX8_newRoot 24 = .ok (.iconst 0, 1) := by decide +kernel
theorem dX8_newRoot_25 : decode cX8_newRoot 25 = .ok (.aload_n 0, 1) := by decide +kernel
theorem dX8_newRoot_26 : decode cX8_newRoot 26 = .ok (.getfield 26, 3) := by decide +kernel
theorem dX8_newRoot_29 : decode cX8_newRoot 29 = .ok (.aload_n 0, 1) := by decide +kernel
theorem dX8_newRoot_30 : decode cX8_newRoot 30 = .ok (.getfield 90, 3) := by decide +kernel
theorem dX8_newRoot_33 : decode cX8_newRoot 33 = .ok (.iload_n 2, 1) := by decide +kernel
theorem dX8_newRoot_34 : decode cX8_newRoot 34 = .ok (.invokevirtual 146, 3) := by decide +kernel
theorem dX8_newRoot_37 : decode cX8_newRoot 37 = .ok (.aload_n 0, 1) := by decide +kernel
theorem dX8_newRoot_38 : decode cX8_newRoot 38 = .ok (.aload_n 0, 1) := by decide +kernel
theorem dX8_newRoot_39 : decode cX8_newRoot 39 = .ok (.getfield 118, 3) := by decide +kernel
theorem dX8_newRoot_42 : decode cX8_newRoot 42 = .ok (.iconst 2, 1) := by decide +kernel
theorem dX8_newRoot_43 : decode cX8_newRoot 43 = .ok (.iload_n 1, 1) := by decide +kernel
theorem dX8_newRoot_44 : decode cX8_newRoot 44 = .ok (.iconst 0, 1) := by decide +kernel
theorem dX8_newRoot_45 : decode cX8_newRoot 45 = .ok (.iconst 1, 1) := by decide +kernel
theorem dX8_newRoot_46 : decode cX8_newRoot 46 = .ok (.invokevirtual 107, 3) := by decide +kernel
theorem dX8_newRoot_49 : decode cX8_newRoot 49 = .ok (.return_, 1) := by decide +kernel
theorem dX8_put_0 : decode cX8_put 0 = .ok (.iload_n 1, 1) := by decide +kernel
theorem dX8_put_1 : decode cX8_put 1 = .ok (.iload_n 2, 1) := by decide +kernel
theorem dX8_put_2 : decode cX8_put 2 = .ok (.invokestatic 162, 3) := by decide +kernel
theorem dX8_put_5 : decode cX8_put 5 = .ok (.ifCond .eq 14, 3) := by decide +kernel
theorem dX8_put_8 : decode cX8_put 8 = .ok (.iload_n 3, 1) := by decide +kernel
theorem dX8_put_9 : decode cX8_put 9 = .ok (.iconst 0, 1) := by decide +kernel
theorem dX8_put_10 : decode cX8_put 10 = .ok (.sipush 255, 3) := by decide +kernel
theorem dX8_put_13 : decode cX8_put 13 = .ok (.invokestatic 114, 3) := by decide +kernel
theorem dX8_put_16 : decode cX8_put 16 = .ok (.ifCond .ne 5, 3) := by decide +kernel
theorem dX8_put_19 : decode cX8_put 19 = .ok (.iconst (-1), 1) := by decide +kernel
theorem dX8_put_20 : decode cX8_put 20 = .ok (.ireturn, 1) := by decide +kernel
theorem dX8_put_21 : decode cX8_put 21 = .ok (.aload_n 0, 1) := by decide +kernel
theorem dX8_put_22 : decode cX8_put 22 = .ok (.iload_n 1, 1) := by decide +kernel
theorem dX8_put_23 : decode cX8_put 23 = .ok (.iload_n 2, 1) := by decide +kernel
theorem dX8_put_24 : decode cX8_put 24 = .ok (.invokevirtual 165, 3) := by decide +kernel
theorem dX8_put_27 : decode cX8_put 27 = .ok (.aload_n 0, 1) := by decide +kernel
theorem dX8_put_28 : decode cX8_put 28 = .ok (.iload_n 3, 1) := by decide +kernel
theorem dX8_put_29 : decode cX8_put 29 = .ok (.invokevirtual 168, 3) := by decide +kernel
theorem dX8_put_32 : decode cX8_put 32 = .ok (.ireturn, 1) := by decide +kernel
theorem dX8_takeKey_0 : decode cX8_takeKey 0 = .ok (.aload_n 0, 1) := by decide +kernel
theorem dX8_takeKey_1 : decode cX8_takeKey 1 = .ok (.invokevirtual 127, 3) := by decide +kernel
theorem dX8_takeKey_4 : decode cX8_takeKey 4 = .ok (.aload_n 0, 1) := by decide +kernel
theorem dX8_takeKey_5 : decode cX8_takeKey 5 = .ok (.getfield 13, 3) := by decide +kernel
theorem dX8_takeKey_8 : decode cX8_takeKey 8 = .ok (.iconst 1, 1) := by decide +kernel
theorem dX8_takeKey_9 : decode cX8_takeKey 9 = .ok (.isub, 1) := by decide +kernel
theorem dX8_takeKey_10 : decode cX8_takeKey 10 = .ok (.istore_n 1, 1) := by decide +kernel
theorem dX8_takeKey_11 : decode cX8_takeKey 11 = .ok (.aload_n 0, 1) := by decide +kernel
theorem dX8_takeKey_12 : decode cX8_takeKey 12 = .ok (.getfield 32, 3) := by decide +kernel
theorem dX8_takeKey_15 : decode cX8_takeKey 15 = .ok (.iload_n 1, 1) := by decide +kernel
theorem dX8_takeKey_16 : decode cX8_takeKey 16 = .ok (.iaload, 1) := by decide +kernel
theorem dX8_takeKey_17 : decode cX8_takeKey 17 = .ok (.istore_n 2, 1) := by decide +kernel
theorem dX8_takeKey_18 : decode cX8_takeKey 18 = .ok (.aload_n 0, 1) := by decide +kernel
theorem dX8_takeKey_19 : decode cX8_takeKey 19 = .ok (.iload_n 2, 1) := by decide +kernel
theorem dX8_takeKey_20 : decode cX8_takeKey 20 = .ok (.invokevirtual 130, 3) := by decide +kernel
theorem dX8_takeKey_23 : decode cX8_takeKey 23 = .ok (.istore_n 3, 1) := by decide +kernel
theorem dX8_takeKey_24 : decode cX8_takeKey 24 = .ok (.aload_n 0, 1) := by decide +kernel
theorem dX8_takeKey_25 : decode cX8_takeKey 25 = .ok (.iload_n 2, 1) := by decide +kernel
theorem dX8_takeKey_26 : decode cX8_takeKey 26 = .ok (.iload_n 3, 1) := by decide +kernel
theorem dX8_takeKey_27 : decode cX8_takeKey 27 = .ok (.invokevirtual 133, 3) := by decide +kernel
theorem dX8_takeKey_30 : decode cX8_takeKey 30 = .ok (.ifCond .ne 6, 3) := by decide +kernel
theorem dX8_takeKey_33 : decode cX8_takeKey 33 = .ok (.bipush (-9), 2) := by decide +kernel
theorem dX8_takeKey_35 : decode cX8_takeKey 35 = .ok (.ireturn, 1) := by decide +kernel
theorem dX8_takeKey_36 : decode cX8_takeKey 36 = .ok (.aload_n 0, 1) := by decide +kernel
theorem dX8_takeKey_37 : decode cX8_takeKey 37 = .ok (.getfield 7, 3) := by decide +kernel
theorem dX8_takeKey_40 : decode cX8_takeKey 40 = .ok (.aload_n 0, 1) := by decide +kernel
theorem dX8_takeKey_41 : decode cX8_takeKey 41 = .ok (.iload_n 2, 1) := by decide +kernel
theorem dX8_takeKey_42 : decode cX8_takeKey 42 = .ok (.iload_n 3, 1) := by decide +kernel
theorem dX8_takeKey_43 : decode cX8_takeKey 43 = .ok (.invokevirtual 137, 3) := by decide +kernel
theorem dX8_takeKey_46 : decode cX8_takeKey 46 = .ok (.iaload, 1) := by decide +kernel
theorem dX8_takeKey_47 : decode cX8_takeKey 47 = .ok (.istore 4, 2) := by decide +kernel
theorem dX8_takeKey_49 : decode cX8_takeKey 49 = .ok (.aload_n 0, 1) := by decide +kernel
theorem dX8_takeKey_50 : decode cX8_takeKey 50 = .ok (.iconst 0, 1) := by decide +kernel
theorem dX8_takeKey_51 : decode cX8_takeKey 51 = .ok (.putfield 76, 3) := by decide +kernel
theorem dX8_takeKey_54 : decode cX8_takeKey 54 = .ok (.aload_n 0, 1) := by decide +kernel
theorem dX8_takeKey_55 : decode cX8_takeKey 55 = .ok (.iload_n 2, 1) := by decide +kernel
theorem dX8_takeKey_56 : decode cX8_takeKey 56 = .ok (.invokevirtual 143, 3) := by decide +kernel
theorem dX8_takeKey_59 : decode cX8_takeKey 59 = .ok (.aload_n 0, 1) := by decide +kernel
theorem dX8_takeKey_60 : decode cX8_takeKey 60 = .ok (.iload_n 3, 1) := by decide +kernel
theorem dX8_takeKey_61 : decode cX8_takeKey 61 = .ok (.invokevirtual 171, 3) := by decide +kernel
theorem dX8_takeKey_64 : decode cX8_takeKey 64 = .ok (.aload_n 0, 1) := by decide +kernel
theorem dX8_takeKey_65 : decode cX8_takeKey 65 = .ok (.iload_n 2, 1) := by decide +kernel
theorem dX8_takeKey_66 : decode cX8_takeKey 66 = .ok (.iconst 1, 1) := by decide +kernel
theorem dX8_takeKey_67 : decode cX8_takeKey 67 = .ok (.aload_n 0, 1) := by decide +kernel
theorem dX8_takeKey_68 : decode cX8_takeKey 68 = .ok (.iload_n 2, 1) := by decide +kernel
theorem dX8_takeKey_69 : decode cX8_takeKey 69 = .ok (.iconst 2, 1) := by decide +kernel
theorem dX8_takeKey_70 : decode cX8_takeKey 70 = .ok (.invokevirtual 69, 3) := by decide +kernel
theorem dX8_takeKey_73 : decode cX8_takeKey 73 = .ok (.iconst 0, 1) := by decide +kernel
theorem dX8_takeKey_74 : decode cX8_takeKey 74 = .ok (.aload_n 0, 1) := by decide +kernel
theorem dX8_takeKey_75 : decode cX8_takeKey 75 = .ok (.getfield 76, 3) := by decide +kernel
theorem dX8_takeKey_78 : decode cX8_takeKey 78 = .ok (.invokevirtual 107, 3) := by decide +kernel
theorem dX8_takeKey_81 : decode cX8_takeKey 81 = .ok (.iload_n 1, 1) := by decide +kernel
theorem dX8_takeKey_82 : decode cX8_takeKey 82 = .ok (.ifCond .le 32, 3) := by decide +kernel
theorem dX8_takeKey_85 : decode cX8_takeKey 85 = .ok (.aload_n 0, 1) := by decide +kernel
theorem dX8_takeKey_86 : decode cX8_takeKey 86 = .ok (.aload_n 0, 1) := by decide +kernel
theorem dX8_takeKey_87 : decode cX8_takeKey 87 = .ok (.getfield 32, 3) := by decide +kernel
theorem dX8_takeKey_90 : decode cX8_takeKey 90 = .ok (.iload_n 1, 1) := by decide +kernel
theorem dX8_takeKey_91 : decode cX8_takeKey 91 = .ok (.iaload, 1) := by decide +kernel
theorem dX8_takeKey_92 : decode cX8_takeKey 92 = .ok (.invokevirtual 174, 3) := by decide +kernel
theorem dX8_takeKey_95 : decode cX8_takeKey 95 = .ok (.bipush 32, 2) := by decide +kernel
theorem dX8_takeKey_97 : decode cX8_takeKey 97 = .ok (.if_icmp .ge 17, 3) := by decide +kernel
theorem dX8_takeKey_100 : decode cX8_takeKey 100 = .ok (.aload_n 0, 1) := by decide +kernel
theorem dX8_takeKey_101 : decode cX8_takeKey 101 = .ok (.iload_n 1, 1) := by decide +kernel
theorem dX8_takeKey_102 : decode cX8_takeKey 102 = .ok (.invokevirtual 177, 3) := by decide +kernel
theorem dX8_takeKey_105 : decode cX8_takeKey 105 = .ok (.ifCond .eq 9, 3) := by decide +kernel
theorem dX8_takeKey_108 : decode cX8_takeKey 108 = .ok (.iinc 1 (-1), 3) := by decide +kernel
theorem dX8_takeKey_111 : decode cX8_takeKey 111 = .ok (.goto (-30), 3) := by decide +kernel
theorem dX8_takeKey_114 : decode cX8_takeKey 114 = .ok (.aload_n 0, 1) := by decide +kernel
theorem dX8_takeKey_115 : decode cX8_takeKey 115 = .ok (.aload_n 0, 1) := by decide +kernel
theorem dX8_takeKey_116 : decode cX8_takeKey 116 = .ok (.getfield 118, 3) := by decide +kernel
theorem dX8_takeKey_119 : decode cX8_takeKey 119 = .ok (.iconst 0, 1) := by decide +kernel
theorem dX8_takeKey_120 : decode cX8_takeKey 120 = .ok (.invokevirtual 69, 3) := by decide +kernel
theorem dX8_takeKey_123 : decode cX8_takeKey 123 = .ok (.iconst 2, 1) := by decide +kernel
theorem dX8_takeKey_124 : decode cX8_takeKey 124 = .ok (.if_icmp .ne 48, 3) := by decide +kernel
theorem dX8_takeKey_127 : decode cX8_takeKey 127 = .ok (.aload_n 0, 1) := by decide +kernel
theorem dX8_takeKey_128 : decode cX8_takeKey 128 = .ok (.aload_n 0, 1) := by decide +kernel
theorem dX8_takeKey_129 : decode cX8_takeKey 129 = .ok (.getfield 118, 3) := by decide +kernel
theorem dX8_takeKey_132 : decode cX8_takeKey 132 = .ok (.iconst 1, 1) := by decide +kernel
theorem dX8_takeKey_133 : decode cX8_takeKey 133 = .ok (.invokevirtual 69, 3) := by decide +kernel
theorem dX8_takeKey_136 : decode cX8_takeKey 136 = .ok (.ifCond .ne 36, 3) := by decide +kernel
theorem dX8_takeKey_139 : decode cX8_takeKey 139 = .ok (.aload_n 0, 1) := by decide +kernel
theorem dX8_takeKey_140 : decode cX8_takeKey 140 = .ok (.getfield 118, 3) := by decide +kernel
theorem dX8_takeKey_143 : decode cX8_takeKey 143 = .ok (.istore 5, 2) := by decide +kernel
theorem dX8_takeKey_145 : decode cX8_takeKey 145 = .ok (.aload_n 0, 1) := by decide +kernel
theorem dX8_takeKey_146 : decode cX8_takeKey 146 = .ok (.aload_n 0, 1) := by decide +kernel
theorem dX8_takeKey_147 : decode cX8_takeKey 147 = .ok (.iload 5, 2) := by decide +kernel
theorem dX8_takeKey_149 : decode cX8_takeKey 149 = .ok (.iconst 2, 1) := by decide +kernel
theorem dX8_takeKey_150 : decode cX8_takeKey 150 = .ok (.invokevirtual 69, 3) := by decide +kernel
theorem dX8_takeKey_153 : decode cX8_takeKey 153 = .ok (.putfield 118, 3) := by decide +kernel
theorem dX8_takeKey_156 : decode cX8_takeKey 156 = .ok (.aload_n 0, 1) := by decide +kernel
theorem dX8_takeKey_157 : decode cX8_takeKey 157 = .ok (.iload 5, 2) := by decide +kernel
theorem dX8_takeKey_159 : decode cX8_takeKey 159 = .ok (.invokevirtual 79, 3) := by decide +kernel
theorem dX8_takeKey_162 : decode cX8_takeKey 162 = .ok (.aload_n 0, 1) := by decide +kernel
theorem dX8_takeKey_163 : decode cX8_takeKey 163 = .ok (.dup, 1) := by decide +kernel
theorem dX8_takeKey_164 : decode cX8_takeKey 164 = .ok (.getfield 13, 3) := by decide +kernel
theorem dX8_takeKey_167 : decode cX8_takeKey 167 = .ok (.iconst 1, 1) := by decide +kernel
theorem dX8_takeKey_168 : decode cX8_takeKey 168 = .ok (.isub, 1) := by decide +kernel
theorem dX8_takeKey_169 : decode cX8_takeKey 169 = .ok (.putfield 13, 3) := by decide +kernel
theorem dX8_takeKey_172 : decode cX8_takeKey 172 = .ok (.iload 4, 2) := by decide +kernel
theorem dX8_takeKey_174 : decode cX8_takeKey 174 = .ok (.ireturn, 1) := by decide +kernel
theorem dX8_mends_0 : decode cX8_mends 0 = .ok (.aload_n 0, 1) := by decide +kernel
theorem dX8_mends_1 : decode cX8_mends 1 = .ok (.getfield 32, 3) := by decide +kernel
theorem dX8_mends_4 : decode cX8_mends 4 = .ok (.iload_n 1, 1) := by decide +kernel
theorem dX8_mends_5 : decode cX8_mends 5 = .ok (.iconst 1, 1) := by decide +kernel
theorem dX8_mends_6 : decode cX8_mends 6 = .ok (.isub, 1) := by decide +kernel
theorem dX8_mends_7 : decode cX8_mends 7 = .ok (.iaload, 1) := by decide +kernel
theorem dX8_mends_8 : decode cX8_mends 8 = .ok (.istore_n 2, 1) := by decide +kernel
theorem dX8_mends_9 : decode cX8_mends 9 = .ok (.aload_n 0, 1) := by decide +kernel
theorem dX8_mends_10 : decode cX8_mends 10 = .ok (.iload_n 2, 1) := by decide +kernel
theorem dX8_mends_11 : decode cX8_mends 11 = .ok (.iconst 1, 1) := by decide +kernel
theorem dX8_mends_12 : decode cX8_mends 12 = .ok (.invokevirtual 69, 3) := by decide +kernel
theorem dX8_mends_15 : decode cX8_mends 15 = .ok (.istore_n 3, 1) := by decide +kernel
theorem dX8_mends_16 : decode cX8_mends 16 = .ok (.iload_n 3, 1) := by decide +kernel
theorem dX8_mends_17 : decode cX8_mends 17 = .ok (.ifCond .ne 5, 3) := by decide +kernel
theorem dX8_mends_20 : decode cX8_mends 20 = .ok (.iconst 0, 1) := by decide +kernel
theorem dX8_mends_21 : decode cX8_mends 21 = .ok (.ireturn, 1) := by decide +kernel
theorem dX8_mends_22 : decode cX8_mends 22 = .ok (.aload_n 0, 1) := by decide +kernel
theorem dX8_mends_23 : decode cX8_mends 23 = .ok (.getfield 35, 3) := by decide +kernel
theorem dX8_mends_26 : decode cX8_mends 26 = .ok (.iload_n 1, 1) := by decide +kernel
theorem dX8_mends_27 : decode cX8_mends 27 = .ok (.iconst 1, 1) := by decide +kernel
theorem dX8_mends_28 : decode cX8_mends 28 = .ok (.isub, 1) := by decide +kernel
theorem dX8_mends_29 : decode cX8_mends 29 = .ok (.iaload, 1) := by decide +kernel
theorem dX8_mends_30 : decode cX8_mends 30 = .ok (.iload_n 3, 1) := by decide +kernel
theorem dX8_mends_31 : decode cX8_mends 31 = .ok (.if_icmp .ge 14, 3) := by decide +kernel
theorem dX8_mends_34 : decode cX8_mends 34 = .ok (.aload_n 0, 1) := by decide +kernel
theorem dX8_mends_35 : decode cX8_mends 35 = .ok (.getfield 35, 3) := by decide +kernel
theorem dX8_mends_38 : decode cX8_mends 38 = .ok (.iload_n 1, 1) := by decide +kernel
theorem dX8_mends_39 : decode cX8_mends 39 = .ok (.iconst 1, 1) := by decide +kernel
theorem dX8_mends_40 : decode cX8_mends 40 = .ok (.isub, 1) := by decide +kernel
theorem dX8_mends_41 : decode cX8_mends 41 = .ok (.iaload, 1) := by decide +kernel
theorem dX8_mends_42 : decode cX8_mends 42 = .ok (.goto 6, 3) := by decide +kernel
theorem dX8_mends_45 : decode cX8_mends 45 = .ok (.iload_n 3, 1) := by decide +kernel
theorem dX8_mends_46 : decode cX8_mends 46 = .ok (.iconst 1, 1) := by decide +kernel
theorem dX8_mends_47 : decode cX8_mends 47 = .ok (.isub, 1) := by decide +kernel
theorem dX8_mends_48 : decode cX8_mends 48 = .ok (.istore 4, 2) := by decide +kernel
theorem dX8_mends_50 : decode cX8_mends 50 = .ok (.aload_n 0, 1) := by decide +kernel
theorem dX8_mends_51 : decode cX8_mends 51 = .ok (.iload_n 2, 1) := by decide +kernel
theorem dX8_mends_52 : decode cX8_mends 52 = .ok (.iload 4, 2) := by decide +kernel
theorem dX8_mends_54 : decode cX8_mends 54 = .ok (.invokevirtual 124, 3) := by decide +kernel
theorem dX8_mends_57 : decode cX8_mends 57 = .ok (.istore 5, 2) := by decide +kernel
theorem dX8_mends_59 : decode cX8_mends 59 = .ok (.aload_n 0, 1) := by decide +kernel
theorem dX8_mends_60 : decode cX8_mends 60 = .ok (.iload_n 2, 1) := by decide +kernel
theorem dX8_mends_61 : decode cX8_mends 61 = .ok (.iload 4, 2) := by decide +kernel
theorem dX8_mends_63 : decode cX8_mends 63 = .ok (.iconst 1, 1) := by decide +kernel
theorem dX8_mends_64 : decode cX8_mends 64 = .ok (.iadd, 1) := by decide +kernel
theorem dX8_mends_65 : decode cX8_mends 65 = .ok (.invokevirtual 124, 3) := by decide +kernel
theorem dX8_mends_68 : decode cX8_mends 68 = .ok (.istore 6, 2) := by decide +kernel
theorem dX8_mends_70 : decode cX8_mends 70 = .ok (.aload_n 0, 1) := by decide +kernel
theorem dX8_mends_71 : decode cX8_mends 71 = .ok (.iload 5, 2) := by decide +kernel
theorem dX8_mends_73 : decode cX8_mends 73 = .ok (.iconst 0, 1) := by decide +kernel
theorem dX8_mends_74 : decode cX8_mends 74 = .ok (.invokevirtual 69, 3) := by decide +kernel
theorem dX8_mends_77 : decode cX8_mends 77 = .ok (.istore 7, 2) := by decide +kernel
theorem dX8_mends_79 : decode cX8_mends 79 = .ok (.aload_n 0, 1) := by decide +kernel
theorem dX8_mends_80 : decode cX8_mends 80 = .ok (.iload_n 2, 1) := by decide +kernel
theorem dX8_mends_81 : decode cX8_mends 81 = .ok (.iload 4, 2) := by decide +kernel
theorem dX8_mends_83 : decode cX8_mends 83 = .ok (.invokevirtual 73, 3) := by decide +kernel
theorem dX8_mends_86 : decode cX8_mends 86 = .ok (.istore 8, 2) := by decide +kernel
theorem dX8_mends_88 : decode cX8_mends 88 = .ok (.aload_n 0, 1) := by decide +kernel
theorem dX8_mends_89 : decode cX8_mends 89 = .ok (.iconst 0, 1) := by decide +kernel
theorem dX8_mends_90 : decode cX8_mends 90 = .ok (.putfield 76, 3) := by decide +kernel
theorem dX8_mends_93 : decode cX8_mends 93 = .ok (.aload_n 0, 1) := by decide +kernel
theorem dX8_mends_94 : decode cX8_mends 94 = .ok (.iload 5, 2) := by decide +kernel
theorem dX8_mends_96 : decode cX8_mends 96 = .ok (.invokevirtual 143, 3) := by decide +kernel
theorem dX8_mends_99 : decode cX8_mends 99 = .ok (.iload 7, 2) := by decide +kernel
theorem dX8_mends_101 : decode cX8_mends 101 = .ok (.iconst 2, 1) := by decide +kernel
theorem dX8_mends_102 : decode cX8_mends 102 = .ok (.if_icmp .ne 69, 3) := by decide +kernel
theorem dX8_mends_105 : decode cX8_mends 105 = .ok (.iconst 0, 1) := by decide +kernel
theorem dX8_mends_106 : decode cX8_mends 106 = .ok (.istore 9, 2) := by decide +kernel
theorem dX8_mends_108 : decode cX8_mends 108 = .ok (.iload 9, 2) := by decide +kernel
theorem dX8_mends_110 : decode cX8_mends 110 = .ok (.aload_n 0, 1) := by decide +kernel
theorem dX8_mends_111 : decode cX8_mends 111 = .ok (.iload_n 2, 1) := by decide +kernel
theorem dX8_mends_112 : decode cX8_mends 112 = .ok (.iload 8, 2) := by decide +kernel
theorem dX8_mends_114 : decode cX8_mends 114 = .ok (.invokevirtual 69, 3) := by decide +kernel
theorem dX8_mends_117 : decode cX8_mends 117 = .ok (.if_icmp .ge 28, 3) := by decide +kernel
theorem dX8_mends_120 : decode cX8_mends 120 = .ok (.aload_n 0, 1) := by decide +kernel
theorem dX8_mends_121 : decode cX8_mends 121 = .ok (.getfield 26, 3) := by decide +kernel
theorem dX8_mends_124 : decode cX8_mends 124 = .ok (.iload 9, 2) := by decide +kernel
theorem dX8_mends_126 : decode cX8_mends 126 = .ok (.aload_n 0, 1) := by decide +kernel
theorem dX8_mends_127 : decode cX8_mends 127 = .ok (.iload_n 2, 1) := by decide +kernel
theorem dX8_mends_128 : decode cX8_mends 128 = .ok (.iload 8, 2) := by decide +kernel
theorem dX8_mends_130 : decode cX8_mends 130 = .ok (.iconst 1, 1) := by decide +kernel
theorem dX8_mends_131 : decode cX8_mends 131 = .ok (.iadd, 1) := by decide +kernel
theorem dX8_mends_132 : decode cX8_mends 132 = .ok (.iload 9, 2) := by decide +kernel
theorem dX8_mends_134 : decode cX8_mends 134 = .ok (.iadd, 1) := by decide +kernel
theorem dX8_mends_135 : decode cX8_mends 135 = .ok (.invokevirtual 69, 3) := by decide +kernel
theorem dX8_mends_138 : decode cX8_mends 138 = .ok (.iastore, 1) := by decide +kernel
theorem dX8_mends_139 : decode cX8_mends 139 = .ok (.iinc 9 1, 3) := by decide +kernel
theorem dX8_mends_142 : decode cX8_mends 142 = .ok (.goto (-34), 3) := by decide +kernel
theorem dX8_mends_145 : decode cX8_mends 145 = .ok (.aload_n 0, 1) := by decide +kernel
theorem dX8_mends_146 : decode cX8_mends 146 = .ok (.aload_n 0, 1) := by decide +kernel
theorem dX8_mends_147 : decode cX8_mends 147 = .ok (.getfield 76, 3) := by decide +kernel
theorem dX8_mends_150 : decode cX8_mends 150 = .ok (.aload_n 0, 1) := by decide +kernel
theorem dX8_mends_151 : decode cX8_mends 151 = .ok (.getfield 26, 3) := by decide +kernel
theorem dX8_mends_154 : decode cX8_mends 154 = .ok (.aload_n 0, 1) := by decide +kernel
theorem dX8_mends_155 : decode cX8_mends 155 = .ok (.iload_n 2, 1) := by decide +kernel
theorem dX8_mends_156 : decode cX8_mends 156 = .ok (.iload 8, 2) := by decide +kernel
theorem dX8_mends_158 : decode cX8_mends 158 = .ok (.invokevirtual 69, 3) := by decide +kernel
theorem dX8_mends_161 : decode cX8_mends 161 = .ok (.aload_n 0, 1) := by decide +kernel
theorem dX8_mends_162 : decode cX8_mends 162 = .ok (.iload 6, 2) := by decide +kernel
theorem dX8_mends_164 : decode cX8_mends 164 = .ok (.iconst 2, 1) := by decide +kernel
theorem dX8_mends_165 : decode cX8_mends 165 = .ok (.invokevirtual 69, 3) := by decide +kernel
theorem dX8_mends_168 : decode cX8_mends 168 = .ok (.invokevirtual 146, 3) := by decide +kernel
theorem dX8_mends_171 : decode cX8_mends 171 = .ok (.aload_n 0, 1) := by decide +kernel
theorem dX8_mends_172 : decode cX8_mends 172 = .ok (.iload 6, 2) := by decide +kernel
theorem dX8_mends_174 : decode cX8_mends 174 = .ok (.invokevirtual 143, 3) := by decide +kernel
theorem dX8_mends_177 : decode cX8_mends 177 = .ok (.aload_n 0, 1) := by decide +kernel
theorem dX8_mends_178 : decode cX8_mends 178 = .ok (.iconst 0, 1) := by decide +kernel
theorem dX8_mends_179 : decode cX8_mends 179 = .ok (.aload_n 0, 1) := by decide +kernel
theorem dX8_mends_180 : decode cX8_mends 180 = .ok (.getfield 76, 3) := by decide +kernel
theorem dX8_mends_183 : decode cX8_mends 183 = .ok (.invokevirtual 87, 3) := by decide +kernel
theorem dX8_mends_186 : decode cX8_mends 186 = .ok (.bipush 61, 2) := by decide +kernel
theorem dX8_mends_188 : decode cX8_mends 188 = .ok (.if_icmp .gt 90, 3) := by decide +kernel
theorem dX8_mends_191 : decode cX8_mends 191 = .ok (.aload_n 0, 1) := by decide +kernel
theorem dX8_mends_192 : decode cX8_mends 192 = .ok (.iload 5, 2) := by decide +kernel
theorem dX8_mends_194 : decode cX8_mends 194 = .ok (.iload 7, 2) := by decide +kernel
theorem dX8_mends_196 : decode cX8_mends 196 = .ok (.iload 7, 2) := by decide +kernel
theorem dX8_mends_198 : decode cX8_mends 198 = .ok (.iconst 1, 1) := by decide +kernel
theorem dX8_mends_199 : decode cX8_mends 199 = .ok (.if_icmp .ne 13, 3) := by decide +kernel
theorem dX8_mends_202 : decode cX8_mends 202 = .ok (.aload_n 0, 1) := by decide +kernel
theorem dX8_mends_203 : decode cX8_mends 203 = .ok (.iload 6, 2) := by decide +kernel
theorem dX8_mends_205 : decode cX8_mends 205 = .ok (.iconst 2, 1) := by decide +kernel
theorem dX8_mends_206 : decode cX8_mends 206 = .ok (.invokevirtual 69, 3) := by decide +kernel
theorem dX8_mends_209 : decode cX8_mends 209 = .ok (.goto 10, 3) := by decide +kernel
theorem dX8_mends_212 : decode cX8_mends 212 = .ok (.aload_n 0, 1) := by decide +kernel
theorem dX8_mends_213 : decode cX8_mends 213 = .ok (.iload 5, 2) := by decide +kernel
theorem dX8_mends_215 : decode cX8_mends 215 = .ok (.iconst 2, 1) := by decide +kernel
theorem dX8_mends_216 : decode cX8_mends 216 = .ok (.invokevirtual 69, 3) := by decide +kernel
theorem dX8_mends_219 : decode cX8_mends 219 = .ok (.iconst 0, 1) := by decide +kernel
theorem dX8_mends_220 : decode cX8_mends 220 = .ok (.aload_n 0, 1) := by decide +kernel
theorem dX8_mends_221 : decode cX8_mends 221 = .ok (.getfield 76, 3) := by decide +kernel
theorem dX8_mends_224 : decode cX8_mends 224 = .ok (.invokevirtual 107, 3) := by decide +kernel
theorem dX8_mends_227 : decode cX8_mends 227 = .ok (.aload_n 0, 1) := by decide +kernel
theorem dX8_mends_228 : decode cX8_mends 228 = .ok (.iload 6, 2) := by decide +kernel
theorem dX8_mends_230 : decode cX8_mends 230 = .ok (.invokevirtual 79, 3) := by decide +kernel
theorem dX8_mends_233 : decode cX8_mends 233 = .ok (.aload_n 0, 1) := by decide +kernel
theorem dX8_mends_234 : decode cX8_mends 234 = .ok (.iconst 0, 1) := by decide +kernel
theorem dX8_mends_235 : decode cX8_mends 235 = .ok (.putfield 76, 3) := by decide +kernel
theorem dX8_mends_238 : decode cX8_mends 238 = .ok (.aload_n 0, 1) := by decide +kernel
theorem dX8_mends_239 : decode cX8_mends 239 = .ok (.iload_n 2, 1) := by decide +kernel
theorem dX8_mends_240 : decode cX8_mends 240 = .ok (.invokevirtual 143, 3) := by decide +kernel
theorem dX8_mends_243 : decode cX8_mends 243 = .ok (.aload_n 0, 1) := by decide +kernel
theorem dX8_mends_244 : decode cX8_mends 244 = .ok (.iload 4, 2) := by decide +kernel
theorem dX8_mends_246 : decode cX8_mends 246 = .ok (.invokevirtual 171, 3) := by decide +kernel
theorem dX8_mends_249 : decode cX8_mends 249 = .ok (.aload_n 0, 1) := by decide +kernel
theorem dX8_mends_250 : decode cX8_mends 250 = .ok (.iload_n 2, 1) := by decide +kernel
theorem dX8_mends_251 : decode cX8_mends 251 = .ok (.iconst 2, 1) := by decide +kernel
theorem dX8_mends_252 : decode cX8_mends 252 = .ok (.aload_n 0, 1) := by decide +kernel
theorem dX8_mends_253 : decode cX8_mends 253 = .ok (.iload_n 2, 1) := by decide +kernel
theorem dX8_mends_254 : decode cX8_mends 254 = .ok (.iconst 2, 1) := by decide +kernel
theorem dX8_mends_255 : decode cX8_mends 255 = .ok (.invokevirtual 69, 3) := by decide +kernel
theorem dX8_mends_258 : decode cX8_mends 258 = .ok (.iconst 0, 1) := by decide +kernel
theorem dX8_mends_259 : decode cX8_mends 259 = .ok (.aload_n 0, 1) := by decide +kernel
theorem dX8_mends_260 : decode cX8_mends 260 = .ok (.getfield 76, 3) := by decide +kernel
theorem dX8_mends_263 : decode cX8_mends 263 = .ok (.invokevirtual 107, 3) := by decide +kernel
theorem dX8_mends_266 : decode cX8_mends 266 = .ok (.aload_n 0, 1) := by decide +kernel
theorem dX8_mends_267 : decode cX8_mends 267 = .ok (.dup, 1) := by decide +kernel
theorem dX8_mends_268 : decode cX8_mends 268 = .ok (.getfield 181, 3) := by decide +kernel
theorem dX8_mends_271 : decode cX8_mends 271 = .ok (.iconst 1, 1) := by decide +kernel
theorem dX8_mends_272 : decode cX8_mends 272 = .ok (.iadd, 1) := by decide +kernel
theorem dX8_mends_273 : decode cX8_mends 273 = .ok (.putfield 181, 3) := by decide +kernel
theorem dX8_mends_276 : decode cX8_mends 276 = .ok (.iconst 1, 1) := by decide +kernel
theorem dX8_mends_277 : decode cX8_mends 277 = .ok (.ireturn, 1) := by decide +kernel
theorem dX8_mends_278 : decode cX8_mends 278 = .ok (.aload_n 0, 1) := by decide +kernel
theorem dX8_mends_279 : decode cX8_mends 279 = .ok (.iload 7, 2) := by decide +kernel
theorem dX8_mends_281 : decode cX8_mends 281 = .ok (.aload_n 0, 1) := by decide +kernel
theorem dX8_mends_282 : decode cX8_mends 282 = .ok (.invokevirtual 100, 3) := by decide +kernel
theorem dX8_mends_285 : decode cX8_mends 285 = .ok (.invokevirtual 104, 3) := by decide +kernel
theorem dX8_mends_288 : decode cX8_mends 288 = .ok (.aload_n 0, 1) := by decide +kernel
theorem dX8_mends_289 : decode cX8_mends 289 = .ok (.iload_n 2, 1) := by decide +kernel
theorem dX8_mends_290 : decode cX8_mends 290 = .ok (.invokevirtual 174, 3) := by decide +kernel
theorem dX8_mends_293 : decode cX8_mends 293 = .ok (.aload_n 0, 1) := by decide +kernel
theorem dX8_mends_294 : decode cX8_mends 294 = .ok (.iload_n 2, 1) := by decide +kernel
theorem dX8_mends_295 : decode cX8_mends 295 = .ok (.iload 8, 2) := by decide +kernel
theorem dX8_mends_297 : decode cX8_mends 297 = .ok (.invokevirtual 69, 3) := by decide +kernel
theorem dX8_mends_300 : decode cX8_mends 300 = .ok (.isub, 1) := by decide +kernel
theorem dX8_mends_301 : decode cX8_mends 301 = .ok (.aload_n 0, 1) := by decide +kernel
theorem dX8_mends_302 : decode cX8_mends 302 = .ok (.getfield 90, 3) := by decide +kernel
theorem dX8_mends_305 : decode cX8_mends 305 = .ok (.iadd, 1) := by decide +kernel
theorem dX8_mends_306 : decode cX8_mends 306 = .ok (.bipush 64, 2) := by decide +kernel
theorem dX8_mends_308 : decode cX8_mends 308 = .ok (.if_icmp .gt 95, 3) := by decide +kernel
theorem dX8_mends_311 : decode cX8_mends 311 = .ok (.aload_n 0, 1) := by decide +kernel
theorem dX8_mends_312 : decode cX8_mends 312 = .ok (.iload 5, 2) := by decide +kernel
theorem dX8_mends_314 : decode cX8_mends 314 = .ok (.iload 6, 2) := by decide +kernel
theorem dX8_mends_316 : decode cX8_mends 316 = .ok (.iload 7, 2) := by decide +kernel
theorem dX8_mends_318 : decode cX8_mends 318 = .ok (.aload_n 0, 1) := by decide +kernel
theorem dX8_mends_319 : decode cX8_mends 319 = .ok (.iload 5, 2) := by decide +kernel
theorem dX8_mends_321 : decode cX8_mends 321 = .ok (.iconst 2, 1) := by decide +kernel
theorem dX8_mends_322 : decode cX8_mends 322 = .ok (.invokevirtual 69, 3) := by decide +kernel
theorem dX8_mends_325 : decode cX8_mends 325 = .ok (.aload_n 0, 1) := by decide +kernel
theorem dX8_mends_326 : decode cX8_mends 326 = .ok (.iload 6, 2) := by decide +kernel
theorem dX8_mends_328 : decode cX8_mends 328 = .ok (.iconst 2, 1) := by decide +kernel
theorem dX8_mends_329 : decode cX8_mends 329 = .ok (.invokevirtual 69, 3) := by decide +kernel
theorem dX8_mends_332 : decode cX8_mends 332 = .ok (.invokevirtual 153, 3) := by decide +kernel
theorem dX8_mends_335 : decode cX8_mends 335 = .ok (.aload_n 0, 1) := by decide +kernel
theorem dX8_mends_336 : decode cX8_mends 336 = .ok (.iconst 0, 1) := by decide +kernel
theorem dX8_mends_337 : decode cX8_mends 337 = .ok (.putfield 76, 3) := by decide +kernel
theorem dX8_mends_340 : decode cX8_mends 340 = .ok (.aload_n 0, 1) := by decide +kernel
theorem dX8_mends_341 : decode cX8_mends 341 = .ok (.iload_n 2, 1) := by decide +kernel
theorem dX8_mends_342 : decode cX8_mends 342 = .ok (.invokevirtual 143, 3) := by decide +kernel
theorem dX8_mends_345 : decode cX8_mends 345 = .ok (.aload_n 0, 1) := by decide +kernel
theorem dX8_mends_346 : decode cX8_mends 346 = .ok (.getfield 23, 3) := by decide +kernel
theorem dX8_mends_349 : decode cX8_mends 349 = .ok (.iload 4, 2) := by decide +kernel
theorem dX8_mends_351 : decode cX8_mends 351 = .ok (.iaload, 1) := by decide +kernel
theorem dX8_mends_352 : decode cX8_mends 352 = .ok (.istore 9, 2) := by decide +kernel
theorem dX8_mends_354 : decode cX8_mends 354 = .ok (.aload_n 0, 1) := by decide +kernel
theorem dX8_mends_355 : decode cX8_mends 355 = .ok (.iload 4, 2) := by decide +kernel
theorem dX8_mends_357 : decode cX8_mends 357 = .ok (.invokevirtual 171, 3) := by decide +kernel
theorem dX8_mends_360 : decode cX8_mends 360 = .ok (.aload_n 0, 1) := by decide +kernel
theorem dX8_mends_361 : decode cX8_mends 361 = .ok (.iload 4, 2) := by decide +kernel
theorem dX8_mends_363 : decode cX8_mends 363 = .ok (.aload_n 0, 1) := by decide +kernel
theorem dX8_mends_364 : decode cX8_mends 364 = .ok (.getfield 26, 3) := by decide +kernel
theorem dX8_mends_367 : decode cX8_mends 367 = .ok (.aload_n 0, 1) := by decide +kernel
theorem dX8_mends_368 : decode cX8_mends 368 = .ok (.getfield 90, 3) := by decide +kernel
theorem dX8_mends_371 : decode cX8_mends 371 = .ok (.iload 9, 2) := by decide +kernel
theorem dX8_mends_373 : decode cX8_mends 373 = .ok (.invokevirtual 146, 3) := by decide +kernel
theorem dX8_mends_376 : decode cX8_mends 376 = .ok (.aload_n 0, 1) := by decide +kernel
theorem dX8_mends_377 : decode cX8_mends 377 = .ok (.iload_n 2, 1) := by decide +kernel
theorem dX8_mends_378 : decode cX8_mends 378 = .ok (.iconst 2, 1) := by decide +kernel
theorem dX8_mends_379 : decode cX8_mends 379 = .ok (.aload_n 0, 1) := by decide +kernel
theorem dX8_mends_380 : decode cX8_mends 380 = .ok (.iload_n 2, 1) := by decide +kernel
theorem dX8_mends_381 : decode cX8_mends 381 = .ok (.iconst 2, 1) := by decide +kernel
theorem dX8_mends_382 : decode cX8_mends 382 = .ok (.invokevirtual 69, 3) := by decide +kernel
theorem dX8_mends_385 : decode cX8_mends 385 = .ok (.iconst 0, 1) := by decide +kernel
theorem dX8_mends_386 : decode cX8_mends 386 = .ok (.aload_n 0, 1) := by decide +kernel
theorem dX8_mends_387 : decode cX8_mends 387 = .ok (.getfield 76, 3) := by decide +kernel
theorem dX8_mends_390 : decode cX8_mends 390 = .ok (.invokevirtual 107, 3) := by decide +kernel
theorem dX8_mends_393 : decode cX8_mends 393 = .ok (.aload_n 0, 1) := by decide +kernel
theorem dX8_mends_394 : decode cX8_mends 394 = .ok (.dup, 1) := by decide +kernel
theorem dX8_mends_395 : decode cX8_mends 395 = .ok (.getfield 184, 3) := by decide +kernel
theorem dX8_mends_398 : decode cX8_mends 398 = .ok (.iconst 1, 1) := by decide +kernel
theorem dX8_mends_399 : decode cX8_mends 399 = .ok (.iadd, 1) := by decide +kernel
theorem dX8_mends_400 : decode cX8_mends 400 = .ok (.putfield 184, 3) := by decide +kernel
theorem dX8_mends_403 : decode cX8_mends 403 = .ok (.iconst 0, 1) := by decide +kernel
theorem dX8_mends_404 : decode cX8_mends 404 = .ok (.ireturn, 1) := by decide +kernel
theorem dX8_take_0 : decode cX8_take 0 = .ok (.iload_n 1, 1) := by decide +kernel
theorem dX8_take_1 : decode cX8_take 1 = .ok (.iload_n 2, 1) := by decide +kernel
theorem dX8_take_2 : decode cX8_take 2 = .ok (.invokestatic 162, 3) := by decide +kernel
theorem dX8_take_5 : decode cX8_take 5 = .ok (.ifCond .ne 5, 3) := by decide +kernel
theorem dX8_take_8 : decode cX8_take 8 = .ok (.iconst (-1), 1) := by decide +kernel
theorem dX8_take_9 : decode cX8_take 9 = .ok (.ireturn, 1) := by decide +kernel
theorem dX8_take_10 : decode cX8_take 10 = .ok (.aload_n 0, 1) := by decide +kernel
theorem dX8_take_11 : decode cX8_take 11 = .ok (.iload_n 1, 1) := by decide +kernel
theorem dX8_take_12 : decode cX8_take 12 = .ok (.iload_n 2, 1) := by decide +kernel
theorem dX8_take_13 : decode cX8_take 13 = .ok (.invokevirtual 165, 3) := by decide +kernel
theorem dX8_take_16 : decode cX8_take 16 = .ok (.aload_n 0, 1) := by decide +kernel
theorem dX8_take_17 : decode cX8_take 17 = .ok (.invokevirtual 187, 3) := by decide +kernel
theorem dX8_take_20 : decode cX8_take 20 = .ok (.ireturn, 1) := by decide +kernel
theorem dX8_isLoad_0 : decode cX8_isLoad 0 = .ok (.iload_n 0, 1) := by decide +kernel
theorem dX8_isLoad_1 : decode cX8_isLoad 1 = .ok (.iconst 0, 1) := by decide +kernel
theorem dX8_isLoad_2 : decode cX8_isLoad 2 = .ok (.sipush 17575, 3) := by decide +kernel
theorem dX8_isLoad_5 : decode cX8_isLoad 5 = .ok (.invokestatic 114, 3) := by decide +kernel
theorem dX8_isLoad_8 : decode cX8_isLoad 8 = .ok (.ifCond .eq 40, 3) := by decide +kernel
theorem dX8_isLoad_11 : decode cX8_isLoad 11 = .ok (.iload_n 1, 1) := by decide +kernel
theorem dX8_isLoad_12 : decode cX8_isLoad 12 = .ok (.iconst 1, 1) := by decide +kernel
theorem dX8_isLoad_13 : decode cX8_isLoad 13 = .ok (.bipush 99, 2) := by decide +kernel
theorem dX8_isLoad_15 : decode cX8_isLoad 15 = .ok (.invokestatic 114, 3) := by decide +kernel
theorem dX8_isLoad_18 : decode cX8_isLoad 18 = .ok (.ifCond .eq 30, 3) := by decide +kernel
theorem dX8_isLoad_21 : decode cX8_isLoad 21 = .ok (.iload_n 2, 1) := by decide +kernel
theorem dX8_isLoad_22 : decode cX8_isLoad 22 = .ok (.iconst 1, 1) := by decide +kernel
theorem dX8_isLoad_23 : decode cX8_isLoad 23 = .ok (.bipush 60, 2) := by decide +kernel
theorem dX8_isLoad_25 : decode cX8_isLoad 25 = .ok (.invokestatic 114, 3) := by decide +kernel
theorem dX8_isLoad_28 : decode cX8_isLoad 28 = .ok (.ifCond .eq 20, 3) := by decide +kernel
theorem dX8_isLoad_31 : decode cX8_isLoad 31 = .ok (.iload_n 0, 1) := by decide +kernel
theorem dX8_isLoad_32 : decode cX8_isLoad 32 = .ok (.iload_n 1, 1) := by decide +kernel
theorem dX8_isLoad_33 : decode cX8_isLoad 33 = .ok (.iload_n 2, 1) := by decide +kernel
theorem dX8_isLoad_34 : decode cX8_isLoad 34 = .ok (.iconst 1, 1) := by decide +kernel
theorem dX8_isLoad_35 : decode cX8_isLoad 35 = .ok (.isub, 1) := by decide +kernel
theorem dX8_isLoad_36 : decode cX8_isLoad 36 = .ok (.imul, 1) := by decide +kernel
theorem dX8_isLoad_37 : decode cX8_isLoad 37 = .ok (.iadd, 1) := by decide +kernel
theorem dX8_isLoad_38 : decode cX8_isLoad 38 = .ok (.sipush 17575, 3) := by decide +kernel
theorem dX8_isLoad_41 : decode cX8_isLoad 41 = .ok (.if_icmp .gt 7, 3) := by decide +kernel
theorem dX8_isLoad_44 : decode cX8_isLoad 44 = .ok (.iconst 1, 1) := by decide +kernel
theorem dX8_isLoad_45 : decode cX8_isLoad 45 = .ok (.goto 4, 3) := by decide +kernel
theorem dX8_isLoad_48 : decode cX8_isLoad 48 = .ok (.iconst 0, 1) := by decide +kernel
theorem dX8_isLoad_49 : decode cX8_isLoad 49 = .ok (.ireturn, 1) := by decide +kernel
theorem dX8_loads_0 : decode cX8_loads 0 = .ok (.iconst 0, 1) := by decide +kernel
theorem dX8_loads_1 : decode cX8_loads 1 = .ok (.istore 4, 2) := by decide +kernel
theorem dX8_loads_3 : decode cX8_loads 3 = .ok (.iload 4, 2) := by decide +kernel
theorem dX8_loads_5 : decode cX8_loads 5 = .ok (.bipush 32, 2) := by decide +kernel
theorem dX8_loads_7 : decode cX8_loads 7 = .ok (.if_icmp .ge 15, 3) := by decide +kernel
theorem dX8_loads_10 : decode cX8_loads 10 = .ok (.aload_n 0, 1) := by decide +kernel
theorem dX8_loads_11 : decode cX8_loads 11 = .ok (.iload 4, 2) := by decide +kernel
theorem dX8_loads_13 : decode cX8_loads 13 = .ok (.invokevirtual 79, 3) := by decide +kernel
theorem dX8_loads_16 : decode cX8_loads 16 = .ok (.iinc 4 1, 3) := by decide +kernel
theorem dX8_loads_19 : decode cX8_loads 19 = .ok (.goto (-16), 3) := by decide +kernel
theorem dX8_loads_22 : decode cX8_loads 22 = .ok (.iload_n 3, 1) := by decide +kernel
theorem dX8_loads_23 : decode cX8_loads 23 = .ok (.bipush 11, 2) := by decide +kernel
theorem dX8_loads_25 : decode cX8_loads 25 = .ok (.iadd, 1) := by decide +kernel
theorem dX8_loads_26 : decode cX8_loads 26 = .ok (.bipush 12, 2) := by decide +kernel
theorem dX8_loads_28 : decode cX8_loads 28 = .ok (.idiv, 1) := by decide +kernel
theorem dX8_loads_29 : decode cX8_loads 29 = .ok (.istore 4, 2) := by decide +kernel
theorem dX8_loads_31 : decode cX8_loads 31 = .ok (.iconst 0, 1) := by decide +kernel
theorem dX8_loads_32 : decode cX8_loads 32 = .ok (.istore 5, 2) := by decide +kernel
theorem dX8_loads_34 : decode cX8_loads 34 = .ok (.iload 5, 2) := by decide +kernel
theorem dX8_loads_36 : decode cX8_loads 36 = .ok (.iload 4, 2) := by decide +kernel
theorem dX8_loads_38 : decode cX8_loads 38 = .ok (.if_icmp .ge 101, 3) := by decide +kernel
theorem dX8_loads_41 : decode cX8_loads 41 = .ok (.aload_n 0, 1) := by decide +kernel
theorem dX8_loads_42 : decode cX8_loads 42 = .ok (.iconst 0, 1) := by decide +kernel
theorem dX8_loads_43 : decode cX8_loads 43 = .ok (.putfield 76, 3) := by decide +kernel
theorem dX8_loads_46 : decode cX8_loads 46 = .ok (.bipush 12, 2) := by decide +kernel
theorem dX8_loads_48 : decode cX8_loads 48 = .ok (.iload 5, 2) := by decide +kernel
theorem dX8_loads_50 : decode cX8_loads 50 = .ok (.imul, 1) := by decide +kernel
theorem dX8_loads_51 : decode cX8_loads 51 = .ok (.istore 6, 2) := by decide +kernel
theorem dX8_loads_53 : decode cX8_loads 53 = .ok (.iload 6, 2) := by decide +kernel
theorem dX8_loads_55 : decode cX8_loads 55 = .ok (.iload_n 3, 1) := by decide +kernel
theorem dX8_loads_56 : decode cX8_loads 56 = .ok (.if_icmp .ge 48, 3) := by decide +kernel
theorem dX8_loads_59 : decode cX8_loads 59 = .ok (.iload 6, 2) := by decide +kernel
theorem dX8_loads_61 : decode cX8_loads 61 = .ok (.bipush 12, 2) := by decide +kernel
theorem dX8_loads_63 : decode cX8_loads 63 = .ok (.iload 5, 2) := by decide +kernel
theorem dX8_loads_65 : decode cX8_loads 65 = .ok (.imul, 1) := by decide +kernel
theorem dX8_loads_66 : decode cX8_loads 66 = .ok (.bipush 12, 2) := by decide +kernel
theorem dX8_loads_68 : decode cX8_loads 68 = .ok (.iadd, 1) := by decide +kernel
theorem dX8_loads_69 : decode cX8_loads 69 = .ok (.if_icmp .ge 35, 3) := by decide +kernel
theorem dX8_loads_72 : decode cX8_loads 72 = .ok (.aload_n 0, 1) := by decide +kernel
theorem dX8_loads_73 : decode cX8_loads 73 = .ok (.iload_n 1, 1) := by decide +kernel
theorem dX8_loads_74 : decode cX8_loads 74 = .ok (.iload_n 2, 1) := by decide +kernel
theorem dX8_loads_75 : decode cX8_loads 75 = .ok (.iload 6, 2) := by decide +kernel
theorem dX8_loads_77 : decode cX8_loads 77 = .ok (.imul, 1) := by decide +kernel
theorem dX8_loads_78 : decode cX8_loads 78 = .ok (.iadd, 1) := by decide +kernel
theorem dX8_loads_79 : decode cX8_loads 79 = .ok (.iconst 3, 1) := by decide +kernel
theorem dX8_loads_80 : decode cX8_loads 80 = .ok (.invokevirtual 165, 3) := by decide +kernel
theorem dX8_loads_83 : decode cX8_loads 83 = .ok (.aload_n 0, 1) := by decide +kernel
theorem dX8_loads_84 : decode cX8_loads 84 = .ok (.aload_n 0, 1) := by decide +kernel
theorem dX8_loads_85 : decode cX8_loads 85 = .ok (.getfield 76, 3) := by decide +kernel
theorem dX8_loads_88 : decode cX8_loads 88 = .ok (.aload_n 0, 1) := by decide +kernel
theorem dX8_loads_89 : decode cX8_loads 89 = .ok (.getfield 29, 3) := by decide +kernel
theorem dX8_loads_92 : decode cX8_loads 92 = .ok (.iconst 3, 1) := by decide +kernel
theorem dX8_loads_93 : decode cX8_loads 93 = .ok (.iload 6, 2) := by decide +kernel
theorem dX8_loads_95 : decode cX8_loads 95 = .ok (.invokevirtual 146, 3) := by decide +kernel
theorem dX8_loads_98 : decode cX8_loads 98 = .ok (.iinc 6 1, 3) := by decide +kernel
theorem dX8_loads_101 : decode cX8_loads 101 = .ok (.goto (-48), 3) := by decide +kernel
theorem dX8_loads_104 : decode cX8_loads 104 = .ok (.aload_n 0, 1) := by decide +kernel
theorem dX8_loads_105 : decode cX8_loads 105 = .ok (.iload 5, 2) := by decide +kernel
theorem dX8_loads_107 : decode cX8_loads 107 = .ok (.iconst 1, 1) := by decide +kernel
theorem dX8_loads_108 : decode cX8_loads 108 = .ok (.iload 5, 2) := by decide +kernel
theorem dX8_loads_110 : decode cX8_loads 110 = .ok (.iload 4, 2) := by decide +kernel
theorem dX8_loads_112 : decode cX8_loads 112 = .ok (.iconst 1, 1) := by decide +kernel
theorem dX8_loads_113 : decode cX8_loads 113 = .ok (.isub, 1) := by decide +kernel
theorem dX8_loads_114 : decode cX8_loads 114 = .ok (.if_icmp .ge 10, 3) := by decide +kernel
theorem dX8_loads_117 : decode cX8_loads 117 = .ok (.iload 5, 2) := by decide +kernel
theorem dX8_loads_119 : decode cX8_loads 119 = .ok (.iconst 2, 1) := by decide +kernel
theorem dX8_loads_120 : decode cX8_loads 120 = .ok (.iadd, 1) := by decide +kernel
theorem dX8_loads_121 : decode cX8_loads 121 = .ok (.goto 4, 3) := by decide +kernel
theorem dX8_loads_124 : decode cX8_loads 124 = .ok (.iconst 0, 1) := by decide +kernel
theorem dX8_loads_125 : decode cX8_loads 125 = .ok (.iconst 0, 1) := by decide +kernel
theorem dX8_loads_126 : decode cX8_loads 126 = .ok (.aload_n 0, 1) := by decide +kernel
theorem dX8_loads_127 : decode cX8_loads 127 = .ok (.getfield 76, 3) := by decide +kernel
theorem dX8_loads_130 : decode cX8_loads 130 = .ok (.invokevirtual 107, 3) := by decide +kernel
theorem dX8_loads_133 : decode cX8_loads 133 = .ok (.iinc 5 1, 3) := by decide +kernel
theorem dX8_loads_136 : decode cX8_loads 136 = .ok (.goto (-102), 3) := by decide +kernel
theorem dX8_loads_139 : decode cX8_loads 139 = .ok (.iload 4, 2) := by decide +kernel
theorem dX8_loads_141 : decode cX8_loads 141 = .ok (.iconst 1, 1) := by decide +kernel
theorem dX8_loads_142 : decode cX8_loads 142 = .ok (.if_icmp .le 52, 3) := by decide +kernel
theorem dX8_loads_145 : decode cX8_loads 145 = .ok (.aload_n 0, 1) := by decide +kernel
theorem dX8_loads_146 : decode cX8_loads 146 = .ok (.iload 4, 2) := by decide +kernel
theorem dX8_loads_148 : decode cX8_loads 148 = .ok (.iconst 1, 1) := by decide +kernel
theorem dX8_loads_149 : decode cX8_loads 149 = .ok (.isub, 1) := by decide +kernel
theorem dX8_loads_150 : decode cX8_loads 150 = .ok (.invokevirtual 174, 3) := by decide +kernel
theorem dX8_loads_153 : decode cX8_loads 153 = .ok (.bipush 32, 2) := by decide +kernel
theorem dX8_loads_155 : decode cX8_loads 155 = .ok (.if_icmp .ge 39, 3) := by decide +kernel
theorem dX8_loads_158 : decode cX8_loads 158 = .ok (.aload_n 0, 1) := by decide +kernel
theorem dX8_loads_159 : decode cX8_loads 159 = .ok (.iconst 0, 1) := by decide +kernel
theorem dX8_loads_160 : decode cX8_loads 160 = .ok (.putfield 76, 3) := by decide +kernel
theorem dX8_loads_163 : decode cX8_loads 163 = .ok (.aload_n 0, 1) := by decide +kernel
theorem dX8_loads_164 : decode cX8_loads 164 = .ok (.iload 4, 2) := by decide +kernel
theorem dX8_loads_166 : decode cX8_loads 166 = .ok (.iconst 2, 1) := by decide +kernel
theorem dX8_loads_167 : decode cX8_loads 167 = .ok (.isub, 1) := by decide +kernel
theorem dX8_loads_168 : decode cX8_loads 168 = .ok (.invokevirtual 143, 3) := by decide +kernel
theorem dX8_loads_171 : decode cX8_loads 171 = .ok (.aload_n 0, 1) := by decide +kernel
theorem dX8_loads_172 : decode cX8_loads 172 = .ok (.iload 4, 2) := by decide +kernel
theorem dX8_loads_174 : decode cX8_loads 174 = .ok (.iconst 1, 1) := by decide +kernel
theorem dX8_loads_175 : decode cX8_loads 175 = .ok (.isub, 1) := by decide +kernel
theorem dX8_loads_176 : decode cX8_loads 176 = .ok (.invokevirtual 143, 3) := by decide +kernel
theorem dX8_loads_179 : decode cX8_loads 179 = .ok (.aload_n 0, 1) := by decide +kernel
theorem dX8_loads_180 : decode cX8_loads 180 = .ok (.iload 4, 2) := by decide +kernel
theorem dX8_loads_182 : decode cX8_loads 182 = .ok (.iconst 2, 1) := by decide +kernel
theorem dX8_loads_183 : decode cX8_loads 183 = .ok (.isub, 1) := by decide +kernel
theorem dX8_loads_184 : decode cX8_loads 184 = .ok (.iload 4, 2) := by decide +kernel
theorem dX8_loads_186 : decode cX8_loads 186 = .ok (.iconst 1, 1) := by decide +kernel
theorem dX8_loads_187 : decode cX8_loads 187 = .ok (.isub, 1) := by decide +kernel
theorem dX8_loads_188 : decode cX8_loads 188 = .ok (.iconst 1, 1) := by decide +kernel
theorem dX8_loads_189 : decode cX8_loads 189 = .ok (.iconst 0, 1) := by decide +kernel
theorem dX8_loads_190 : decode cX8_loads 190 = .ok (.iconst 0, 1) := by decide +kernel
theorem dX8_loads_191 : decode cX8_loads 191 = .ok (.invokevirtual 153, 3) := by decide +kernel
theorem dX8_loads_194 : decode cX8_loads 194 = .ok (.aload_n 0, 1) := by decide +kernel
theorem dX8_loads_195 : decode cX8_loads 195 = .ok (.iconst 0, 1) := by decide +kernel
theorem dX8_loads_196 : decode cX8_loads 196 = .ok (.putfield 118, 3) := by decide +kernel
theorem dX8_loads_199 : decode cX8_loads 199 = .ok (.aload_n 0, 1) := by decide +kernel
theorem dX8_loads_200 : decode cX8_loads 200 = .ok (.iconst 1, 1) := by decide +kernel
theorem dX8_loads_201 : decode cX8_loads 201 = .ok (.putfield 13, 3) := by decide +kernel
theorem dX8_loads_204 : decode cX8_loads 204 = .ok (.iload 4, 2) := by decide +kernel
theorem dX8_loads_206 : decode cX8_loads 206 = .ok (.iconst 1, 1) := by decide +kernel
theorem dX8_loads_207 : decode cX8_loads 207 = .ok (.if_icmp .le 9, 3) := by decide +kernel
theorem dX8_loads_210 : decode cX8_loads 210 = .ok (.aload_n 0, 1) := by decide +kernel
theorem dX8_loads_211 : decode cX8_loads 211 = .ok (.iload 4, 2) := by decide +kernel
theorem dX8_loads_213 : decode cX8_loads 213 = .ok (.invokevirtual 190, 3) := by decide +kernel
theorem dX8_loads_216 : decode cX8_loads 216 = .ok (.aload_n 0, 1) := by decide +kernel
theorem dX8_loads_217 : decode cX8_loads 217 = .ok (.getfield 13, 3) := by decide +kernel
theorem dX8_loads_220 : decode cX8_loads 220 = .ok (.ireturn, 1) := by decide +kernel
theorem dX8_loadsInner_0 : decode cX8_loadsInner 0 = .ok (.aload_n 0, 1) := by decide +kernel
theorem dX8_loadsInner_1 : decode cX8_loadsInner 1 = .ok (.iload_n 1, 1) := by decide +kernel
theorem dX8_loadsInner_2 : decode cX8_loadsInner 2 = .ok (.putfield 118, 3) := by decide +kernel
theorem dX8_loadsInner_5 : decode cX8_loadsInner 5 = .ok (.aload_n 0, 1) := by decide +kernel
theorem dX8_loadsInner_6 : decode cX8_loadsInner 6 = .ok (.iconst 2, 1) := by decide +kernel
theorem dX8_loadsInner_7 : decode cX8_loadsInner 7 = .ok (.putfield 13, 3) := by decide +kernel
theorem dX8_loadsInner_10 : decode cX8_loadsInner 10 = .ok (.aload_n 0, 1) := by decide +kernel
theorem dX8_loadsInner_11 : decode cX8_loadsInner 11 = .ok (.aload_n 0, 1) := by decide +kernel
theorem dX8_loadsInner_12 : decode cX8_loadsInner 12 = .ok (.getfield 118, 3) := by decide +kernel
theorem dX8_loadsInner_15 : decode cX8_loadsInner 15 = .ok (.iconst 2, 1) := by decide +kernel
theorem dX8_loadsInner_16 : decode cX8_loadsInner 16 = .ok (.iconst 0, 1) := by decide +kernel
theorem dX8_loadsInner_17 : decode cX8_loadsInner 17 = .ok (.iconst 0, 1) := by decide +kernel
theorem dX8_loadsInner_18 : decode cX8_loadsInner 18 = .ok (.iconst 0, 1) := by decide +kernel
theorem dX8_loadsInner_19 : decode cX8_loadsInner 19 = .ok (.invokevirtual 107, 3) := by decide +kernel
theorem dX8_loadsInner_22 : decode cX8_loadsInner 22 = .ok (.iconst 1, 1) := by decide +kernel
theorem dX8_loadsInner_23 : decode cX8_loadsInner 23 = .ok (.istore_n 2, 1) := by decide +kernel
theorem dX8_loadsInner_24 : decode cX8_loadsInner 24 = .ok (.iload_n 2, 1) := by decide +kernel
theorem dX8_loadsInner_25 : decode cX8_loadsInner 25 = .ok (.iload_n 1, 1) := by decide +kernel
theorem dX8_loadsInner_26 : decode cX8_loadsInner 26 = .ok (.if_icmp .ge 86, 3) := by decide +kernel
theorem dX8_loadsInner_29 : decode cX8_loadsInner 29 = .ok (.aload_n 0, 1) := by decide +kernel
theorem dX8_loadsInner_30 : decode cX8_loadsInner 30 = .ok (.iconst 0, 1) := by decide +kernel
theorem dX8_loadsInner_31 : decode cX8_loadsInner 31 = .ok (.putfield 76, 3) := by decide +kernel
theorem dX8_loadsInner_34 : decode cX8_loadsInner 34 = .ok (.aload_n 0, 1) := by decide +kernel
theorem dX8_loadsInner_35 : decode cX8_loadsInner 35 = .ok (.iload_n 2, 1) := by decide +kernel
theorem dX8_loadsInner_36 : decode cX8_loadsInner 36 = .ok (.iconst 1, 1) := by decide +kernel
theorem dX8_loadsInner_37 : decode cX8_loadsInner 37 = .ok (.isub, 1) := by decide +kernel
theorem dX8_loadsInner_38 : decode cX8_loadsInner 38 = .ok (.invokevirtual 143, 3) := by decide +kernel
theorem dX8_loadsInner_41 : decode cX8_loadsInner 41 = .ok (.aload_n 0, 1) := by decide +kernel
theorem dX8_loadsInner_42 : decode cX8_loadsInner 42 = .ok (.getfield 76, 3) := by decide +kernel
theorem dX8_loadsInner_45 : decode cX8_loadsInner 45 = .ok (.istore_n 3, 1) := by decide +kernel
theorem dX8_loadsInner_46 : decode cX8_loadsInner 46 = .ok (.aload_n 0, 1) := by decide +kernel
theorem dX8_loadsInner_47 : decode cX8_loadsInner 47 = .ok (.iload_n 2, 1) := by decide +kernel
theorem dX8_loadsInner_48 : decode cX8_loadsInner 48 = .ok (.invokevirtual 143, 3) := by decide +kernel
theorem dX8_loadsInner_51 : decode cX8_loadsInner 51 = .ok (.aload_n 0, 1) := by decide +kernel
theorem dX8_loadsInner_52 : decode cX8_loadsInner 52 = .ok (.iload_n 3, 1) := by decide +kernel
theorem dX8_loadsInner_53 : decode cX8_loadsInner 53 = .ok (.aload_n 0, 1) := by decide +kernel
theorem dX8_loadsInner_54 : decode cX8_loadsInner 54 = .ok (.iload_n 3, 1) := by decide +kernel
theorem dX8_loadsInner_55 : decode cX8_loadsInner 55 = .ok (.invokevirtual 93, 3) := by decide +kernel
theorem dX8_loadsInner_58 : decode cX8_loadsInner 58 = .ok (.invokevirtual 97, 3) := by decide +kernel
theorem dX8_loadsInner_61 : decode cX8_loadsInner 61 = .ok (.aload_n 0, 1) := by decide +kernel
theorem dX8_loadsInner_62 : decode cX8_loadsInner 62 = .ok (.iconst 0, 1) := by decide +kernel
theorem dX8_loadsInner_63 : decode cX8_loadsInner 63 = .ok (.putfield 76, 3) := by decide +kernel
theorem dX8_loadsInner_66 : decode cX8_loadsInner 66 = .ok (.aload_n 0, 1) := by decide +kernel
theorem dX8_loadsInner_67 : decode cX8_loadsInner 67 = .ok (.aload_n 0, 1) := by decide +kernel
theorem dX8_loadsInner_68 : decode cX8_loadsInner 68 = .ok (.getfield 118, 3) := by decide +kernel
theorem dX8_loadsInner_71 : decode cX8_loadsInner 71 = .ok (.invokevirtual 143, 3) := by decide +kernel
theorem dX8_loadsInner_74 : decode cX8_loadsInner 74 = .ok (.aload_n 0, 1) := by decide +kernel
theorem dX8_loadsInner_75 : decode cX8_loadsInner 75 = .ok (.aload_n 0, 1) := by decide +kernel
theorem dX8_loadsInner_76 : decode cX8_loadsInner 76 = .ok (.getfield 76, 3) := by decide +kernel
theorem dX8_loadsInner_79 : decode cX8_loadsInner 79 = .ok (.aload_n 0, 1) := by decide +kernel
theorem dX8_loadsInner_80 : decode cX8_loadsInner 80 = .ok (.getfield 26, 3) := by decide +kernel
theorem dX8_loadsInner_83 : decode cX8_loadsInner 83 = .ok (.aload_n 0, 1) := by decide +kernel
theorem dX8_loadsInner_84 : decode cX8_loadsInner 84 = .ok (.getfield 90, 3) := by decide +kernel
theorem dX8_loadsInner_87 : decode cX8_loadsInner 87 = .ok (.iload_n 2, 1) := by decide +kernel
theorem dX8_loadsInner_88 : decode cX8_loadsInner 88 = .ok (.invokevirtual 146, 3) := by decide +kernel
theorem dX8_loadsInner_91 : decode cX8_loadsInner 91 = .ok (.aload_n 0, 1) := by decide +kernel
theorem dX8_loadsInner_92 : decode cX8_loadsInner 92 = .ok (.aload_n 0, 1) := by decide +kernel
theorem dX8_loadsInner_93 : decode cX8_loadsInner 93 = .ok (.getfield 118, 3) := by decide +kernel
theorem dX8_loadsInner_96 : decode cX8_loadsInner 96 = .ok (.iconst 2, 1) := by decide +kernel
theorem dX8_loadsInner_97 : decode cX8_loadsInner 97 = .ok (.iconst 0, 1) := by decide +kernel
theorem dX8_loadsInner_98 : decode cX8_loadsInner 98 = .ok (.iconst 0, 1) := by decide +kernel
theorem dX8_loadsInner_99 : decode cX8_loadsInner 99 = .ok (.aload_n 0, 1) := by decide +kernel
theorem dX8_loadsInner_100 : decode cX8_loadsInner 100 = .ok (.getfield 76, 3) := by decide +kernel
theorem dX8_loadsInner_103 : decode cX8_loadsInner 103 = .ok (.invokevirtual 107, 3) := by decide +kernel
theorem dX8_loadsInner_106 : decode cX8_loadsInner 106 = .ok (.iinc 2 1, 3) := by decide +kernel
theorem dX8_loadsInner_109 : decode cX8_loadsInner 109 = .ok (.goto (-85), 3) := by decide +kernel
theorem dX8_loadsInner_112 : decode cX8_loadsInner 112 = .ok (.return_, 1) := by decide +kernel
theorem dX8_load_0 : decode cX8_load 0 = .ok (.iload_n 1, 1) := by decide +kernel
theorem dX8_load_1 : decode cX8_load 1 = .ok (.iload_n 2, 1) := by decide +kernel
theorem dX8_load_2 : decode cX8_load 2 = .ok (.iload_n 3, 1) := by decide +kernel
theorem dX8_load_3 : decode cX8_load 3 = .ok (.invokestatic 193, 3) := by decide +kernel
theorem dX8_load_6 : decode cX8_load 6 = .ok (.ifCond .eq 13, 3) := by decide +kernel
theorem dX8_load_9 : decode cX8_load 9 = .ok (.aload_n 0, 1) := by decide +kernel
theorem dX8_load_10 : decode cX8_load 10 = .ok (.iload_n 1, 1) := by decide +kernel
theorem dX8_load_11 : decode cX8_load 11 = .ok (.iload_n 2, 1) := by decide +kernel
theorem dX8_load_12 : decode cX8_load 12 = .ok (.iload_n 3, 1) := by decide +kernel
theorem dX8_load_13 : decode cX8_load 13 = .ok (.invokevirtual 196, 3) := by decide +kernel
theorem dX8_load_16 : decode cX8_load 16 = .ok (.goto 4, 3) := by decide +kernel
theorem dX8_load_19 : decode cX8_load 19 = .ok (.iconst (-1), 1) := by decide +kernel
theorem dX8_load_20 : decode cX8_load 20 = .ok (.ireturn, 1) := by decide +kernel
theorem dX8_find_0 : decode cX8_find 0 = .ok (.iload_n 1, 1) := by decide +kernel
theorem dX8_find_1 : decode cX8_find 1 = .ok (.iload_n 2, 1) := by decide +kernel
theorem dX8_find_2 : decode cX8_find 2 = .ok (.invokestatic 162, 3) := by decide +kernel
theorem dX8_find_5 : decode cX8_find 5 = .ok (.ifCond .ne 5, 3) := by decide +kernel
theorem dX8_find_8 : decode cX8_find 8 = .ok (.iconst (-1), 1) := by decide +kernel
theorem dX8_find_9 : decode cX8_find 9 = .ok (.ireturn, 1) := by decide +kernel
theorem dX8_find_10 : decode cX8_find 10 = .ok (.aload_n 0, 1) := by decide +kernel
theorem dX8_find_11 : decode cX8_find 11 = .ok (.iload_n 1, 1) := by decide +kernel
theorem dX8_find_12 : decode cX8_find 12 = .ok (.iload_n 2, 1) := by decide +kernel
theorem dX8_find_13 : decode cX8_find 13 = .ok (.invokevirtual 165, 3) := by decide +kernel
theorem dX8_find_16 : decode cX8_find 16 = .ok (.aload_n 0, 1) := by decide +kernel
theorem dX8_find_17 : decode cX8_find 17 = .ok (.invokevirtual 200, 3) := by decide +kernel
theorem dX8_find_20 : decode cX8_find 20 = .ok (.ireturn, 1) := by decide +kernel
theorem dX8_firstLeaf_0 : decode cX8_firstLeaf 0 = .ok (.aload_n 0, 1) := by decide +kernel
theorem dX8_firstLeaf_1 : decode cX8_firstLeaf 1 = .ok (.getfield 118, 3) := by decide +kernel
theorem dX8_firstLeaf_4 : decode cX8_firstLeaf 4 = .ok (.istore_n 1, 1) := by decide +kernel
theorem dX8_firstLeaf_5 : decode cX8_firstLeaf 5 = .ok (.aload_n 0, 1) := by decide +kernel
theorem dX8_firstLeaf_6 : decode cX8_firstLeaf 6 = .ok (.iload_n 1, 1) := by decide +kernel
theorem dX8_firstLeaf_7 : decode cX8_firstLeaf 7 = .ok (.iconst 0, 1) := by decide +kernel
theorem dX8_firstLeaf_8 : decode cX8_firstLeaf 8 = .ok (.invokevirtual 69, 3) := by decide +kernel
theorem dX8_firstLeaf_11 : decode cX8_firstLeaf 11 = .ok (.iconst 2, 1) := by decide +kernel
theorem dX8_firstLeaf_12 : decode cX8_firstLeaf 12 = .ok (.if_icmp .ne 13, 3) := by decide +kernel
theorem dX8_firstLeaf_15 : decode cX8_firstLeaf 15 = .ok (.aload_n 0, 1) := by decide +kernel
theorem dX8_firstLeaf_16 : decode cX8_firstLeaf 16 = .ok (.iload_n 1, 1) := by decide +kernel
theorem dX8_firstLeaf_17 : decode cX8_firstLeaf 17 = .ok (.iconst 2, 1) := by decide +kernel
theorem dX8_firstLeaf_18 : decode cX8_firstLeaf 18 = .ok (.invokevirtual 69, 3) := by decide +kernel
theorem dX8_firstLeaf_21 : decode cX8_firstLeaf 21 = .ok (.istore_n 1, 1) := by decide +kernel
theorem dX8_firstLeaf_22 : decode cX8_firstLeaf 22 = .ok (.goto (-17), 3) := by decide +kernel
theorem dX8_firstLeaf_25 : decode cX8_firstLeaf 25 = .ok (.iload_n 1, 1) := by decide +kernel
theorem dX8_firstLeaf_26 : decode cX8_firstLeaf 26 = .ok (.ireturn, 1) := by decide +kernel
theorem dX8_nextLeaf_0 : decode cX8_nextLeaf 0 = .ok (.aload_n 0, 1) := by decide +kernel
theorem dX8_nextLeaf_1 : decode cX8_nextLeaf 1 = .ok (.iload_n 1, 1) := by decide +kernel
theorem dX8_nextLeaf_2 : decode cX8_nextLeaf 2 = .ok (.iconst 2, 1) := by decide +kernel
theorem dX8_nextLeaf_3 : decode cX8_nextLeaf 3 = .ok (.invokevirtual 69, 3) := by decide +kernel
theorem dX8_nextLeaf_6 : decode cX8_nextLeaf 6 = .ok (.ifCond .ne 8, 3) := by decide +kernel
theorem dX8_nextLeaf_9 : decode cX8_nextLeaf 9 = .ok (.bipush (-9), 2) := by decide +kernel
theorem dX8_nextLeaf_11 : decode cX8_nextLeaf 11 = .ok (.goto 11, 3) := by decide +kernel
theorem dX8_nextLeaf_14 : decode cX8_nextLeaf 14 = .ok (.aload_n 0, 1) := by decide +kernel
theorem dX8_nextLeaf_15 : decode cX8_nextLeaf 15 = .ok (.iload_n 1, 1) := by decide +kernel
theorem dX8_nextLeaf_16 : decode cX8_nextLeaf 16 = .ok (.iconst 2, 1) := by decide +kernel
theorem dX8_nextLeaf_17 : decode cX8_nextLeaf 17 = .ok (.invokevirtual 69, 3) := by decide +kernel
theorem dX8_nextLeaf_20 : decode cX8_nextLeaf 20 = .ok (.iconst 1, 1) := by decide +kernel
theorem dX8_nextLeaf_21 : decode cX8_nextLeaf 21 = .ok (.isub, 1) := by decide +kernel
theorem dX8_nextLeaf_22 : decode cX8_nextLeaf 22 = .ok (.ireturn, 1) := by decide +kernel
theorem dX8_beginsSo_0 : decode cX8_beginsSo 0 = .ok (.aload_n 0, 1) := by decide +kernel
theorem dX8_beginsSo_1 : decode cX8_beginsSo 1 = .ok (.iload_n 1, 1) := by decide +kernel
theorem dX8_beginsSo_2 : decode cX8_beginsSo 2 = .ok (.iload_n 2, 1) := by decide +kernel
theorem dX8_beginsSo_3 : decode cX8_beginsSo 3 = .ok (.invokevirtual 69, 3) := by decide +kernel
theorem dX8_beginsSo_6 : decode cX8_beginsSo 6 = .ok (.aload_n 0, 1) := by decide +kernel
theorem dX8_beginsSo_7 : decode cX8_beginsSo 7 = .ok (.getfield 111, 3) := by decide +kernel
theorem dX8_beginsSo_10 : decode cX8_beginsSo 10 = .ok (.if_icmp .lt 7, 3) := by decide +kernel
theorem dX8_beginsSo_13 : decode cX8_beginsSo 13 = .ok (.iconst 1, 1) := by decide +kernel
theorem dX8_beginsSo_14 : decode cX8_beginsSo 14 = .ok (.goto 4, 3) := by decide +kernel
theorem dX8_beginsSo_17 : decode cX8_beginsSo 17 = .ok (.iconst 0, 1) := by decide +kernel
theorem dX8_beginsSo_18 : decode cX8_beginsSo 18 = .ok (.istore_n 3, 1) := by decide +kernel
theorem dX8_beginsSo_19 : decode cX8_beginsSo 19 = .ok (.iconst 0, 1) := by decide +kernel
theorem dX8_beginsSo_20 : decode cX8_beginsSo 20 = .ok (.istore 4, 2) := by decide +kernel
theorem dX8_beginsSo_22 : decode cX8_beginsSo 22 = .ok (.iload 4, 2) := by decide +kernel
theorem dX8_beginsSo_24 : decode cX8_beginsSo 24 = .ok (.aload_n 0, 1) := by decide +kernel
theorem dX8_beginsSo_25 : decode cX8_beginsSo 25 = .ok (.getfield 111, 3) := by decide +kernel
theorem dX8_beginsSo_28 : decode cX8_beginsSo 28 = .ok (.if_icmp .ge 40, 3) := by decide +kernel
theorem dX8_beginsSo_31 : decode cX8_beginsSo 31 = .ok (.iload_n 3, 1) := by decide +kernel
theorem dX8_beginsSo_32 : decode cX8_beginsSo 32 = .ok (.ifCond .eq 36, 3) := by decide +kernel
theorem dX8_beginsSo_35 : decode cX8_beginsSo 35 = .ok (.aload_n 0, 1) := by decide +kernel
theorem dX8_beginsSo_36 : decode cX8_beginsSo 36 = .ok (.iload_n 1, 1) := by decide +kernel
theorem dX8_beginsSo_37 : decode cX8_beginsSo 37 = .ok (.iload_n 2, 1) := by decide +kernel
theorem dX8_beginsSo_38 : decode cX8_beginsSo 38 = .ok (.iconst 1, 1) := by decide +kernel
theorem dX8_beginsSo_39 : decode cX8_beginsSo 39 = .ok (.iadd, 1) := by decide +kernel
theorem dX8_beginsSo_40 : decode cX8_beginsSo 40 = .ok (.iload 4, 2) := by decide +kernel
theorem dX8_beginsSo_42 : decode cX8_beginsSo 42 = .ok (.iadd, 1) := by decide +kernel
theorem dX8_beginsSo_43 : decode cX8_beginsSo 43 = .ok (.invokevirtual 69, 3) := by decide +kernel
theorem dX8_beginsSo_46 : decode cX8_beginsSo 46 = .ok (.aload_n 0, 1) := by decide +kernel
theorem dX8_beginsSo_47 : decode cX8_beginsSo 47 = .ok (.getfield 29, 3) := by decide +kernel
theorem dX8_beginsSo_50 : decode cX8_beginsSo 50 = .ok (.iload 4, 2) := by decide +kernel
theorem dX8_beginsSo_52 : decode cX8_beginsSo 52 = .ok (.iaload, 1) := by decide +kernel
theorem dX8_beginsSo_53 : decode cX8_beginsSo 53 = .ok (.if_icmp .ne 7, 3) := by decide +kernel
theorem dX8_beginsSo_56 : decode cX8_beginsSo 56 = .ok (.iconst 1, 1) := by decide +kernel
theorem dX8_beginsSo_57 : decode cX8_beginsSo 57 = .ok (.goto 4, 3) := by decide +kernel
theorem dX8_beginsSo_60 : decode cX8_beginsSo 60 = .ok (.iconst 0, 1) := by decide +kernel
theorem dX8_beginsSo_61 : decode cX8_beginsSo 61 = .ok (.istore_n 3, 1) := by decide +kernel
theorem dX8_beginsSo_62 : decode cX8_beginsSo 62 = .ok (.iinc 4 1, 3) := by decide +kernel
theorem dX8_beginsSo_65 : decode cX8_beginsSo 65 = .ok (.goto (-43), 3) := by decide +kernel
theorem dX8_beginsSo_68 : decode cX8_beginsSo 68 = .ok (.iload_n 3, 1) := by decide +kernel
theorem dX8_beginsSo_69 : decode cX8_beginsSo 69 = .ok (.ireturn, 1) := by decide +kernel
theorem dX8_rank_0 : decode cX8_rank 0 = .ok (.iload_n 1, 1) := by decide +kernel
theorem dX8_rank_1 : decode cX8_rank 1 = .ok (.iload_n 2, 1) := by decide +kernel
theorem dX8_rank_2 : decode cX8_rank 2 = .ok (.invokestatic 162, 3) := by decide +kernel
theorem dX8_rank_5 : decode cX8_rank 5 = .ok (.ifCond .eq 12, 3) := by decide +kernel
theorem dX8_rank_8 : decode cX8_rank 8 = .ok (.iload_n 3, 1) := by decide +kernel
theorem dX8_rank_9 : decode cX8_rank 9 = .ok (.iconst 0, 1) := by decide +kernel
theorem dX8_rank_10 : decode cX8_rank 10 = .ok (.iconst 1, 1) := by decide +kernel
theorem dX8_rank_11 : decode cX8_rank 11 = .ok (.invokestatic 114, 3) := by decide +kernel
theorem dX8_rank_14 : decode cX8_rank 14 = .ok (.ifCond .ne 5, 3) := by decide +kernel
theorem dX8_rank_17 : decode cX8_rank 17 = .ok (.iconst (-1), 1) := by decide +kernel
end
section
theorem dX8_rank_18 : decode cX8_rank 18 = .ok (.ireturn, 1) := by decide +kernel
theorem dX8_rank_19 : decode cX8_rank 19 = .ok (.aload_n 0, 1) := by decide +kernel
theorem dX8_rank_20 : decode cX8_rank 20 = .ok (.iload_n 1, 1) := by decide +kernel
theorem dX8_rank_21 : decode cX8_rank 21 = .ok (.iload_n 2, 1) := by decide +kernel
theorem dX8_rank_22 : decode cX8_rank 22 = .ok (.invokevirtual 165, 3) := by decide +kernel
theorem dX8_rank_25 : decode cX8_rank 25 = .ok (.iconst 0, 1) := by decide +kernel
theorem dX8_rank_26 : decode cX8_rank 26 = .ok (.istore 4, 2) := by decide +kernel
theorem dX8_rank_28 : decode cX8_rank 28 = .ok (.aload_n 0, 1) := by decide +kernel
theorem dX8_rank_29 : decode cX8_rank 29 = .ok (.invokevirtual 203, 3) := by decide +kernel
theorem dX8_rank_32 : decode cX8_rank 32 = .ok (.istore 5, 2) := by decide +kernel
theorem dX8_rank_34 : decode cX8_rank 34 = .ok (.iload 5, 2) := by decide +kernel
theorem dX8_rank_36 : decode cX8_rank 36 = .ok (.bipush (-9), 2) := by decide +kernel
theorem dX8_rank_38 : decode cX8_rank 38 = .ok (.if_icmp .eq 101, 3) := by decide +kernel
theorem dX8_rank_41 : decode cX8_rank 41 = .ok (.iconst 3, 1) := by decide +kernel
theorem dX8_rank_42 : decode cX8_rank 42 = .ok (.istore 6, 2) := by decide +kernel
theorem dX8_rank_44 : decode cX8_rank 44 = .ok (.iconst 0, 1) := by decide +kernel
theorem dX8_rank_45 : decode cX8_rank 45 = .ok (.istore 7, 2) := by decide +kernel
theorem dX8_rank_47 : decode cX8_rank 47 = .ok (.iload 7, 2) := by decide +kernel
theorem dX8_rank_49 : decode cX8_rank 49 = .ok (.aload_n 0, 1) := by decide +kernel
theorem dX8_rank_50 : decode cX8_rank 50 = .ok (.iload 5, 2) := by decide +kernel
theorem dX8_rank_52 : decode cX8_rank 52 = .ok (.iconst 1, 1) := by decide +kernel
theorem dX8_rank_53 : decode cX8_rank 53 = .ok (.invokevirtual 69, 3) := by decide +kernel
theorem dX8_rank_56 : decode cX8_rank 56 = .ok (.if_icmp .ge 72, 3) := by decide +kernel
theorem dX8_rank_59 : decode cX8_rank 59 = .ok (.iload_n 3, 1) := by decide +kernel
theorem dX8_rank_60 : decode cX8_rank 60 = .ok (.ifCond .ne 22, 3) := by decide +kernel
theorem dX8_rank_63 : decode cX8_rank 63 = .ok (.aload_n 0, 1) := by decide +kernel
theorem dX8_rank_64 : decode cX8_rank 64 = .ok (.iload 5, 2) := by decide +kernel
theorem dX8_rank_66 : decode cX8_rank 66 = .ok (.iload 6, 2) := by decide +kernel
theorem dX8_rank_68 : decode cX8_rank 68 = .ok (.invokevirtual 121, 3) := by decide +kernel
theorem dX8_rank_71 : decode cX8_rank 71 = .ok (.ifCond .le 7, 3) := by decide +kernel
theorem dX8_rank_74 : decode cX8_rank 74 = .ok (.iconst 1, 1) := by decide +kernel
theorem dX8_rank_75 : decode cX8_rank 75 = .ok (.goto 15, 3) := by decide +kernel
theorem dX8_rank_78 : decode cX8_rank 78 = .ok (.iconst 0, 1) := by decide +kernel
theorem dX8_rank_79 : decode cX8_rank 79 = .ok (.goto 11, 3) := by decide +kernel
theorem dX8_rank_82 : decode cX8_rank 82 = .ok (.aload_n 0, 1) := by decide +kernel
theorem dX8_rank_83 : decode cX8_rank 83 = .ok (.iload 5, 2) := by decide +kernel
theorem dX8_rank_85 : decode cX8_rank 85 = .ok (.iload 6, 2) := by decide +kernel
theorem dX8_rank_87 : decode cX8_rank 87 = .ok (.invokevirtual 206, 3) := by decide +kernel
theorem dX8_rank_90 : decode cX8_rank 90 = .ok (.istore 8, 2) := by decide +kernel
theorem dX8_rank_92 : decode cX8_rank 92 = .ok (.iload 4, 2) := by decide +kernel
theorem dX8_rank_94 : decode cX8_rank 94 = .ok (.iload 8, 2) := by decide +kernel
theorem dX8_rank_96 : decode cX8_rank 96 = .ok (.ifCond .eq 7, 3) := by decide +kernel
theorem dX8_rank_99 : decode cX8_rank 99 = .ok (.iconst 1, 1) := by decide +kernel
theorem dX8_rank_100 : decode cX8_rank 100 = .ok (.goto 4, 3) := by decide +kernel
theorem dX8_rank_103 : decode cX8_rank 103 = .ok (.iconst 0, 1) := by decide +kernel
theorem dX8_rank_104 : decode cX8_rank 104 = .ok (.iadd, 1) := by decide +kernel
theorem dX8_rank_105 : decode cX8_rank 105 = .ok (.istore 4, 2) := by decide +kernel
theorem dX8_rank_107 : decode cX8_rank 107 = .ok (.iload 6, 2) := by decide +kernel
theorem dX8_rank_109 : decode cX8_rank 109 = .ok (.aload_n 0, 1) := by decide +kernel
theorem dX8_rank_110 : decode cX8_rank 110 = .ok (.iload 5, 2) := by decide +kernel
theorem dX8_rank_112 : decode cX8_rank 112 = .ok (.iload 6, 2) := by decide +kernel
theorem dX8_rank_114 : decode cX8_rank 114 = .ok (.invokevirtual 69, 3) := by decide +kernel
theorem dX8_rank_117 : decode cX8_rank 117 = .ok (.iconst 2, 1) := by decide +kernel
theorem dX8_rank_118 : decode cX8_rank 118 = .ok (.iadd, 1) := by decide +kernel
theorem dX8_rank_119 : decode cX8_rank 119 = .ok (.iadd, 1) := by decide +kernel
theorem dX8_rank_120 : decode cX8_rank 120 = .ok (.istore 6, 2) := by decide +kernel
theorem dX8_rank_122 : decode cX8_rank 122 = .ok (.iinc 7 1, 3) := by decide +kernel
theorem dX8_rank_125 : decode cX8_rank 125 = .ok (.goto (-78), 3) := by decide +kernel
theorem dX8_rank_128 : decode cX8_rank 128 = .ok (.aload_n 0, 1) := by decide +kernel
theorem dX8_rank_129 : decode cX8_rank 129 = .ok (.iload 5, 2) := by decide +kernel
theorem dX8_rank_131 : decode cX8_rank 131 = .ok (.invokevirtual 209, 3) := by decide +kernel
theorem dX8_rank_134 : decode cX8_rank 134 = .ok (.istore 5, 2) := by decide +kernel
theorem dX8_rank_136 : decode cX8_rank 136 = .ok (.goto (-102), 3) := by decide +kernel
theorem dX8_rank_139 : decode cX8_rank 139 = .ok (.iload 4, 2) := by decide +kernel
theorem dX8_rank_141 : decode cX8_rank 141 = .ok (.ireturn, 1) := by decide +kernel
theorem dX8_path_0 : decode cX8_path 0 = .ok (.iload_n 1, 1) := by decide +kernel
theorem dX8_path_1 : decode cX8_path 1 = .ok (.iload_n 2, 1) := by decide +kernel
theorem dX8_path_2 : decode cX8_path 2 = .ok (.invokestatic 162, 3) := by decide +kernel
theorem dX8_path_5 : decode cX8_path 5 = .ok (.ifCond .eq 7, 3) := by decide +kernel
theorem dX8_path_8 : decode cX8_path 8 = .ok (.iload_n 3, 1) := by decide +kernel
theorem dX8_path_9 : decode cX8_path 9 = .ok (.ifCond .ge 5, 3) := by decide +kernel
theorem dX8_path_12 : decode cX8_path 12 = .ok (.iconst (-1), 1) := by decide +kernel
theorem dX8_path_13 : decode cX8_path 13 = .ok (.ireturn, 1) := by decide +kernel
theorem dX8_path_14 : decode cX8_path 14 = .ok (.aload_n 0, 1) := by decide +kernel
theorem dX8_path_15 : decode cX8_path 15 = .ok (.iload_n 1, 1) := by decide +kernel
theorem dX8_path_16 : decode cX8_path 16 = .ok (.iload_n 2, 1) := by decide +kernel
theorem dX8_path_17 : decode cX8_path 17 = .ok (.invokevirtual 165, 3) := by decide +kernel
theorem dX8_path_20 : decode cX8_path 20 = .ok (.aload_n 0, 1) := by decide +kernel
theorem dX8_path_21 : decode cX8_path 21 = .ok (.invokevirtual 127, 3) := by decide +kernel
theorem dX8_path_24 : decode cX8_path 24 = .ok (.iload_n 3, 1) := by decide +kernel
theorem dX8_path_25 : decode cX8_path 25 = .ok (.aload_n 0, 1) := by decide +kernel
theorem dX8_path_26 : decode cX8_path 26 = .ok (.getfield 13, 3) := by decide +kernel
theorem dX8_path_29 : decode cX8_path 29 = .ok (.if_icmp .ge 12, 3) := by decide +kernel
theorem dX8_path_32 : decode cX8_path 32 = .ok (.aload_n 0, 1) := by decide +kernel
theorem dX8_path_33 : decode cX8_path 33 = .ok (.getfield 32, 3) := by decide +kernel
theorem dX8_path_36 : decode cX8_path 36 = .ok (.iload_n 3, 1) := by decide +kernel
theorem dX8_path_37 : decode cX8_path 37 = .ok (.iaload, 1) := by decide +kernel
theorem dX8_path_38 : decode cX8_path 38 = .ok (.goto 5, 3) := by decide +kernel
theorem dX8_path_41 : decode cX8_path 41 = .ok (.bipush (-9), 2) := by decide +kernel
theorem dX8_path_43 : decode cX8_path 43 = .ok (.ireturn, 1) := by decide +kernel
theorem dX8_keys_0 : decode cX8_keys 0 = .ok (.iconst 0, 1) := by decide +kernel
theorem dX8_keys_1 : decode cX8_keys 1 = .ok (.istore_n 1, 1) := by decide +kernel
theorem dX8_keys_2 : decode cX8_keys 2 = .ok (.aload_n 0, 1) := by decide +kernel
theorem dX8_keys_3 : decode cX8_keys 3 = .ok (.invokevirtual 203, 3) := by decide +kernel
theorem dX8_keys_6 : decode cX8_keys 6 = .ok (.istore_n 2, 1) := by decide +kernel
theorem dX8_keys_7 : decode cX8_keys 7 = .ok (.iload_n 2, 1) := by decide +kernel
theorem dX8_keys_8 : decode cX8_keys 8 = .ok (.bipush (-9), 2) := by decide +kernel
theorem dX8_keys_10 : decode cX8_keys 10 = .ok (.if_icmp .eq 21, 3) := by decide +kernel
theorem dX8_keys_13 : decode cX8_keys 13 = .ok (.iload_n 1, 1) := by decide +kernel
theorem dX8_keys_14 : decode cX8_keys 14 = .ok (.aload_n 0, 1) := by decide +kernel
theorem dX8_keys_15 : decode cX8_keys 15 = .ok (.iload_n 2, 1) := by decide +kernel
theorem dX8_keys_16 : decode cX8_keys 16 = .ok (.iconst 1, 1) := by decide +kernel
theorem dX8_keys_17 : decode cX8_keys 17 = .ok (.invokevirtual 69, 3) := by decide +kernel
theorem dX8_keys_20 : decode cX8_keys 20 = .ok (.iadd, 1) := by decide +kernel
theorem dX8_keys_21 : decode cX8_keys 21 = .ok (.istore_n 1, 1) := by decide +kernel
theorem dX8_keys_22 : decode cX8_keys 22 = .ok (.aload_n 0, 1) := by decide +kernel
theorem dX8_keys_23 : decode cX8_keys 23 = .ok (.iload_n 2, 1) := by decide +kernel
theorem dX8_keys_24 : decode cX8_keys 24 = .ok (.invokevirtual 209, 3) := by decide +kernel
theorem dX8_keys_27 : decode cX8_keys 27 = .ok (.istore_n 2, 1) := by decide +kernel
theorem dX8_keys_28 : decode cX8_keys 28 = .ok (.goto (-21), 3) := by decide +kernel
theorem dX8_keys_31 : decode cX8_keys 31 = .ok (.iload_n 1, 1) := by decide +kernel
theorem dX8_keys_32 : decode cX8_keys 32 = .ok (.ireturn, 1) := by decide +kernel
theorem dX8_whereIs_0 : decode cX8_whereIs 0 = .ok (.iload_n 1, 1) := by decide +kernel
theorem dX8_whereIs_1 : decode cX8_whereIs 1 = .ok (.istore_n 2, 1) := by decide +kernel
theorem dX8_whereIs_2 : decode cX8_whereIs 2 = .ok (.aload_n 0, 1) := by decide +kernel
theorem dX8_whereIs_3 : decode cX8_whereIs 3 = .ok (.invokevirtual 203, 3) := by decide +kernel
theorem dX8_whereIs_6 : decode cX8_whereIs 6 = .ok (.istore_n 3, 1) := by decide +kernel
theorem dX8_whereIs_7 : decode cX8_whereIs 7 = .ok (.iload_n 2, 1) := by decide +kernel
theorem dX8_whereIs_8 : decode cX8_whereIs 8 = .ok (.aload_n 0, 1) := by decide +kernel
theorem dX8_whereIs_9 : decode cX8_whereIs 9 = .ok (.iload_n 3, 1) := by decide +kernel
theorem dX8_whereIs_10 : decode cX8_whereIs 10 = .ok (.iconst 1, 1) := by decide +kernel
theorem dX8_whereIs_11 : decode cX8_whereIs 11 = .ok (.invokevirtual 69, 3) := by decide +kernel
theorem dX8_whereIs_14 : decode cX8_whereIs 14 = .ok (.if_icmp .lt 21, 3) := by decide +kernel
theorem dX8_whereIs_17 : decode cX8_whereIs 17 = .ok (.iload_n 2, 1) := by decide +kernel
theorem dX8_whereIs_18 : decode cX8_whereIs 18 = .ok (.aload_n 0, 1) := by decide +kernel
theorem dX8_whereIs_19 : decode cX8_whereIs 19 = .ok (.iload_n 3, 1) := by decide +kernel
theorem dX8_whereIs_20 : decode cX8_whereIs 20 = .ok (.iconst 1, 1) := by decide +kernel
theorem dX8_whereIs_21 : decode cX8_whereIs 21 = .ok (.invokevirtual 69, 3) := by decide +kernel
theorem dX8_whereIs_24 : decode cX8_whereIs 24 = .ok (.isub, 1) := by decide +kernel
theorem dX8_whereIs_25 : decode cX8_whereIs 25 = .ok (.istore_n 2, 1) := by decide +kernel
theorem dX8_whereIs_26 : decode cX8_whereIs 26 = .ok (.aload_n 0, 1) := by decide +kernel
theorem dX8_whereIs_27 : decode cX8_whereIs 27 = .ok (.iload_n 3, 1) := by decide +kernel
theorem dX8_whereIs_28 : decode cX8_whereIs 28 = .ok (.invokevirtual 209, 3) := by decide +kernel
theorem dX8_whereIs_31 : decode cX8_whereIs 31 = .ok (.istore_n 3, 1) := by decide +kernel
theorem dX8_whereIs_32 : decode cX8_whereIs 32 = .ok (.goto (-25), 3) := by decide +kernel
theorem dX8_whereIs_35 : decode cX8_whereIs 35 = .ok (.bipush 64, 2) := by decide +kernel
theorem dX8_whereIs_37 : decode cX8_whereIs 37 = .ok (.iload_n 3, 1) := by decide +kernel
theorem dX8_whereIs_38 : decode cX8_whereIs 38 = .ok (.imul, 1) := by decide +kernel
theorem dX8_whereIs_39 : decode cX8_whereIs 39 = .ok (.aload_n 0, 1) := by decide +kernel
theorem dX8_whereIs_40 : decode cX8_whereIs 40 = .ok (.iload_n 3, 1) := by decide +kernel
theorem dX8_whereIs_41 : decode cX8_whereIs 41 = .ok (.iload_n 2, 1) := by decide +kernel
theorem dX8_whereIs_42 : decode cX8_whereIs 42 = .ok (.invokevirtual 73, 3) := by decide +kernel
theorem dX8_whereIs_45 : decode cX8_whereIs 45 = .ok (.iadd, 1) := by decide +kernel
theorem dX8_whereIs_46 : decode cX8_whereIs 46 = .ok (.ireturn, 1) := by decide +kernel
theorem dX8_letter_0 : decode cX8_letter 0 = .ok (.iload_n 1, 1) := by decide +kernel
theorem dX8_letter_1 : decode cX8_letter 1 = .ok (.iconst 0, 1) := by decide +kernel
theorem dX8_letter_2 : decode cX8_letter 2 = .ok (.aload_n 0, 1) := by decide +kernel
theorem dX8_letter_3 : decode cX8_letter 3 = .ok (.invokevirtual 212, 3) := by decide +kernel
theorem dX8_letter_6 : decode cX8_letter 6 = .ok (.iconst 1, 1) := by decide +kernel
theorem dX8_letter_7 : decode cX8_letter 7 = .ok (.isub, 1) := by decide +kernel
theorem dX8_letter_8 : decode cX8_letter 8 = .ok (.invokestatic 114, 3) := by decide +kernel
theorem dX8_letter_11 : decode cX8_letter 11 = .ok (.ifCond .eq 13, 3) := by decide +kernel
theorem dX8_letter_14 : decode cX8_letter 14 = .ok (.iload_n 2, 1) := by decide +kernel
theorem dX8_letter_15 : decode cX8_letter 15 = .ok (.iconst 0, 1) := by decide +kernel
theorem dX8_letter_16 : decode cX8_letter 16 = .ok (.bipush 7, 2) := by decide +kernel
theorem dX8_letter_18 : decode cX8_letter 18 = .ok (.invokestatic 114, 3) := by decide +kernel
theorem dX8_letter_21 : decode cX8_letter 21 = .ok (.ifCond .ne 5, 3) := by decide +kernel
theorem dX8_letter_24 : decode cX8_letter 24 = .ok (.iconst (-1), 1) := by decide +kernel
theorem dX8_letter_25 : decode cX8_letter 25 = .ok (.ireturn, 1) := by decide +kernel
theorem dX8_letter_26 : decode cX8_letter 26 = .ok (.aload_n 0, 1) := by decide +kernel
theorem dX8_letter_27 : decode cX8_letter 27 = .ok (.iload_n 1, 1) := by decide +kernel
theorem dX8_letter_28 : decode cX8_letter 28 = .ok (.invokevirtual 215, 3) := by decide +kernel
theorem dX8_letter_31 : decode cX8_letter 31 = .ok (.istore_n 3, 1) := by decide +kernel
theorem dX8_letter_32 : decode cX8_letter 32 = .ok (.iload_n 2, 1) := by decide +kernel
theorem dX8_letter_33 : decode cX8_letter 33 = .ok (.aload_n 0, 1) := by decide +kernel
theorem dX8_letter_34 : decode cX8_letter 34 = .ok (.getfield 7, 3) := by decide +kernel
theorem dX8_letter_37 : decode cX8_letter 37 = .ok (.iload_n 3, 1) := by decide +kernel
theorem dX8_letter_38 : decode cX8_letter 38 = .ok (.iaload, 1) := by decide +kernel
theorem dX8_letter_39 : decode cX8_letter 39 = .ok (.if_icmp .ge 16, 3) := by decide +kernel
theorem dX8_letter_42 : decode cX8_letter 42 = .ok (.aload_n 0, 1) := by decide +kernel
theorem dX8_letter_43 : decode cX8_letter 43 = .ok (.getfield 7, 3) := by decide +kernel
theorem dX8_letter_46 : decode cX8_letter 46 = .ok (.iload_n 3, 1) := by decide +kernel
theorem dX8_letter_47 : decode cX8_letter 47 = .ok (.iconst 1, 1) := by decide +kernel
theorem dX8_letter_48 : decode cX8_letter 48 = .ok (.iadd, 1) := by decide +kernel
theorem dX8_letter_49 : decode cX8_letter 49 = .ok (.iload_n 2, 1) := by decide +kernel
theorem dX8_letter_50 : decode cX8_letter 50 = .ok (.iadd, 1) := by decide +kernel
theorem dX8_letter_51 : decode cX8_letter 51 = .ok (.iaload, 1) := by decide +kernel
theorem dX8_letter_52 : decode cX8_letter 52 = .ok (.goto 5, 3) := by decide +kernel
theorem dX8_letter_55 : decode cX8_letter 55 = .ok (.bipush (-9), 2) := by decide +kernel
theorem dX8_letter_57 : decode cX8_letter 57 = .ok (.ireturn, 1) := by decide +kernel
theorem dX8_value_0 : decode cX8_value 0 = .ok (.iload_n 1, 1) := by decide +kernel
theorem dX8_value_1 : decode cX8_value 1 = .ok (.iconst 0, 1) := by decide +kernel
theorem dX8_value_2 : decode cX8_value 2 = .ok (.aload_n 0, 1) := by decide +kernel
theorem dX8_value_3 : decode cX8_value 3 = .ok (.invokevirtual 212, 3) := by decide +kernel
theorem dX8_value_6 : decode cX8_value 6 = .ok (.iconst 1, 1) := by decide +kernel
theorem dX8_value_7 : decode cX8_value 7 = .ok (.isub, 1) := by decide +kernel
theorem dX8_value_8 : decode cX8_value 8 = .ok (.invokestatic 114, 3) := by decide +kernel
theorem dX8_value_11 : decode cX8_value 11 = .ok (.ifCond .ne 5, 3) := by decide +kernel
theorem dX8_value_14 : decode cX8_value 14 = .ok (.iconst (-1), 1) := by decide +kernel
theorem dX8_value_15 : decode cX8_value 15 = .ok (.ireturn, 1) := by decide +kernel
theorem dX8_value_16 : decode cX8_value 16 = .ok (.aload_n 0, 1) := by decide +kernel
theorem dX8_value_17 : decode cX8_value 17 = .ok (.iload_n 1, 1) := by decide +kernel
theorem dX8_value_18 : decode cX8_value 18 = .ok (.invokevirtual 215, 3) := by decide +kernel
theorem dX8_value_21 : decode cX8_value 21 = .ok (.istore_n 2, 1) := by decide +kernel
theorem dX8_value_22 : decode cX8_value 22 = .ok (.aload_n 0, 1) := by decide +kernel
theorem dX8_value_23 : decode cX8_value 23 = .ok (.getfield 7, 3) := by decide +kernel
theorem dX8_value_26 : decode cX8_value 26 = .ok (.iload_n 2, 1) := by decide +kernel
theorem dX8_value_27 : decode cX8_value 27 = .ok (.aload_n 0, 1) := by decide +kernel
theorem dX8_value_28 : decode cX8_value 28 = .ok (.getfield 7, 3) := by decide +kernel
theorem dX8_value_31 : decode cX8_value 31 = .ok (.iload_n 2, 1) := by decide +kernel
theorem dX8_value_32 : decode cX8_value 32 = .ok (.iaload, 1) := by decide +kernel
theorem dX8_value_33 : decode cX8_value 33 = .ok (.iadd, 1) := by decide +kernel
theorem dX8_value_34 : decode cX8_value 34 = .ok (.iconst 1, 1) := by decide +kernel
theorem dX8_value_35 : decode cX8_value 35 = .ok (.iadd, 1) := by decide +kernel
theorem dX8_value_36 : decode cX8_value 36 = .ok (.iaload, 1) := by decide +kernel
theorem dX8_value_37 : decode cX8_value 37 = .ok (.ireturn, 1) := by decide +kernel
theorem dX8_isPage_0 : decode cX8_isPage 0 = .ok (.iload_n 0, 1) := by decide +kernel
theorem dX8_isPage_1 : decode cX8_isPage 1 = .ok (.iconst 0, 1) := by decide +kernel
theorem dX8_isPage_2 : decode cX8_isPage 2 = .ok (.bipush 31, 2) := by decide +kernel
theorem dX8_isPage_4 : decode cX8_isPage 4 = .ok (.invokestatic 114, 3) := by decide +kernel
theorem dX8_isPage_7 : decode cX8_isPage 7 = .ok (.ireturn, 1) := by decide +kernel
theorem dX8_page_0 : decode cX8_page 0 = .ok (.iload_n 1, 1) := by decide +kernel
theorem dX8_page_1 : decode cX8_page 1 = .ok (.invokestatic 218, 3) := by decide +kernel
theorem dX8_page_4 : decode cX8_page 4 = .ok (.ifCond .eq 12, 3) := by decide +kernel
theorem dX8_page_7 : decode cX8_page 7 = .ok (.iload_n 2, 1) := by decide +kernel
theorem dX8_page_8 : decode cX8_page 8 = .ok (.iconst 0, 1) := by decide +kernel
theorem dX8_page_9 : decode cX8_page 9 = .ok (.iconst 3, 1) := by decide +kernel
theorem dX8_page_10 : decode cX8_page 10 = .ok (.invokestatic 114, 3) := by decide +kernel
theorem dX8_page_13 : decode cX8_page 13 = .ok (.ifCond .ne 5, 3) := by decide +kernel
theorem dX8_page_16 : decode cX8_page 16 = .ok (.iconst (-1), 1) := by decide +kernel
theorem dX8_page_17 : decode cX8_page 17 = .ok (.ireturn, 1) := by decide +kernel
theorem dX8_page_18 : decode cX8_page 18 = .ok (.iload_n 2, 1) := by decide +kernel
theorem dX8_page_19 : decode cX8_page 19 = .ok (.iconst 3, 1) := by decide +kernel
theorem dX8_page_20 : decode cX8_page 20 = .ok (.if_icmp .ge 12, 3) := by decide +kernel
theorem dX8_page_23 : decode cX8_page 23 = .ok (.aload_n 0, 1) := by decide +kernel
theorem dX8_page_24 : decode cX8_page 24 = .ok (.iload_n 1, 1) := by decide +kernel
theorem dX8_page_25 : decode cX8_page 25 = .ok (.iload_n 2, 1) := by decide +kernel
theorem dX8_page_26 : decode cX8_page 26 = .ok (.invokevirtual 69, 3) := by decide +kernel
theorem dX8_page_29 : decode cX8_page 29 = .ok (.goto 8, 3) := by decide +kernel
theorem dX8_page_32 : decode cX8_page 32 = .ok (.aload_n 0, 1) := by decide +kernel
theorem dX8_page_33 : decode cX8_page 33 = .ok (.iload_n 1, 1) := by decide +kernel
theorem dX8_page_34 : decode cX8_page 34 = .ok (.invokevirtual 174, 3) := by decide +kernel
theorem dX8_page_37 : decode cX8_page 37 = .ok (.ireturn, 1) := by decide +kernel
theorem dX8_byteAt_0 : decode cX8_byteAt 0 = .ok (.iload_n 1, 1) := by decide +kernel
theorem dX8_byteAt_1 : decode cX8_byteAt 1 = .ok (.invokestatic 218, 3) := by decide +kernel
theorem dX8_byteAt_4 : decode cX8_byteAt 4 = .ok (.ifCond .eq 22, 3) := by decide +kernel
theorem dX8_byteAt_7 : decode cX8_byteAt 7 = .ok (.iload_n 2, 1) := by decide +kernel
theorem dX8_byteAt_8 : decode cX8_byteAt 8 = .ok (.iconst 0, 1) := by decide +kernel
theorem dX8_byteAt_9 : decode cX8_byteAt 9 = .ok (.bipush 63, 2) := by decide +kernel
theorem dX8_byteAt_11 : decode cX8_byteAt 11 = .ok (.invokestatic 114, 3) := by decide +kernel
theorem dX8_byteAt_14 : decode cX8_byteAt 14 = .ok (.ifCond .eq 12, 3) := by decide +kernel
theorem dX8_byteAt_17 : decode cX8_byteAt 17 = .ok (.aload_n 0, 1) := by decide +kernel
theorem dX8_byteAt_18 : decode cX8_byteAt 18 = .ok (.iload_n 1, 1) := by decide +kernel
theorem dX8_byteAt_19 : decode cX8_byteAt 19 = .ok (.iload_n 2, 1) := by decide +kernel
theorem dX8_byteAt_20 : decode cX8_byteAt 20 = .ok (.invokevirtual 69, 3) := by decide +kernel
theorem dX8_byteAt_23 : decode cX8_byteAt 23 = .ok (.goto 4, 3) := by decide +kernel
theorem dX8_byteAt_26 : decode cX8_byteAt 26 = .ok (.iconst (-1), 1) := by decide +kernel
theorem dX8_byteAt_27 : decode cX8_byteAt 27 = .ok (.ireturn, 1) := by decide +kernel
theorem dX8_as_0 : decode cX8_as 0 = .ok (.bipush 64, 2) := by decide +kernel
theorem dX8_as_2 : decode cX8_as 2 = .ok (.iload_n 1, 1) := by decide +kernel
theorem dX8_as_3 : decode cX8_as 3 = .ok (.imul, 1) := by decide +kernel
theorem dX8_as_4 : decode cX8_as 4 = .ok (.iload_n 2, 1) := by decide +kernel
theorem dX8_as_5 : decode cX8_as 5 = .ok (.iadd, 1) := by decide +kernel
theorem dX8_as_6 : decode cX8_as 6 = .ok (.aload_n 0, 1) := by decide +kernel
theorem dX8_as_7 : decode cX8_as 7 = .ok (.getfield 221, 3) := by decide +kernel
theorem dX8_as_10 : decode cX8_as 10 = .ok (.if_icmp .ne 10, 3) := by decide +kernel
theorem dX8_as_13 : decode cX8_as 13 = .ok (.aload_n 0, 1) := by decide +kernel
theorem dX8_as_14 : decode cX8_as 14 = .ok (.getfield 224, 3) := by decide +kernel
theorem dX8_as_17 : decode cX8_as 17 = .ok (.goto 14, 3) := by decide +kernel
theorem dX8_as_20 : decode cX8_as 20 = .ok (.aload_n 0, 1) := by decide +kernel
theorem dX8_as_21 : decode cX8_as 21 = .ok (.getfield 7, 3) := by decide +kernel
theorem dX8_as_24 : decode cX8_as 24 = .ok (.bipush 64, 2) := by decide +kernel
theorem dX8_as_26 : decode cX8_as 26 = .ok (.iload_n 1, 1) := by decide +kernel
theorem dX8_as_27 : decode cX8_as 27 = .ok (.imul, 1) := by decide +kernel
theorem dX8_as_28 : decode cX8_as 28 = .ok (.iload_n 2, 1) := by decide +kernel
theorem dX8_as_29 : decode cX8_as 29 = .ok (.iadd, 1) := by decide +kernel
theorem dX8_as_30 : decode cX8_as 30 = .ok (.iaload, 1) := by decide +kernel
theorem dX8_as_31 : decode cX8_as 31 = .ok (.ireturn, 1) := by decide +kernel
theorem dX8_isRead_0 : decode cX8_isRead 0 = .ok (.aload_n 0, 1) := by decide +kernel
theorem dX8_isRead_1 : decode cX8_isRead 1 = .ok (.iload_n 1, 1) := by decide +kernel
theorem dX8_isRead_2 : decode cX8_isRead 2 = .ok (.iconst 1, 1) := by decide +kernel
theorem dX8_isRead_3 : decode cX8_isRead 3 = .ok (.invokevirtual 227, 3) := by decide +kernel
theorem dX8_isRead_6 : decode cX8_isRead 6 = .ok (.istore_n 3, 1) := by decide +kernel
theorem dX8_isRead_7 : decode cX8_isRead 7 = .ok (.iload_n 3, 1) := by decide +kernel
theorem dX8_isRead_8 : decode cX8_isRead 8 = .ok (.ifCond .ne 23, 3) := by decide +kernel
theorem dX8_isRead_11 : decode cX8_isRead 11 = .ok (.iload_n 1, 1) := by decide +kernel
theorem dX8_isRead_12 : decode cX8_isRead 12 = .ok (.aload_n 0, 1) := by decide +kernel
theorem dX8_isRead_13 : decode cX8_isRead 13 = .ok (.getfield 118, 3) := by decide +kernel
theorem dX8_isRead_16 : decode cX8_isRead 16 = .ok (.if_icmp .ne 13, 3) := by decide +kernel
theorem dX8_isRead_19 : decode cX8_isRead 19 = .ok (.iload_n 2, 1) := by decide +kernel
theorem dX8_isRead_20 : decode cX8_isRead 20 = .ok (.aload_n 0, 1) := by decide +kernel
theorem dX8_isRead_21 : decode cX8_isRead 21 = .ok (.getfield 13, 3) := by decide +kernel
theorem dX8_isRead_24 : decode cX8_isRead 24 = .ok (.iconst 1, 1) := by decide +kernel
theorem dX8_isRead_25 : decode cX8_isRead 25 = .ok (.isub, 1) := by decide +kernel
theorem dX8_isRead_26 : decode cX8_isRead 26 = .ok (.if_icmp .ge 5, 3) := by decide +kernel
theorem dX8_isRead_29 : decode cX8_isRead 29 = .ok (.iconst 0, 1) := by decide +kernel
theorem dX8_isRead_30 : decode cX8_isRead 30 = .ok (.ireturn, 1) := by decide +kernel
theorem dX8_isRead_31 : decode cX8_isRead 31 = .ok (.iconst 3, 1) := by decide +kernel
theorem dX8_isRead_32 : decode cX8_isRead 32 = .ok (.istore 4, 2) := by decide +kernel
theorem dX8_isRead_34 : decode cX8_isRead 34 = .ok (.iconst 0, 1) := by decide +kernel
theorem dX8_isRead_35 : decode cX8_isRead 35 = .ok (.istore 5, 2) := by decide +kernel
theorem dX8_isRead_37 : decode cX8_isRead 37 = .ok (.iload 5, 2) := by decide +kernel
theorem dX8_isRead_39 : decode cX8_isRead 39 = .ok (.iload_n 3, 1) := by decide +kernel
theorem dX8_isRead_40 : decode cX8_isRead 40 = .ok (.if_icmp .ge 103, 3) := by decide +kernel
theorem dX8_isRead_43 : decode cX8_isRead 43 = .ok (.iload 4, 2) := by decide +kernel
theorem dX8_isRead_45 : decode cX8_isRead 45 = .ok (.bipush 64, 2) := by decide +kernel
theorem dX8_isRead_47 : decode cX8_isRead 47 = .ok (.if_icmp .ge 13, 3) := by decide +kernel
theorem dX8_isRead_50 : decode cX8_isRead 50 = .ok (.aload_n 0, 1) := by decide +kernel
theorem dX8_isRead_51 : decode cX8_isRead 51 = .ok (.iload_n 1, 1) := by decide +kernel
theorem dX8_isRead_52 : decode cX8_isRead 52 = .ok (.iload 4, 2) := by decide +kernel
theorem dX8_isRead_54 : decode cX8_isRead 54 = .ok (.invokevirtual 227, 3) := by decide +kernel
theorem dX8_isRead_57 : decode cX8_isRead 57 = .ok (.goto 4, 3) := by decide +kernel
theorem dX8_isRead_60 : decode cX8_isRead 60 = .ok (.iconst 0, 1) := by decide +kernel
theorem dX8_isRead_61 : decode cX8_isRead 61 = .ok (.istore 6, 2) := by decide +kernel
theorem dX8_isRead_63 : decode cX8_isRead 63 = .ok (.iload 6, 2) := by decide +kernel
theorem dX8_isRead_65 : decode cX8_isRead 65 = .ok (.iconst 1, 1) := by decide +kernel
theorem dX8_isRead_66 : decode cX8_isRead 66 = .ok (.bipush 8, 2) := by decide +kernel
theorem dX8_isRead_68 : decode cX8_isRead 68 = .ok (.invokestatic 114, 3) := by decide +kernel
theorem dX8_isRead_71 : decode cX8_isRead 71 = .ok (.ifCond .eq 15, 3) := by decide +kernel
theorem dX8_isRead_74 : decode cX8_isRead 74 = .ok (.iload 4, 2) := by decide +kernel
theorem dX8_isRead_76 : decode cX8_isRead 76 = .ok (.iload 6, 2) := by decide +kernel
theorem dX8_isRead_78 : decode cX8_isRead 78 = .ok (.iadd, 1) := by decide +kernel
theorem dX8_isRead_79 : decode cX8_isRead 79 = .ok (.iconst 2, 1) := by decide +kernel
theorem dX8_isRead_80 : decode cX8_isRead 80 = .ok (.iadd, 1) := by decide +kernel
theorem dX8_isRead_81 : decode cX8_isRead 81 = .ok (.bipush 64, 2) := by decide +kernel
theorem dX8_isRead_83 : decode cX8_isRead 83 = .ok (.if_icmp .le 5, 3) := by decide +kernel
theorem dX8_isRead_86 : decode cX8_isRead 86 = .ok (.iconst 0, 1) := by decide +kernel
theorem dX8_isRead_87 : decode cX8_isRead 87 = .ok (.ireturn, 1) := by decide +kernel
theorem dX8_isRead_88 : decode cX8_isRead 88 = .ok (.iconst 0, 1) := by decide +kernel
theorem dX8_isRead_89 : decode cX8_isRead 89 = .ok (.istore 7, 2) := by decide +kernel
theorem dX8_isRead_91 : decode cX8_isRead 91 = .ok (.iload 7, 2) := by decide +kernel
theorem dX8_isRead_93 : decode cX8_isRead 93 = .ok (.iload 6, 2) := by decide +kernel
theorem dX8_isRead_95 : decode cX8_isRead 95 = .ok (.if_icmp .ge 33, 3) := by decide +kernel
theorem dX8_isRead_98 : decode cX8_isRead 98 = .ok (.aload_n 0, 1) := by decide +kernel
theorem dX8_isRead_99 : decode cX8_isRead 99 = .ok (.iload_n 1, 1) := by decide +kernel
theorem dX8_isRead_100 : decode cX8_isRead 100 = .ok (.iload 4, 2) := by decide +kernel
theorem dX8_isRead_102 : decode cX8_isRead 102 = .ok (.iconst 1, 1) := by decide +kernel
theorem dX8_isRead_103 : decode cX8_isRead 103 = .ok (.iadd, 1) := by decide +kernel
theorem dX8_isRead_104 : decode cX8_isRead 104 = .ok (.iload 7, 2) := by decide +kernel
theorem dX8_isRead_106 : decode cX8_isRead 106 = .ok (.iadd, 1) := by decide +kernel
theorem dX8_isRead_107 : decode cX8_isRead 107 = .ok (.invokevirtual 227, 3) := by decide +kernel
theorem dX8_isRead_110 : decode cX8_isRead 110 = .ok (.bipush 97, 2) := by decide +kernel
theorem dX8_isRead_112 : decode cX8_isRead 112 = .ok (.bipush 122, 2) := by decide +kernel
theorem dX8_isRead_114 : decode cX8_isRead 114 = .ok (.invokestatic 114, 3) := by decide +kernel
theorem dX8_isRead_117 : decode cX8_isRead 117 = .ok (.ifCond .ne 5, 3) := by decide +kernel
theorem dX8_isRead_120 : decode cX8_isRead 120 = .ok (.iconst 0, 1) := by decide +kernel
theorem dX8_isRead_121 : decode cX8_isRead 121 = .ok (.ireturn, 1) := by decide +kernel
theorem dX8_isRead_122 : decode cX8_isRead 122 = .ok (.iinc 7 1, 3) := by decide +kernel
theorem dX8_isRead_125 : decode cX8_isRead 125 = .ok (.goto (-34), 3) := by decide +kernel
theorem dX8_isRead_128 : decode cX8_isRead 128 = .ok (.iload 4, 2) := by decide +kernel
theorem dX8_isRead_130 : decode cX8_isRead 130 = .ok (.iload 6, 2) := by decide +kernel
theorem dX8_isRead_132 : decode cX8_isRead 132 = .ok (.iconst 2, 1) := by decide +kernel
theorem dX8_isRead_133 : decode cX8_isRead 133 = .ok (.iadd, 1) := by decide +kernel
theorem dX8_isRead_134 : decode cX8_isRead 134 = .ok (.iadd, 1) := by decide +kernel
theorem dX8_isRead_135 : decode cX8_isRead 135 = .ok (.istore 4, 2) := by decide +kernel
theorem dX8_isRead_137 : decode cX8_isRead 137 = .ok (.iinc 5 1, 3) := by decide +kernel
theorem dX8_isRead_140 : decode cX8_isRead 140 = .ok (.goto (-103), 3) := by decide +kernel
theorem dX8_isRead_143 : decode cX8_isRead 143 = .ok (.iconst 1, 1) := by decide +kernel
theorem dX8_isRead_144 : decode cX8_isRead 144 = .ok (.istore 5, 2) := by decide +kernel
theorem dX8_isRead_146 : decode cX8_isRead 146 = .ok (.iload 4, 2) := by decide +kernel
theorem dX8_isRead_148 : decode cX8_isRead 148 = .ok (.istore 6, 2) := by decide +kernel
theorem dX8_isRead_150 : decode cX8_isRead 150 = .ok (.iload 6, 2) := by decide +kernel
theorem dX8_isRead_152 : decode cX8_isRead 152 = .ok (.bipush 64, 2) := by decide +kernel
theorem dX8_isRead_154 : decode cX8_isRead 154 = .ok (.if_icmp .ge 31, 3) := by decide +kernel
theorem dX8_isRead_157 : decode cX8_isRead 157 = .ok (.iload 5, 2) := by decide +kernel
theorem dX8_isRead_159 : decode cX8_isRead 159 = .ok (.ifCond .eq 17, 3) := by decide +kernel
theorem dX8_isRead_162 : decode cX8_isRead 162 = .ok (.aload_n 0, 1) := by decide +kernel
theorem dX8_isRead_163 : decode cX8_isRead 163 = .ok (.iload_n 1, 1) := by decide +kernel
theorem dX8_isRead_164 : decode cX8_isRead 164 = .ok (.iload 6, 2) := by decide +kernel
theorem dX8_isRead_166 : decode cX8_isRead 166 = .ok (.invokevirtual 227, 3) := by decide +kernel
theorem dX8_isRead_169 : decode cX8_isRead 169 = .ok (.ifCond .ne 7, 3) := by decide +kernel
theorem dX8_isRead_172 : decode cX8_isRead 172 = .ok (.iconst 1, 1) := by decide +kernel
theorem dX8_isRead_173 : decode cX8_isRead 173 = .ok (.goto 4, 3) := by decide +kernel
theorem dX8_isRead_176 : decode cX8_isRead 176 = .ok (.iconst 0, 1) := by decide +kernel
theorem dX8_isRead_177 : decode cX8_isRead 177 = .ok (.istore 5, 2) := by decide +kernel
theorem dX8_isRead_179 : decode cX8_isRead 179 = .ok (.iinc 6 1, 3) := by decide +kernel
theorem dX8_isRead_182 : decode cX8_isRead 182 = .ok (.goto (-32), 3) := by decide +kernel
theorem dX8_isRead_185 : decode cX8_isRead 185 = .ok (.iload 5, 2) := by decide +kernel
theorem dX8_isRead_187 : decode cX8_isRead 187 = .ok (.ireturn, 1) := by decide +kernel
theorem dX8_compares_0 : decode cX8_compares 0 = .ok (.iload_n 1, 1) := by decide +kernel
theorem dX8_compares_1 : decode cX8_compares 1 = .ok (.bipush 64, 2) := by decide +kernel
theorem dX8_compares_3 : decode cX8_compares 3 = .ok (.idiv, 1) := by decide +kernel
theorem dX8_compares_4 : decode cX8_compares 4 = .ok (.istore_n 3, 1) := by decide +kernel
theorem dX8_compares_5 : decode cX8_compares 5 = .ok (.iload_n 2, 1) := by decide +kernel
theorem dX8_compares_6 : decode cX8_compares 6 = .ok (.bipush 64, 2) := by decide +kernel
theorem dX8_compares_8 : decode cX8_compares 8 = .ok (.idiv, 1) := by decide +kernel
theorem dX8_compares_9 : decode cX8_compares 9 = .ok (.istore 4, 2) := by decide +kernel
theorem dX8_compares_11 : decode cX8_compares 11 = .ok (.aload_n 0, 1) := by decide +kernel
theorem dX8_compares_12 : decode cX8_compares 12 = .ok (.iload_n 3, 1) := by decide +kernel
theorem dX8_compares_13 : decode cX8_compares 13 = .ok (.iload_n 1, 1) := by decide +kernel
theorem dX8_compares_14 : decode cX8_compares 14 = .ok (.bipush 64, 2) := by decide +kernel
theorem dX8_compares_16 : decode cX8_compares 16 = .ok (.irem, 1) := by decide +kernel
theorem dX8_compares_17 : decode cX8_compares 17 = .ok (.invokevirtual 227, 3) := by decide +kernel
theorem dX8_compares_20 : decode cX8_compares 20 = .ok (.istore 5, 2) := by decide +kernel
theorem dX8_compares_22 : decode cX8_compares 22 = .ok (.aload_n 0, 1) := by decide +kernel
theorem dX8_compares_23 : decode cX8_compares 23 = .ok (.iload 4, 2) := by decide +kernel
theorem dX8_compares_25 : decode cX8_compares 25 = .ok (.iload_n 2, 1) := by decide +kernel
theorem dX8_compares_26 : decode cX8_compares 26 = .ok (.bipush 64, 2) := by decide +kernel
theorem dX8_compares_28 : decode cX8_compares 28 = .ok (.irem, 1) := by decide +kernel
theorem dX8_compares_29 : decode cX8_compares 29 = .ok (.invokevirtual 227, 3) := by decide +kernel
theorem dX8_compares_32 : decode cX8_compares 32 = .ok (.istore 6, 2) := by decide +kernel
theorem dX8_compares_34 : decode cX8_compares 34 = .ok (.iconst 0, 1) := by decide +kernel
theorem dX8_compares_35 : decode cX8_compares 35 = .ok (.istore 7, 2) := by decide +kernel
theorem dX8_compares_37 : decode cX8_compares 37 = .ok (.iload 7, 2) := by decide +kernel
theorem dX8_compares_39 : decode cX8_compares 39 = .ok (.iload 5, 2) := by decide +kernel
theorem dX8_compares_41 : decode cX8_compares 41 = .ok (.if_icmp .ge 48, 3) := by decide +kernel
theorem dX8_compares_44 : decode cX8_compares 44 = .ok (.iload 7, 2) := by decide +kernel
theorem dX8_compares_46 : decode cX8_compares 46 = .ok (.iload 6, 2) := by decide +kernel
theorem dX8_compares_48 : decode cX8_compares 48 = .ok (.if_icmp .ge 41, 3) := by decide +kernel
theorem dX8_compares_51 : decode cX8_compares 51 = .ok (.aload_n 0, 1) := by decide +kernel
theorem dX8_compares_52 : decode cX8_compares 52 = .ok (.iload_n 3, 1) := by decide +kernel
theorem dX8_compares_53 : decode cX8_compares 53 = .ok (.iload_n 1, 1) := by decide +kernel
theorem dX8_compares_54 : decode cX8_compares 54 = .ok (.bipush 64, 2) := by decide +kernel
theorem dX8_compares_56 : decode cX8_compares 56 = .ok (.irem, 1) := by decide +kernel
theorem dX8_compares_57 : decode cX8_compares 57 = .ok (.iconst 1, 1) := by decide +kernel
theorem dX8_compares_58 : decode cX8_compares 58 = .ok (.iadd, 1) := by decide +kernel
theorem dX8_compares_59 : decode cX8_compares 59 = .ok (.iload 7, 2) := by decide +kernel
theorem dX8_compares_61 : decode cX8_compares 61 = .ok (.iadd, 1) := by decide +kernel
theorem dX8_compares_62 : decode cX8_compares 62 = .ok (.invokevirtual 227, 3) := by decide +kernel
theorem dX8_compares_65 : decode cX8_compares 65 = .ok (.aload_n 0, 1) := by decide +kernel
theorem dX8_compares_66 : decode cX8_compares 66 = .ok (.iload 4, 2) := by decide +kernel
theorem dX8_compares_68 : decode cX8_compares 68 = .ok (.iload_n 2, 1) := by decide +kernel
theorem dX8_compares_69 : decode cX8_compares 69 = .ok (.bipush 64, 2) := by decide +kernel
theorem dX8_compares_71 : decode cX8_compares 71 = .ok (.irem, 1) := by decide +kernel
theorem dX8_compares_72 : decode cX8_compares 72 = .ok (.iconst 1, 1) := by decide +kernel
theorem dX8_compares_73 : decode cX8_compares 73 = .ok (.iadd, 1) := by decide +kernel
theorem dX8_compares_74 : decode cX8_compares 74 = .ok (.iload 7, 2) := by decide +kernel
theorem dX8_compares_76 : decode cX8_compares 76 = .ok (.iadd, 1) := by decide +kernel
theorem dX8_compares_77 : decode cX8_compares 77 = .ok (.invokevirtual 227, 3) := by decide +kernel
theorem dX8_compares_80 : decode cX8_compares 80 = .ok (.if_icmp .ne 9, 3) := by decide +kernel
theorem dX8_compares_83 : decode cX8_compares 83 = .ok (.iinc 7 1, 3) := by decide +kernel
theorem dX8_compares_86 : decode cX8_compares 86 = .ok (.goto (-49), 3) := by decide +kernel
theorem dX8_compares_89 : decode cX8_compares 89 = .ok (.iload 7, 2) := by decide +kernel
theorem dX8_compares_91 : decode cX8_compares 91 = .ok (.iload 5, 2) := by decide +kernel
theorem dX8_compares_93 : decode cX8_compares 93 = .ok (.if_icmp .ge 41, 3) := by decide +kernel
theorem dX8_compares_96 : decode cX8_compares 96 = .ok (.iload 7, 2) := by decide +kernel
theorem dX8_compares_98 : decode cX8_compares 98 = .ok (.iload 6, 2) := by decide +kernel
theorem dX8_compares_100 : decode cX8_compares 100 = .ok (.if_icmp .ge 34, 3) := by decide +kernel
theorem dX8_compares_103 : decode cX8_compares 103 = .ok (.aload_n 0, 1) := by decide +kernel
theorem dX8_compares_104 : decode cX8_compares 104 = .ok (.iload_n 3, 1) := by decide +kernel
theorem dX8_compares_105 : decode cX8_compares 105 = .ok (.iload_n 1, 1) := by decide +kernel
theorem dX8_compares_106 : decode cX8_compares 106 = .ok (.bipush 64, 2) := by decide +kernel
theorem dX8_compares_108 : decode cX8_compares 108 = .ok (.irem, 1) := by decide +kernel
theorem dX8_compares_109 : decode cX8_compares 109 = .ok (.iconst 1, 1) := by decide +kernel
theorem dX8_compares_110 : decode cX8_compares 110 = .ok (.iadd, 1) := by decide +kernel
theorem dX8_compares_111 : decode cX8_compares 111 = .ok (.iload 7, 2) := by decide +kernel
theorem dX8_compares_113 : decode cX8_compares 113 = .ok (.iadd, 1) := by decide +kernel
theorem dX8_compares_114 : decode cX8_compares 114 = .ok (.invokevirtual 227, 3) := by decide +kernel
theorem dX8_compares_117 : decode cX8_compares 117 = .ok (.aload_n 0, 1) := by decide +kernel
theorem dX8_compares_118 : decode cX8_compares 118 = .ok (.iload 4, 2) := by decide +kernel
theorem dX8_compares_120 : decode cX8_compares 120 = .ok (.iload_n 2, 1) := by decide +kernel
theorem dX8_compares_121 : decode cX8_compares 121 = .ok (.bipush 64, 2) := by decide +kernel
theorem dX8_compares_123 : decode cX8_compares 123 = .ok (.irem, 1) := by decide +kernel
theorem dX8_compares_124 : decode cX8_compares 124 = .ok (.iconst 1, 1) := by decide +kernel
theorem dX8_compares_125 : decode cX8_compares 125 = .ok (.iadd, 1) := by decide +kernel
theorem dX8_compares_126 : decode cX8_compares 126 = .ok (.iload 7, 2) := by decide +kernel
theorem dX8_compares_128 : decode cX8_compares 128 = .ok (.iadd, 1) := by decide +kernel
theorem dX8_compares_129 : decode cX8_compares 129 = .ok (.invokevirtual 227, 3) := by decide +kernel
theorem dX8_compares_132 : decode cX8_compares 132 = .ok (.isub, 1) := by decide +kernel
theorem dX8_compares_133 : decode cX8_compares 133 = .ok (.ireturn, 1) := by decide +kernel
theorem dX8_compares_134 : decode cX8_compares 134 = .ok (.iload 5, 2) := by decide +kernel
theorem dX8_compares_136 : decode cX8_compares 136 = .ok (.iload 6, 2) := by decide +kernel
theorem dX8_compares_138 : decode cX8_compares 138 = .ok (.isub, 1) := by decide +kernel
theorem dX8_compares_139 : decode cX8_compares 139 = .ok (.ireturn, 1) := by decide +kernel
theorem dX8_rises_0 : decode cX8_rises 0 = .ok (.iconst 1, 1) := by decide +kernel
theorem dX8_rises_1 : decode cX8_rises 1 = .ok (.istore_n 2, 1) := by decide +kernel
theorem dX8_rises_2 : decode cX8_rises 2 = .ok (.iconst 3, 1) := by decide +kernel
theorem dX8_rises_3 : decode cX8_rises 3 = .ok (.istore_n 3, 1) := by decide +kernel
theorem dX8_rises_4 : decode cX8_rises 4 = .ok (.iconst 0, 1) := by decide +kernel
theorem dX8_rises_5 : decode cX8_rises 5 = .ok (.istore 4, 2) := by decide +kernel
theorem dX8_rises_7 : decode cX8_rises 7 = .ok (.iload 4, 2) := by decide +kernel
theorem dX8_rises_9 : decode cX8_rises 9 = .ok (.iconst 1, 1) := by decide +kernel
theorem dX8_rises_10 : decode cX8_rises 10 = .ok (.iadd, 1) := by decide +kernel
theorem dX8_rises_11 : decode cX8_rises 11 = .ok (.aload_n 0, 1) := by decide +kernel
theorem dX8_rises_12 : decode cX8_rises 12 = .ok (.iload_n 1, 1) := by decide +kernel
theorem dX8_rises_13 : decode cX8_rises 13 = .ok (.iconst 1, 1) := by decide +kernel
theorem dX8_rises_14 : decode cX8_rises 14 = .ok (.invokevirtual 227, 3) := by decide +kernel
theorem dX8_rises_17 : decode cX8_rises 17 = .ok (.if_icmp .ge 54, 3) := by decide +kernel
theorem dX8_rises_20 : decode cX8_rises 20 = .ok (.iload_n 3, 1) := by decide +kernel
theorem dX8_rises_21 : decode cX8_rises 21 = .ok (.aload_n 0, 1) := by decide +kernel
theorem dX8_rises_22 : decode cX8_rises 22 = .ok (.iload_n 1, 1) := by decide +kernel
theorem dX8_rises_23 : decode cX8_rises 23 = .ok (.iload_n 3, 1) := by decide +kernel
theorem dX8_rises_24 : decode cX8_rises 24 = .ok (.invokevirtual 227, 3) := by decide +kernel
theorem dX8_rises_27 : decode cX8_rises 27 = .ok (.iadd, 1) := by decide +kernel
theorem dX8_rises_28 : decode cX8_rises 28 = .ok (.iconst 2, 1) := by decide +kernel
theorem dX8_rises_29 : decode cX8_rises 29 = .ok (.iadd, 1) := by decide +kernel
theorem dX8_rises_30 : decode cX8_rises 30 = .ok (.istore 5, 2) := by decide +kernel
theorem dX8_rises_32 : decode cX8_rises 32 = .ok (.iload_n 2, 1) := by decide +kernel
theorem dX8_rises_33 : decode cX8_rises 33 = .ok (.ifCond .eq 27, 3) := by decide +kernel
theorem dX8_rises_36 : decode cX8_rises 36 = .ok (.aload_n 0, 1) := by decide +kernel
theorem dX8_rises_37 : decode cX8_rises 37 = .ok (.bipush 64, 2) := by decide +kernel
theorem dX8_rises_39 : decode cX8_rises 39 = .ok (.iload_n 1, 1) := by decide +kernel
theorem dX8_rises_40 : decode cX8_rises 40 = .ok (.imul, 1) := by decide +kernel
theorem dX8_rises_41 : decode cX8_rises 41 = .ok (.iload_n 3, 1) := by decide +kernel
theorem dX8_rises_42 : decode cX8_rises 42 = .ok (.iadd, 1) := by decide +kernel
theorem dX8_rises_43 : decode cX8_rises 43 = .ok (.bipush 64, 2) := by decide +kernel
theorem dX8_rises_45 : decode cX8_rises 45 = .ok (.iload_n 1, 1) := by decide +kernel
theorem dX8_rises_46 : decode cX8_rises 46 = .ok (.imul, 1) := by decide +kernel
theorem dX8_rises_47 : decode cX8_rises 47 = .ok (.iload 5, 2) := by decide +kernel
theorem dX8_rises_49 : decode cX8_rises 49 = .ok (.iadd, 1) := by decide +kernel
theorem dX8_rises_50 : decode cX8_rises 50 = .ok (.invokevirtual 230, 3) := by decide +kernel
theorem dX8_rises_53 : decode cX8_rises 53 = .ok (.ifCond .ge 7, 3) := by decide +kernel
theorem dX8_rises_56 : decode cX8_rises 56 = .ok (.iconst 1, 1) := by decide +kernel
theorem dX8_rises_57 : decode cX8_rises 57 = .ok (.goto 4, 3) := by decide +kernel
theorem dX8_rises_60 : decode cX8_rises 60 = .ok (.iconst 0, 1) := by decide +kernel
theorem dX8_rises_61 : decode cX8_rises 61 = .ok (.istore_n 2, 1) := by decide +kernel
theorem dX8_rises_62 : decode cX8_rises 62 = .ok (.iload 5, 2) := by decide +kernel
theorem dX8_rises_64 : decode cX8_rises 64 = .ok (.istore_n 3, 1) := by decide +kernel
theorem dX8_rises_65 : decode cX8_rises 65 = .ok (.iinc 4 1, 3) := by decide +kernel
theorem dX8_rises_68 : decode cX8_rises 68 = .ok (.goto (-61), 3) := by decide +kernel
theorem dX8_rises_71 : decode cX8_rises 71 = .ok (.iload_n 2, 1) := by decide +kernel
theorem dX8_rises_72 : decode cX8_rises 72 = .ok (.ireturn, 1) := by decide +kernel
theorem dX8_isWithin_0 : decode cX8_isWithin 0 = .ok (.iconst 1, 1) := by decide +kernel
theorem dX8_isWithin_1 : decode cX8_isWithin 1 = .ok (.istore 4, 2) := by decide +kernel
theorem dX8_isWithin_3 : decode cX8_isWithin 3 = .ok (.iconst 3, 1) := by decide +kernel
theorem dX8_isWithin_4 : decode cX8_isWithin 4 = .ok (.istore 5, 2) := by decide +kernel
theorem dX8_isWithin_6 : decode cX8_isWithin 6 = .ok (.iconst 0, 1) := by decide +kernel
theorem dX8_isWithin_7 : decode cX8_isWithin 7 = .ok (.istore 6, 2) := by decide +kernel
theorem dX8_isWithin_9 : decode cX8_isWithin 9 = .ok (.iload 6, 2) := by decide +kernel
theorem dX8_isWithin_11 : decode cX8_isWithin 11 = .ok (.aload_n 0, 1) := by decide +kernel
theorem dX8_isWithin_12 : decode cX8_isWithin 12 = .ok (.iload_n 1, 1) := by decide +kernel
theorem dX8_isWithin_13 : decode cX8_isWithin 13 = .ok (.iconst 1, 1) := by decide +kernel
theorem dX8_isWithin_14 : decode cX8_isWithin 14 = .ok (.invokevirtual 227, 3) := by decide +kernel
theorem dX8_isWithin_17 : decode cX8_isWithin 17 = .ok (.if_icmp .ge 76, 3) := by decide +kernel
theorem dX8_isWithin_20 : decode cX8_isWithin 20 = .ok (.bipush 64, 2) := by decide +kernel
theorem dX8_isWithin_22 : decode cX8_isWithin 22 = .ok (.iload_n 1, 1) := by decide +kernel
theorem dX8_isWithin_23 : decode cX8_isWithin 23 = .ok (.imul, 1) := by decide +kernel
theorem dX8_isWithin_24 : decode cX8_isWithin 24 = .ok (.iload 5, 2) := by decide +kernel
theorem dX8_isWithin_26 : decode cX8_isWithin 26 = .ok (.iadd, 1) := by decide +kernel
theorem dX8_isWithin_27 : decode cX8_isWithin 27 = .ok (.istore 7, 2) := by decide +kernel
theorem dX8_isWithin_29 : decode cX8_isWithin 29 = .ok (.iload 4, 2) := by decide +kernel
theorem dX8_isWithin_31 : decode cX8_isWithin 31 = .ok (.ifCond .eq 39, 3) := by decide +kernel
theorem dX8_isWithin_34 : decode cX8_isWithin 34 = .ok (.iload_n 2, 1) := by decide +kernel
theorem dX8_isWithin_35 : decode cX8_isWithin 35 = .ok (.bipush (-9), 2) := by decide +kernel
theorem dX8_isWithin_37 : decode cX8_isWithin 37 = .ok (.if_icmp .eq 13, 3) := by decide +kernel
theorem dX8_isWithin_40 : decode cX8_isWithin 40 = .ok (.aload_n 0, 1) := by decide +kernel
theorem dX8_isWithin_41 : decode cX8_isWithin 41 = .ok (.iload 7, 2) := by decide +kernel
theorem dX8_isWithin_43 : decode cX8_isWithin 43 = .ok (.iload_n 2, 1) := by decide +kernel
theorem dX8_isWithin_44 : decode cX8_isWithin 44 = .ok (.invokevirtual 230, 3) := by decide +kernel
theorem dX8_isWithin_47 : decode cX8_isWithin 47 = .ok (.ifCond .lt 23, 3) := by decide +kernel
theorem dX8_isWithin_50 : decode cX8_isWithin 50 = .ok (.iload_n 3, 1) := by decide +kernel
theorem dX8_isWithin_51 : decode cX8_isWithin 51 = .ok (.bipush (-9), 2) := by decide +kernel
theorem dX8_isWithin_53 : decode cX8_isWithin 53 = .ok (.if_icmp .eq 13, 3) := by decide +kernel
theorem dX8_isWithin_56 : decode cX8_isWithin 56 = .ok (.aload_n 0, 1) := by decide +kernel
theorem dX8_isWithin_57 : decode cX8_isWithin 57 = .ok (.iload 7, 2) := by decide +kernel
theorem dX8_isWithin_59 : decode cX8_isWithin 59 = .ok (.iload_n 3, 1) := by decide +kernel
theorem dX8_isWithin_60 : decode cX8_isWithin 60 = .ok (.invokevirtual 230, 3) := by decide +kernel
theorem dX8_isWithin_63 : decode cX8_isWithin 63 = .ok (.ifCond .ge 7, 3) := by decide +kernel
theorem dX8_isWithin_66 : decode cX8_isWithin 66 = .ok (.iconst 1, 1) := by decide +kernel
theorem dX8_isWithin_67 : decode cX8_isWithin 67 = .ok (.goto 4, 3) := by decide +kernel
theorem dX8_isWithin_70 : decode cX8_isWithin 70 = .ok (.iconst 0, 1) := by decide +kernel
theorem dX8_isWithin_71 : decode cX8_isWithin 71 = .ok (.istore 4, 2) := by decide +kernel
theorem dX8_isWithin_73 : decode cX8_isWithin 73 = .ok (.iload 5, 2) := by decide +kernel
theorem dX8_isWithin_75 : decode cX8_isWithin 75 = .ok (.aload_n 0, 1) := by decide +kernel
theorem dX8_isWithin_76 : decode cX8_isWithin 76 = .ok (.iload_n 1, 1) := by decide +kernel
theorem dX8_isWithin_77 : decode cX8_isWithin 77 = .ok (.iload 5, 2) := by decide +kernel
theorem dX8_isWithin_79 : decode cX8_isWithin 79 = .ok (.invokevirtual 227, 3) := by decide +kernel
theorem dX8_isWithin_82 : decode cX8_isWithin 82 = .ok (.iconst 2, 1) := by decide +kernel
theorem dX8_isWithin_83 : decode cX8_isWithin 83 = .ok (.iadd, 1) := by decide +kernel
theorem dX8_isWithin_84 : decode cX8_isWithin 84 = .ok (.iadd, 1) := by decide +kernel
theorem dX8_isWithin_85 : decode cX8_isWithin 85 = .ok (.istore 5, 2) := by decide +kernel
theorem dX8_isWithin_87 : decode cX8_isWithin 87 = .ok (.iinc 6 1, 3) := by decide +kernel
theorem dX8_isWithin_90 : decode cX8_isWithin 90 = .ok (.goto (-81), 3) := by decide +kernel
theorem dX8_isWithin_93 : decode cX8_isWithin 93 = .ok (.iload 4, 2) := by decide +kernel
theorem dX8_isWithin_95 : decode cX8_isWithin 95 = .ok (.ireturn, 1) := by decide +kernel
theorem dX8_childAs_0 : decode cX8_childAs 0 = .ok (.iload_n 2, 1) := by decide +kernel
theorem dX8_childAs_1 : decode cX8_childAs 1 = .ok (.ifCond .ne 10, 3) := by decide +kernel
theorem dX8_childAs_4 : decode cX8_childAs 4 = .ok (.aload_n 0, 1) := by decide +kernel
theorem dX8_childAs_5 : decode cX8_childAs 5 = .ok (.iload_n 1, 1) := by decide +kernel
theorem dX8_childAs_6 : decode cX8_childAs 6 = .ok (.iconst 2, 1) := by decide +kernel
theorem dX8_childAs_7 : decode cX8_childAs 7 = .ok (.invokevirtual 227, 3) := by decide +kernel
theorem dX8_childAs_10 : decode cX8_childAs 10 = .ok (.ireturn, 1) := by decide +kernel
theorem dX8_childAs_11 : decode cX8_childAs 11 = .ok (.iconst 3, 1) := by decide +kernel
theorem dX8_childAs_12 : decode cX8_childAs 12 = .ok (.istore_n 3, 1) := by decide +kernel
theorem dX8_childAs_13 : decode cX8_childAs 13 = .ok (.iconst 1, 1) := by decide +kernel
theorem dX8_childAs_14 : decode cX8_childAs 14 = .ok (.istore 4, 2) := by decide +kernel
theorem dX8_childAs_16 : decode cX8_childAs 16 = .ok (.iload 4, 2) := by decide +kernel
theorem dX8_childAs_18 : decode cX8_childAs 18 = .ok (.iload_n 2, 1) := by decide +kernel
theorem dX8_childAs_19 : decode cX8_childAs 19 = .ok (.if_icmp .ge 20, 3) := by decide +kernel
theorem dX8_childAs_22 : decode cX8_childAs 22 = .ok (.iload_n 3, 1) := by decide +kernel
theorem dX8_childAs_23 : decode cX8_childAs 23 = .ok (.aload_n 0, 1) := by decide +kernel
theorem dX8_childAs_24 : decode cX8_childAs 24 = .ok (.iload_n 1, 1) := by decide +kernel
theorem dX8_childAs_25 : decode cX8_childAs 25 = .ok (.iload_n 3, 1) := by decide +kernel
theorem dX8_childAs_26 : decode cX8_childAs 26 = .ok (.invokevirtual 227, 3) := by decide +kernel
theorem dX8_childAs_29 : decode cX8_childAs 29 = .ok (.iconst 2, 1) := by decide +kernel
theorem dX8_childAs_30 : decode cX8_childAs 30 = .ok (.iadd, 1) := by decide +kernel
theorem dX8_childAs_31 : decode cX8_childAs 31 = .ok (.iadd, 1) := by decide +kernel
theorem dX8_childAs_32 : decode cX8_childAs 32 = .ok (.istore_n 3, 1) := by decide +kernel
theorem dX8_childAs_33 : decode cX8_childAs 33 = .ok (.iinc 4 1, 3) := by decide +kernel
theorem dX8_childAs_36 : decode cX8_childAs 36 = .ok (.goto (-20), 3) := by decide +kernel
theorem dX8_childAs_39 : decode cX8_childAs 39 = .ok (.aload_n 0, 1) := by decide +kernel
theorem dX8_childAs_40 : decode cX8_childAs 40 = .ok (.iload_n 1, 1) := by decide +kernel
theorem dX8_childAs_41 : decode cX8_childAs 41 = .ok (.iload_n 3, 1) := by decide +kernel
theorem dX8_childAs_42 : decode cX8_childAs 42 = .ok (.aload_n 0, 1) := by decide +kernel
theorem dX8_childAs_43 : decode cX8_childAs 43 = .ok (.iload_n 1, 1) := by decide +kernel
theorem dX8_childAs_44 : decode cX8_childAs 44 = .ok (.iload_n 3, 1) := by decide +kernel
theorem dX8_childAs_45 : decode cX8_childAs 45 = .ok (.invokevirtual 227, 3) := by decide +kernel
theorem dX8_childAs_48 : decode cX8_childAs 48 = .ok (.iadd, 1) := by decide +kernel
theorem dX8_childAs_49 : decode cX8_childAs 49 = .ok (.iconst 1, 1) := by decide +kernel
theorem dX8_childAs_50 : decode cX8_childAs 50 = .ok (.iadd, 1) := by decide +kernel
theorem dX8_childAs_51 : decode cX8_childAs 51 = .ok (.invokevirtual 227, 3) := by decide +kernel
theorem dX8_childAs_54 : decode cX8_childAs 54 = .ok (.ireturn, 1) := by decide +kernel
theorem dX8_hasChildren_0 : decode cX8_hasChildren 0 = .ok (.iconst 1, 1) := by decide +kernel
theorem dX8_hasChildren_1 : decode cX8_hasChildren 1 = .ok (.istore_n 2, 1) := by decide +kernel
theorem dX8_hasChildren_2 : decode cX8_hasChildren 2 = .ok (.iconst 0, 1) := by decide +kernel
theorem dX8_hasChildren_3 : decode cX8_hasChildren 3 = .ok (.istore_n 3, 1) := by decide +kernel
theorem dX8_hasChildren_4 : decode cX8_hasChildren 4 = .ok (.iload_n 3, 1) := by decide +kernel
theorem dX8_hasChildren_5 : decode cX8_hasChildren 5 = .ok (.aload_n 0, 1) := by decide +kernel
theorem dX8_hasChildren_6 : decode cX8_hasChildren 6 = .ok (.iload_n 1, 1) := by decide +kernel
theorem dX8_hasChildren_7 : decode cX8_hasChildren 7 = .ok (.iconst 1, 1) := by decide +kernel
theorem dX8_hasChildren_8 : decode cX8_hasChildren 8 = .ok (.invokevirtual 227, 3) := by decide +kernel
theorem dX8_hasChildren_11 : decode cX8_hasChildren 11 = .ok (.if_icmp .gt 82, 3) := by decide +kernel
theorem dX8_hasChildren_14 : decode cX8_hasChildren 14 = .ok (.aload_n 0, 1) := by decide +kernel
theorem dX8_hasChildren_15 : decode cX8_hasChildren 15 = .ok (.iload_n 1, 1) := by decide +kernel
theorem dX8_hasChildren_16 : decode cX8_hasChildren 16 = .ok (.iload_n 3, 1) := by decide +kernel
theorem dX8_hasChildren_17 : decode cX8_hasChildren 17 = .ok (.invokevirtual 233, 3) := by decide +kernel
theorem dX8_hasChildren_20 : decode cX8_hasChildren 20 = .ok (.istore 4, 2) := by decide +kernel
theorem dX8_hasChildren_22 : decode cX8_hasChildren 22 = .ok (.iload_n 2, 1) := by decide +kernel
theorem dX8_hasChildren_23 : decode cX8_hasChildren 23 = .ok (.ifCond .eq 25, 3) := by decide +kernel
theorem dX8_hasChildren_26 : decode cX8_hasChildren 26 = .ok (.iload 4, 2) := by decide +kernel
theorem dX8_hasChildren_28 : decode cX8_hasChildren 28 = .ok (.invokestatic 218, 3) := by decide +kernel
theorem dX8_hasChildren_31 : decode cX8_hasChildren 31 = .ok (.ifCond .eq 17, 3) := by decide +kernel
theorem dX8_hasChildren_34 : decode cX8_hasChildren 34 = .ok (.aload_n 0, 1) := by decide +kernel
theorem dX8_hasChildren_35 : decode cX8_hasChildren 35 = .ok (.getfield 38, 3) := by decide +kernel
theorem dX8_hasChildren_38 : decode cX8_hasChildren 38 = .ok (.iload 4, 2) := by decide +kernel
theorem dX8_hasChildren_40 : decode cX8_hasChildren 40 = .ok (.baload, 1) := by decide +kernel
theorem dX8_hasChildren_41 : decode cX8_hasChildren 41 = .ok (.ifCond .ne 7, 3) := by decide +kernel
theorem dX8_hasChildren_44 : decode cX8_hasChildren 44 = .ok (.iconst 1, 1) := by decide +kernel
theorem dX8_hasChildren_45 : decode cX8_hasChildren 45 = .ok (.goto 4, 3) := by decide +kernel
theorem dX8_hasChildren_48 : decode cX8_hasChildren 48 = .ok (.iconst 0, 1) := by decide +kernel
theorem dX8_hasChildren_49 : decode cX8_hasChildren 49 = .ok (.istore_n 2, 1) := by decide +kernel
theorem dX8_hasChildren_50 : decode cX8_hasChildren 50 = .ok (.iconst 0, 1) := by decide +kernel
theorem dX8_hasChildren_51 : decode cX8_hasChildren 51 = .ok (.istore 5, 2) := by decide +kernel
theorem dX8_hasChildren_53 : decode cX8_hasChildren 53 = .ok (.iload 5, 2) := by decide +kernel
theorem dX8_hasChildren_55 : decode cX8_hasChildren 55 = .ok (.iload_n 3, 1) := by decide +kernel
theorem dX8_hasChildren_56 : decode cX8_hasChildren 56 = .ok (.if_icmp .ge 31, 3) := by decide +kernel
theorem dX8_hasChildren_59 : decode cX8_hasChildren 59 = .ok (.iload_n 2, 1) := by decide +kernel
theorem dX8_hasChildren_60 : decode cX8_hasChildren 60 = .ok (.ifCond .eq 19, 3) := by decide +kernel
theorem dX8_hasChildren_63 : decode cX8_hasChildren 63 = .ok (.aload_n 0, 1) := by decide +kernel
theorem dX8_hasChildren_64 : decode cX8_hasChildren 64 = .ok (.iload_n 1, 1) := by decide +kernel
theorem dX8_hasChildren_65 : decode cX8_hasChildren 65 = .ok (.iload 5, 2) := by decide +kernel
theorem dX8_hasChildren_67 : decode cX8_hasChildren 67 = .ok (.invokevirtual 233, 3) := by decide +kernel
theorem dX8_hasChildren_70 : decode cX8_hasChildren 70 = .ok (.iload 4, 2) := by decide +kernel
theorem dX8_hasChildren_72 : decode cX8_hasChildren 72 = .ok (.if_icmp .eq 7, 3) := by decide +kernel
theorem dX8_hasChildren_75 : decode cX8_hasChildren 75 = .ok (.iconst 1, 1) := by decide +kernel
theorem dX8_hasChildren_76 : decode cX8_hasChildren 76 = .ok (.goto 4, 3) := by decide +kernel
theorem dX8_hasChildren_79 : decode cX8_hasChildren 79 = .ok (.iconst 0, 1) := by decide +kernel
theorem dX8_hasChildren_80 : decode cX8_hasChildren 80 = .ok (.istore_n 2, 1) := by decide +kernel
theorem dX8_hasChildren_81 : decode cX8_hasChildren 81 = .ok (.iinc 5 1, 3) := by decide +kernel
theorem dX8_hasChildren_84 : decode cX8_hasChildren 84 = .ok (.goto (-31), 3) := by decide +kernel
theorem dX8_hasChildren_87 : decode cX8_hasChildren 87 = .ok (.iinc 3 1, 3) := by decide +kernel
theorem dX8_hasChildren_90 : decode cX8_hasChildren 90 = .ok (.goto (-86), 3) := by decide +kernel
theorem dX8_hasChildren_93 : decode cX8_hasChildren 93 = .ok (.iload_n 2, 1) := by decide +kernel
theorem dX8_hasChildren_94 : decode cX8_hasChildren 94 = .ok (.ireturn, 1) := by decide +kernel
theorem dX8_why_0 : decode cX8_why 0 = .ok (.iload_n 2, 1) := by decide +kernel
theorem dX8_why_1 : decode cX8_why 1 = .ok (.aload_n 0, 1) := by decide +kernel
theorem dX8_why_2 : decode cX8_why 2 = .ok (.getfield 13, 3) := by decide +kernel
theorem dX8_why_5 : decode cX8_why 5 = .ok (.iconst 1, 1) := by decide +kernel
theorem dX8_why_6 : decode cX8_why 6 = .ok (.isub, 1) := by decide +kernel
theorem dX8_why_7 : decode cX8_why 7 = .ok (.if_icmp .ne 7, 3) := by decide +kernel
theorem dX8_why_10 : decode cX8_why 10 = .ok (.iconst 1, 1) := by decide +kernel
theorem dX8_why_11 : decode cX8_why 11 = .ok (.goto 4, 3) := by decide +kernel
theorem dX8_why_14 : decode cX8_why 14 = .ok (.iconst 2, 1) := by decide +kernel
theorem dX8_why_15 : decode cX8_why 15 = .ok (.istore 5, 2) := by decide +kernel
theorem dX8_why_17 : decode cX8_why 17 = .ok (.aload_n 0, 1) := by decide +kernel
theorem dX8_why_18 : decode cX8_why 18 = .ok (.iload_n 1, 1) := by decide +kernel
theorem dX8_why_19 : decode cX8_why 19 = .ok (.iconst 0, 1) := by decide +kernel
theorem dX8_why_20 : decode cX8_why 20 = .ok (.invokevirtual 227, 3) := by decide +kernel
theorem dX8_why_23 : decode cX8_why 23 = .ok (.iload 5, 2) := by decide +kernel
theorem dX8_why_25 : decode cX8_why 25 = .ok (.if_icmp .eq 5, 3) := by decide +kernel
theorem dX8_why_28 : decode cX8_why 28 = .ok (.iconst 1, 1) := by decide +kernel
theorem dX8_why_29 : decode cX8_why 29 = .ok (.ireturn, 1) := by decide +kernel
theorem dX8_why_30 : decode cX8_why 30 = .ok (.aload_n 0, 1) := by decide +kernel
theorem dX8_why_31 : decode cX8_why 31 = .ok (.iload_n 1, 1) := by decide +kernel
theorem dX8_why_32 : decode cX8_why 32 = .ok (.iload_n 2, 1) := by decide +kernel
theorem dX8_why_33 : decode cX8_why 33 = .ok (.invokevirtual 236, 3) := by decide +kernel
theorem dX8_why_36 : decode cX8_why 36 = .ok (.ifCond .ne 5, 3) := by decide +kernel
theorem dX8_why_39 : decode cX8_why 39 = .ok (.iconst 2, 1) := by decide +kernel
theorem dX8_why_40 : decode cX8_why 40 = .ok (.ireturn, 1) := by decide +kernel
theorem dX8_why_41 : decode cX8_why 41 = .ok (.aload_n 0, 1) := by decide +kernel
theorem dX8_why_42 : decode cX8_why 42 = .ok (.iload_n 1, 1) := by decide +kernel
theorem dX8_why_43 : decode cX8_why 43 = .ok (.invokevirtual 239, 3) := by decide +kernel
theorem dX8_why_46 : decode cX8_why 46 = .ok (.ifCond .ne 5, 3) := by decide +kernel
theorem dX8_why_49 : decode cX8_why 49 = .ok (.iconst 3, 1) := by decide +kernel
theorem dX8_why_50 : decode cX8_why 50 = .ok (.ireturn, 1) := by decide +kernel
theorem dX8_why_51 : decode cX8_why 51 = .ok (.aload_n 0, 1) := by decide +kernel
theorem dX8_why_52 : decode cX8_why 52 = .ok (.iload_n 1, 1) := by decide +kernel
theorem dX8_why_53 : decode cX8_why 53 = .ok (.iload_n 3, 1) := by decide +kernel
theorem dX8_why_54 : decode cX8_why 54 = .ok (.iload 4, 2) := by decide +kernel
theorem dX8_why_56 : decode cX8_why 56 = .ok (.invokevirtual 242, 3) := by decide +kernel
theorem dX8_why_59 : decode cX8_why 59 = .ok (.ifCond .ne 5, 3) := by decide +kernel
theorem dX8_why_62 : decode cX8_why 62 = .ok (.iconst 4, 1) := by decide +kernel
theorem dX8_why_63 : decode cX8_why 63 = .ok (.ireturn, 1) := by decide +kernel
theorem dX8_why_64 : decode cX8_why 64 = .ok (.iload 5, 2) := by decide +kernel
theorem dX8_why_66 : decode cX8_why 66 = .ok (.iconst 2, 1) := by decide +kernel
theorem dX8_why_67 : decode cX8_why 67 = .ok (.if_icmp .ne 15, 3) := by decide +kernel
theorem dX8_why_70 : decode cX8_why 70 = .ok (.aload_n 0, 1) := by decide +kernel
theorem dX8_why_71 : decode cX8_why 71 = .ok (.iload_n 1, 1) := by decide +kernel
theorem dX8_why_72 : decode cX8_why 72 = .ok (.invokevirtual 245, 3) := by decide +kernel
theorem dX8_why_75 : decode cX8_why 75 = .ok (.ifCond .ne 7, 3) := by decide +kernel
theorem dX8_why_78 : decode cX8_why 78 = .ok (.iconst 5, 1) := by decide +kernel
theorem dX8_why_79 : decode cX8_why 79 = .ok (.goto 4, 3) := by decide +kernel
theorem dX8_why_82 : decode cX8_why 82 = .ok (.iconst 0, 1) := by decide +kernel
theorem dX8_why_83 : decode cX8_why 83 = .ok (.ireturn, 1) := by decide +kernel
theorem dX8_waits_0 : decode cX8_waits 0 = .ok (.aload_n 0, 1) := by decide +kernel
theorem dX8_waits_1 : decode cX8_waits 1 = .ok (.getfield 42, 3) := by decide +kernel
theorem dX8_waits_4 : decode cX8_waits 4 = .ok (.aload_n 0, 1) := by decide +kernel
theorem dX8_waits_5 : decode cX8_waits 5 = .ok (.getfield 248, 3) := by decide +kernel
theorem dX8_waits_8 : decode cX8_waits 8 = .ok (.iload_n 1, 1) := by decide +kernel
theorem dX8_waits_9 : decode cX8_waits 9 = .ok (.iastore, 1) := by decide +kernel
theorem dX8_waits_10 : decode cX8_waits 10 = .ok (.aload_n 0, 1) := by decide +kernel
theorem dX8_waits_11 : decode cX8_waits 11 = .ok (.getfield 45, 3) := by decide +kernel
theorem dX8_waits_14 : decode cX8_waits 14 = .ok (.aload_n 0, 1) := by decide +kernel
theorem dX8_waits_15 : decode cX8_waits 15 = .ok (.getfield 248, 3) := by decide +kernel
theorem dX8_waits_18 : decode cX8_waits 18 = .ok (.iload_n 2, 1) := by decide +kernel
theorem dX8_waits_19 : decode cX8_waits 19 = .ok (.iastore, 1) := by decide +kernel
theorem dX8_waits_20 : decode cX8_waits 20 = .ok (.aload_n 0, 1) := by decide +kernel
theorem dX8_waits_21 : decode cX8_waits 21 = .ok (.getfield 48, 3) := by decide +kernel
theorem dX8_waits_24 : decode cX8_waits 24 = .ok (.aload_n 0, 1) := by decide +kernel
theorem dX8_waits_25 : decode cX8_waits 25 = .ok (.getfield 248, 3) := by decide +kernel
theorem dX8_waits_28 : decode cX8_waits 28 = .ok (.iload_n 3, 1) := by decide +kernel
theorem dX8_waits_29 : decode cX8_waits 29 = .ok (.iastore, 1) := by decide +kernel
theorem dX8_waits_30 : decode cX8_waits 30 = .ok (.aload_n 0, 1) := by decide +kernel
theorem dX8_waits_31 : decode cX8_waits 31 = .ok (.getfield 51, 3) := by decide +kernel
theorem dX8_waits_34 : decode cX8_waits 34 = .ok (.aload_n 0, 1) := by decide +kernel
theorem dX8_waits_35 : decode cX8_waits 35 = .ok (.getfield 248, 3) := by decide +kernel
theorem dX8_waits_38 : decode cX8_waits 38 = .ok (.iload 4, 2) := by decide +kernel
theorem dX8_waits_40 : decode cX8_waits 40 = .ok (.iastore, 1) := by decide +kernel
theorem dX8_waits_41 : decode cX8_waits 41 = .ok (.aload_n 0, 1) := by decide +kernel
theorem dX8_waits_42 : decode cX8_waits 42 = .ok (.dup, 1) := by decide +kernel
theorem dX8_waits_43 : decode cX8_waits 43 = .ok (.getfield 248, 3) := by decide +kernel
theorem dX8_waits_46 : decode cX8_waits 46 = .ok (.iconst 1, 1) := by decide +kernel
theorem dX8_waits_47 : decode cX8_waits 47 = .ok (.iadd, 1) := by decide +kernel
theorem dX8_waits_48 : decode cX8_waits 48 = .ok (.putfield 248, 3) := by decide +kernel
theorem dX8_waits_51 : decode cX8_waits 51 = .ok (.return_, 1) := by decide +kernel
theorem dX8_childrenWait_0 : decode cX8_childrenWait 0 = .ok (.aload_n 0, 1) := by decide +kernel
theorem dX8_childrenWait_1 : decode cX8_childrenWait 1 = .ok (.iload_n 1, 1) := by decide +kernel
theorem dX8_childrenWait_2 : decode cX8_childrenWait 2 = .ok (.iconst 1, 1) := by decide +kernel
theorem dX8_childrenWait_3 : decode cX8_childrenWait 3 = .ok (.invokevirtual 227, 3) := by decide +kernel
theorem dX8_childrenWait_6 : decode cX8_childrenWait 6 = .ok (.istore 5, 2) := by decide +kernel
theorem dX8_childrenWait_8 : decode cX8_childrenWait 8 = .ok (.iload 5, 2) := by decide +kernel
theorem dX8_childrenWait_10 : decode cX8_childrenWait 10 = .ok (.istore 6, 2) := by decide +kernel
theorem dX8_childrenWait_12 : decode cX8_childrenWait 12 = .ok (.iload 6, 2) := by decide +kernel
theorem dX8_childrenWait_14 : decode cX8_childrenWait 14 = .ok (.ifCond .lt 78, 3) := by decide +kernel
theorem dX8_childrenWait_17 : decode cX8_childrenWait 17 = .ok (.iload 6, 2) := by decide +kernel
theorem dX8_childrenWait_19 : decode cX8_childrenWait 19 = .ok (.ifCond .ne 7, 3) := by decide +kernel
theorem dX8_childrenWait_22 : decode cX8_childrenWait 22 = .ok (.iload_n 3, 1) := by decide +kernel
theorem dX8_childrenWait_23 : decode cX8_childrenWait 23 = .ok (.goto 17, 3) := by decide +kernel
theorem dX8_childrenWait_26 : decode cX8_childrenWait 26 = .ok (.bipush 64, 2) := by decide +kernel
theorem dX8_childrenWait_28 : decode cX8_childrenWait 28 = .ok (.iload_n 1, 1) := by decide +kernel
theorem dX8_childrenWait_29 : decode cX8_childrenWait 29 = .ok (.imul, 1) := by decide +kernel
theorem dX8_childrenWait_30 : decode cX8_childrenWait 30 = .ok (.aload_n 0, 1) := by decide +kernel
theorem dX8_childrenWait_31 : decode cX8_childrenWait 31 = .ok (.iload_n 1, 1) := by decide +kernel
theorem dX8_childrenWait_32 : decode cX8_childrenWait 32 = .ok (.iload 6, 2) := by decide +kernel
theorem dX8_childrenWait_34 : decode cX8_childrenWait 34 = .ok (.iconst 1, 1) := by decide +kernel
theorem dX8_childrenWait_35 : decode cX8_childrenWait 35 = .ok (.isub, 1) := by decide +kernel
theorem dX8_childrenWait_36 : decode cX8_childrenWait 36 = .ok (.invokevirtual 251, 3) := by decide +kernel
theorem dX8_childrenWait_39 : decode cX8_childrenWait 39 = .ok (.iadd, 1) := by decide +kernel
theorem dX8_childrenWait_40 : decode cX8_childrenWait 40 = .ok (.istore 7, 2) := by decide +kernel
theorem dX8_childrenWait_42 : decode cX8_childrenWait 42 = .ok (.iload 6, 2) := by decide +kernel
theorem dX8_childrenWait_44 : decode cX8_childrenWait 44 = .ok (.iload 5, 2) := by decide +kernel
theorem dX8_childrenWait_46 : decode cX8_childrenWait 46 = .ok (.if_icmp .ne 8, 3) := by decide +kernel
theorem dX8_childrenWait_49 : decode cX8_childrenWait 49 = .ok (.iload 4, 2) := by decide +kernel
theorem dX8_childrenWait_51 : decode cX8_childrenWait 51 = .ok (.goto 15, 3) := by decide +kernel
theorem dX8_childrenWait_54 : decode cX8_childrenWait 54 = .ok (.bipush 64, 2) := by decide +kernel
theorem dX8_childrenWait_56 : decode cX8_childrenWait 56 = .ok (.iload_n 1, 1) := by decide +kernel
theorem dX8_childrenWait_57 : decode cX8_childrenWait 57 = .ok (.imul, 1) := by decide +kernel
theorem dX8_childrenWait_58 : decode cX8_childrenWait 58 = .ok (.aload_n 0, 1) := by decide +kernel
theorem dX8_childrenWait_59 : decode cX8_childrenWait 59 = .ok (.iload_n 1, 1) := by decide +kernel
theorem dX8_childrenWait_60 : decode cX8_childrenWait 60 = .ok (.iload 6, 2) := by decide +kernel
theorem dX8_childrenWait_62 : decode cX8_childrenWait 62 = .ok (.invokevirtual 251, 3) := by decide +kernel
theorem dX8_childrenWait_65 : decode cX8_childrenWait 65 = .ok (.iadd, 1) := by decide +kernel
theorem dX8_childrenWait_66 : decode cX8_childrenWait 66 = .ok (.istore 8, 2) := by decide +kernel
theorem dX8_childrenWait_68 : decode cX8_childrenWait 68 = .ok (.aload_n 0, 1) := by decide +kernel
theorem dX8_childrenWait_69 : decode cX8_childrenWait 69 = .ok (.aload_n 0, 1) := by decide +kernel
theorem dX8_childrenWait_70 : decode cX8_childrenWait 70 = .ok (.iload_n 1, 1) := by decide +kernel
theorem dX8_childrenWait_71 : decode cX8_childrenWait 71 = .ok (.iload 6, 2) := by decide +kernel
theorem dX8_childrenWait_73 : decode cX8_childrenWait 73 = .ok (.invokevirtual 233, 3) := by decide +kernel
theorem dX8_childrenWait_76 : decode cX8_childrenWait 76 = .ok (.iload_n 2, 1) := by decide +kernel
theorem dX8_childrenWait_77 : decode cX8_childrenWait 77 = .ok (.iconst 1, 1) := by decide +kernel
theorem dX8_childrenWait_78 : decode cX8_childrenWait 78 = .ok (.iadd, 1) := by decide +kernel
theorem dX8_childrenWait_79 : decode cX8_childrenWait 79 = .ok (.iload 7, 2) := by decide +kernel
theorem dX8_childrenWait_81 : decode cX8_childrenWait 81 = .ok (.iload 8, 2) := by decide +kernel
theorem dX8_childrenWait_83 : decode cX8_childrenWait 83 = .ok (.invokevirtual 254, 3) := by decide +kernel
theorem dX8_childrenWait_86 : decode cX8_childrenWait 86 = .ok (.iinc 6 (-1), 3) := by decide +kernel
theorem dX8_childrenWait_89 : decode cX8_childrenWait 89 = .ok (.goto (-77), 3) := by decide +kernel
theorem dX8_childrenWait_92 : decode cX8_childrenWait 92 = .ok (.return_, 1) := by decide +kernel
theorem dX8_startAs_0 : decode cX8_startAs 0 = .ok (.iconst 3, 1) := by decide +kernel
theorem dX8_startAs_1 : decode cX8_startAs 1 = .ok (.istore_n 3, 1) := by decide +kernel
theorem dX8_startAs_2 : decode cX8_startAs 2 = .ok (.iconst 0, 1) := by decide +kernel
theorem dX8_startAs_3 : decode cX8_startAs 3 = .ok (.istore 4, 2) := by decide +kernel
theorem dX8_startAs_5 : decode cX8_startAs 5 = .ok (.iload 4, 2) := by decide +kernel
theorem dX8_startAs_7 : decode cX8_startAs 7 = .ok (.iload_n 2, 1) := by decide +kernel
theorem dX8_startAs_8 : decode cX8_startAs 8 = .ok (.if_icmp .ge 20, 3) := by decide +kernel
theorem dX8_startAs_11 : decode cX8_startAs 11 = .ok (.iload_n 3, 1) := by decide +kernel
theorem dX8_startAs_12 : decode cX8_startAs 12 = .ok (.aload_n 0, 1) := by decide +kernel
theorem dX8_startAs_13 : decode cX8_startAs 13 = .ok (.iload_n 1, 1) := by decide +kernel
theorem dX8_startAs_14 : decode cX8_startAs 14 = .ok (.iload_n 3, 1) := by decide +kernel
theorem dX8_startAs_15 : decode cX8_startAs 15 = .ok (.invokevirtual 227, 3) := by decide +kernel
theorem dX8_startAs_18 : decode cX8_startAs 18 = .ok (.iconst 2, 1) := by decide +kernel
theorem dX8_startAs_19 : decode cX8_startAs 19 = .ok (.iadd, 1) := by decide +kernel
theorem dX8_startAs_20 : decode cX8_startAs 20 = .ok (.iadd, 1) := by decide +kernel
theorem dX8_startAs_21 : decode cX8_startAs 21 = .ok (.istore_n 3, 1) := by decide +kernel
theorem dX8_startAs_22 : decode cX8_startAs 22 = .ok (.iinc 4 1, 3) := by decide +kernel
theorem dX8_startAs_25 : decode cX8_startAs 25 = .ok (.goto (-20), 3) := by decide +kernel
theorem dX8_startAs_28 : decode cX8_startAs 28 = .ok (.iload_n 3, 1) := by decide +kernel
theorem dX8_startAs_29 : decode cX8_startAs 29 = .ok (.ireturn, 1) := by decide +kernel
theorem dX8_wrongDown_0 : decode cX8_wrongDown 0 = .ok (.aload_n 0, 1) := by decide +kernel
theorem dX8_wrongDown_1 : decode cX8_wrongDown 1 = .ok (.iconst 0, 1) := by decide +kernel
theorem dX8_wrongDown_2 : decode cX8_wrongDown 2 = .ok (.putfield 248, 3) := by decide +kernel
theorem dX8_wrongDown_5 : decode cX8_wrongDown 5 = .ok (.aload_n 0, 1) := by decide +kernel
theorem dX8_wrongDown_6 : decode cX8_wrongDown 6 = .ok (.iconst 0, 1) := by decide +kernel
theorem dX8_wrongDown_7 : decode cX8_wrongDown 7 = .ok (.putfield 258, 3) := by decide +kernel
theorem dX8_wrongDown_10 : decode cX8_wrongDown 10 = .ok (.iconst 0, 1) := by decide +kernel
theorem dX8_wrongDown_11 : decode cX8_wrongDown 11 = .ok (.istore_n 1, 1) := by decide +kernel
theorem dX8_wrongDown_12 : decode cX8_wrongDown 12 = .ok (.iload_n 1, 1) := by decide +kernel
theorem dX8_wrongDown_13 : decode cX8_wrongDown 13 = .ok (.bipush 32, 2) := by decide +kernel
theorem dX8_wrongDown_15 : decode cX8_wrongDown 15 = .ok (.if_icmp .ge 16, 3) := by decide +kernel
theorem dX8_wrongDown_18 : decode cX8_wrongDown 18 = .ok (.aload_n 0, 1) := by decide +kernel
theorem dX8_wrongDown_19 : decode cX8_wrongDown 19 = .ok (.getfield 38, 3) := by decide +kernel
theorem dX8_wrongDown_22 : decode cX8_wrongDown 22 = .ok (.iload_n 1, 1) := by decide +kernel
theorem dX8_wrongDown_23 : decode cX8_wrongDown 23 = .ok (.iconst 0, 1) := by decide +kernel
theorem dX8_wrongDown_24 : decode cX8_wrongDown 24 = .ok (.bastore, 1) := by decide +kernel
theorem dX8_wrongDown_25 : decode cX8_wrongDown 25 = .ok (.iinc 1 1, 3) := by decide +kernel
theorem dX8_wrongDown_28 : decode cX8_wrongDown 28 = .ok (.goto (-16), 3) := by decide +kernel
theorem dX8_wrongDown_31 : decode cX8_wrongDown 31 = .ok (.aload_n 0, 1) := by decide +kernel
theorem dX8_wrongDown_32 : decode cX8_wrongDown 32 = .ok (.aload_n 0, 1) := by decide +kernel
theorem dX8_wrongDown_33 : decode cX8_wrongDown 33 = .ok (.getfield 118, 3) := by decide +kernel
theorem dX8_wrongDown_36 : decode cX8_wrongDown 36 = .ok (.iconst 0, 1) := by decide +kernel
theorem dX8_wrongDown_37 : decode cX8_wrongDown 37 = .ok (.bipush (-9), 2) := by decide +kernel
theorem dX8_wrongDown_39 : decode cX8_wrongDown 39 = .ok (.bipush (-9), 2) := by decide +kernel
theorem dX8_wrongDown_41 : decode cX8_wrongDown 41 = .ok (.invokevirtual 254, 3) := by decide +kernel
theorem dX8_wrongDown_44 : decode cX8_wrongDown 44 = .ok (.aload_n 0, 1) := by decide +kernel
theorem dX8_wrongDown_45 : decode cX8_wrongDown 45 = .ok (.getfield 248, 3) := by decide +kernel
theorem dX8_wrongDown_48 : decode cX8_wrongDown 48 = .ok (.ifCond .le 130, 3) := by decide +kernel
theorem dX8_wrongDown_51 : decode cX8_wrongDown 51 = .ok (.aload_n 0, 1) := by decide +kernel
theorem dX8_wrongDown_52 : decode cX8_wrongDown 52 = .ok (.dup, 1) := by decide +kernel
theorem dX8_wrongDown_53 : decode cX8_wrongDown 53 = .ok (.getfield 248, 3) := by decide +kernel
theorem dX8_wrongDown_56 : decode cX8_wrongDown 56 = .ok (.iconst 1, 1) := by decide +kernel
theorem dX8_wrongDown_57 : decode cX8_wrongDown 57 = .ok (.isub, 1) := by decide +kernel
theorem dX8_wrongDown_58 : decode cX8_wrongDown 58 = .ok (.putfield 248, 3) := by decide +kernel
theorem dX8_wrongDown_61 : decode cX8_wrongDown 61 = .ok (.aload_n 0, 1) := by decide +kernel
theorem dX8_wrongDown_62 : decode cX8_wrongDown 62 = .ok (.getfield 42, 3) := by decide +kernel
theorem dX8_wrongDown_65 : decode cX8_wrongDown 65 = .ok (.aload_n 0, 1) := by decide +kernel
theorem dX8_wrongDown_66 : decode cX8_wrongDown 66 = .ok (.getfield 248, 3) := by decide +kernel
theorem dX8_wrongDown_69 : decode cX8_wrongDown 69 = .ok (.iaload, 1) := by decide +kernel
theorem dX8_wrongDown_70 : decode cX8_wrongDown 70 = .ok (.istore_n 1, 1) := by decide +kernel
theorem dX8_wrongDown_71 : decode cX8_wrongDown 71 = .ok (.aload_n 0, 1) := by decide +kernel
theorem dX8_wrongDown_72 : decode cX8_wrongDown 72 = .ok (.getfield 45, 3) := by decide +kernel
theorem dX8_wrongDown_75 : decode cX8_wrongDown 75 = .ok (.aload_n 0, 1) := by decide +kernel
theorem dX8_wrongDown_76 : decode cX8_wrongDown 76 = .ok (.getfield 248, 3) := by decide +kernel
theorem dX8_wrongDown_79 : decode cX8_wrongDown 79 = .ok (.iaload, 1) := by decide +kernel
theorem dX8_wrongDown_80 : decode cX8_wrongDown 80 = .ok (.istore_n 2, 1) := by decide +kernel
theorem dX8_wrongDown_81 : decode cX8_wrongDown 81 = .ok (.aload_n 0, 1) := by decide +kernel
theorem dX8_wrongDown_82 : decode cX8_wrongDown 82 = .ok (.getfield 48, 3) := by decide +kernel
theorem dX8_wrongDown_85 : decode cX8_wrongDown 85 = .ok (.aload_n 0, 1) := by decide +kernel
theorem dX8_wrongDown_86 : decode cX8_wrongDown 86 = .ok (.getfield 248, 3) := by decide +kernel
theorem dX8_wrongDown_89 : decode cX8_wrongDown 89 = .ok (.iaload, 1) := by decide +kernel
theorem dX8_wrongDown_90 : decode cX8_wrongDown 90 = .ok (.istore_n 3, 1) := by decide +kernel
theorem dX8_wrongDown_91 : decode cX8_wrongDown 91 = .ok (.aload_n 0, 1) := by decide +kernel
theorem dX8_wrongDown_92 : decode cX8_wrongDown 92 = .ok (.getfield 51, 3) := by decide +kernel
theorem dX8_wrongDown_95 : decode cX8_wrongDown 95 = .ok (.aload_n 0, 1) := by decide +kernel
theorem dX8_wrongDown_96 : decode cX8_wrongDown 96 = .ok (.getfield 248, 3) := by decide +kernel
theorem dX8_wrongDown_99 : decode cX8_wrongDown 99 = .ok (.iaload, 1) := by decide +kernel
theorem dX8_wrongDown_100 : decode cX8_wrongDown 100 = .ok (.istore 4, 2) := by decide +kernel
theorem dX8_wrongDown_102 : decode cX8_wrongDown 102 = .ok (.aload_n 0, 1) := by decide +kernel
theorem dX8_wrongDown_103 : decode cX8_wrongDown 103 = .ok (.getfield 38, 3) := by decide +kernel
theorem dX8_wrongDown_106 : decode cX8_wrongDown 106 = .ok (.iload_n 1, 1) := by decide +kernel
theorem dX8_wrongDown_107 : decode cX8_wrongDown 107 = .ok (.iconst 1, 1) := by decide +kernel
theorem dX8_wrongDown_108 : decode cX8_wrongDown 108 = .ok (.bastore, 1) := by decide +kernel
theorem dX8_wrongDown_109 : decode cX8_wrongDown 109 = .ok (.aload_n 0, 1) := by decide +kernel
theorem dX8_wrongDown_110 : decode cX8_wrongDown 110 = .ok (.iload_n 1, 1) := by decide +kernel
theorem dX8_wrongDown_111 : decode cX8_wrongDown 111 = .ok (.iload_n 2, 1) := by decide +kernel
theorem dX8_wrongDown_112 : decode cX8_wrongDown 112 = .ok (.iload_n 3, 1) := by decide +kernel
theorem dX8_wrongDown_113 : decode cX8_wrongDown 113 = .ok (.iload 4, 2) := by decide +kernel
theorem dX8_wrongDown_115 : decode cX8_wrongDown 115 = .ok (.invokevirtual 261, 3) := by decide +kernel
theorem dX8_wrongDown_118 : decode cX8_wrongDown 118 = .ok (.istore 5, 2) := by decide +kernel
theorem dX8_wrongDown_120 : decode cX8_wrongDown 120 = .ok (.iload 5, 2) := by decide +kernel
theorem dX8_wrongDown_122 : decode cX8_wrongDown 122 = .ok (.ifCond .le 11, 3) := by decide +kernel
theorem dX8_wrongDown_125 : decode cX8_wrongDown 125 = .ok (.bipush 100, 2) := by decide +kernel
theorem dX8_wrongDown_127 : decode cX8_wrongDown 127 = .ok (.iload 5, 2) := by decide +kernel
theorem dX8_wrongDown_129 : decode cX8_wrongDown 129 = .ok (.imul, 1) := by decide +kernel
theorem dX8_wrongDown_130 : decode cX8_wrongDown 130 = .ok (.iload_n 1, 1) := by decide +kernel
theorem dX8_wrongDown_131 : decode cX8_wrongDown 131 = .ok (.iadd, 1) := by decide +kernel
theorem dX8_wrongDown_132 : decode cX8_wrongDown 132 = .ok (.ireturn, 1) := by decide +kernel
theorem dX8_wrongDown_133 : decode cX8_wrongDown 133 = .ok (.iload_n 2, 1) := by decide +kernel
theorem dX8_wrongDown_134 : decode cX8_wrongDown 134 = .ok (.aload_n 0, 1) := by decide +kernel
theorem dX8_wrongDown_135 : decode cX8_wrongDown 135 = .ok (.getfield 13, 3) := by decide +kernel
theorem dX8_wrongDown_138 : decode cX8_wrongDown 138 = .ok (.iconst 1, 1) := by decide +kernel
theorem dX8_wrongDown_139 : decode cX8_wrongDown 139 = .ok (.isub, 1) := by decide +kernel
theorem dX8_wrongDown_140 : decode cX8_wrongDown 140 = .ok (.if_icmp .ge 15, 3) := by decide +kernel
theorem dX8_wrongDown_143 : decode cX8_wrongDown 143 = .ok (.aload_n 0, 1) := by decide +kernel
theorem dX8_wrongDown_144 : decode cX8_wrongDown 144 = .ok (.iload_n 1, 1) := by decide +kernel
theorem dX8_wrongDown_145 : decode cX8_wrongDown 145 = .ok (.iload_n 2, 1) := by decide +kernel
theorem dX8_wrongDown_146 : decode cX8_wrongDown 146 = .ok (.iload_n 3, 1) := by decide +kernel
theorem dX8_wrongDown_147 : decode cX8_wrongDown 147 = .ok (.iload 4, 2) := by decide +kernel
theorem dX8_wrongDown_149 : decode cX8_wrongDown 149 = .ok (.invokevirtual 265, 3) := by decide +kernel
theorem dX8_wrongDown_152 : decode cX8_wrongDown 152 = .ok (.goto 23, 3) := by decide +kernel
theorem dX8_wrongDown_155 : decode cX8_wrongDown 155 = .ok (.aload_n 0, 1) := by decide +kernel
theorem dX8_wrongDown_156 : decode cX8_wrongDown 156 = .ok (.getfield 54, 3) := by decide +kernel
theorem dX8_wrongDown_159 : decode cX8_wrongDown 159 = .ok (.aload_n 0, 1) := by decide +kernel
theorem dX8_wrongDown_160 : decode cX8_wrongDown 160 = .ok (.getfield 258, 3) := by decide +kernel
theorem dX8_wrongDown_163 : decode cX8_wrongDown 163 = .ok (.iload_n 1, 1) := by decide +kernel
theorem dX8_wrongDown_164 : decode cX8_wrongDown 164 = .ok (.iastore, 1) := by decide +kernel
theorem dX8_wrongDown_165 : decode cX8_wrongDown 165 = .ok (.aload_n 0, 1) := by decide +kernel
theorem dX8_wrongDown_166 : decode cX8_wrongDown 166 = .ok (.dup, 1) := by decide +kernel
theorem dX8_wrongDown_167 : decode cX8_wrongDown 167 = .ok (.getfield 258, 3) := by decide +kernel
theorem dX8_wrongDown_170 : decode cX8_wrongDown 170 = .ok (.iconst 1, 1) := by decide +kernel
theorem dX8_wrongDown_171 : decode cX8_wrongDown 171 = .ok (.iadd, 1) := by decide +kernel
theorem dX8_wrongDown_172 : decode cX8_wrongDown 172 = .ok (.putfield 258, 3) := by decide +kernel
theorem dX8_wrongDown_175 : decode cX8_wrongDown 175 = .ok (.goto (-131), 3) := by decide +kernel
theorem dX8_wrongDown_178 : decode cX8_wrongDown 178 = .ok (.iconst 0, 1) := by decide +kernel
theorem dX8_wrongDown_179 : decode cX8_wrongDown 179 = .ok (.ireturn, 1) := by decide +kernel
theorem dX8_wrongNext_0 : decode cX8_wrongNext 0 = .ok (.iconst 0, 1) := by decide +kernel
theorem dX8_wrongNext_1 : decode cX8_wrongNext 1 = .ok (.istore_n 1, 1) := by decide +kernel
theorem dX8_wrongNext_2 : decode cX8_wrongNext 2 = .ok (.iload_n 1, 1) := by decide +kernel
theorem dX8_wrongNext_3 : decode cX8_wrongNext 3 = .ok (.aload_n 0, 1) := by decide +kernel
theorem dX8_wrongNext_4 : decode cX8_wrongNext 4 = .ok (.getfield 258, 3) := by decide +kernel
theorem dX8_wrongNext_7 : decode cX8_wrongNext 7 = .ok (.if_icmp .ge 60, 3) := by decide +kernel
theorem dX8_wrongNext_10 : decode cX8_wrongNext 10 = .ok (.iload_n 1, 1) := by decide +kernel
theorem dX8_wrongNext_11 : decode cX8_wrongNext 11 = .ok (.iconst 1, 1) := by decide +kernel
theorem dX8_wrongNext_12 : decode cX8_wrongNext 12 = .ok (.iadd, 1) := by decide +kernel
theorem dX8_wrongNext_13 : decode cX8_wrongNext 13 = .ok (.aload_n 0, 1) := by decide +kernel
theorem dX8_wrongNext_14 : decode cX8_wrongNext 14 = .ok (.getfield 258, 3) := by decide +kernel
theorem dX8_wrongNext_17 : decode cX8_wrongNext 17 = .ok (.if_icmp .ge 16, 3) := by decide +kernel
theorem dX8_wrongNext_20 : decode cX8_wrongNext 20 = .ok (.aload_n 0, 1) := by decide +kernel
theorem dX8_wrongNext_21 : decode cX8_wrongNext 21 = .ok (.getfield 54, 3) := by decide +kernel
theorem dX8_wrongNext_24 : decode cX8_wrongNext 24 = .ok (.iload_n 1, 1) := by decide +kernel
theorem dX8_wrongNext_25 : decode cX8_wrongNext 25 = .ok (.iconst 1, 1) := by decide +kernel
theorem dX8_wrongNext_26 : decode cX8_wrongNext 26 = .ok (.iadd, 1) := by decide +kernel
theorem dX8_wrongNext_27 : decode cX8_wrongNext 27 = .ok (.iaload, 1) := by decide +kernel
theorem dX8_wrongNext_28 : decode cX8_wrongNext 28 = .ok (.iconst 1, 1) := by decide +kernel
theorem dX8_wrongNext_29 : decode cX8_wrongNext 29 = .ok (.iadd, 1) := by decide +kernel
theorem dX8_wrongNext_30 : decode cX8_wrongNext 30 = .ok (.goto 4, 3) := by decide +kernel
theorem dX8_wrongNext_33 : decode cX8_wrongNext 33 = .ok (.iconst 0, 1) := by decide +kernel
theorem dX8_wrongNext_34 : decode cX8_wrongNext 34 = .ok (.istore_n 2, 1) := by decide +kernel
theorem dX8_wrongNext_35 : decode cX8_wrongNext 35 = .ok (.aload_n 0, 1) := by decide +kernel
theorem dX8_wrongNext_36 : decode cX8_wrongNext 36 = .ok (.aload_n 0, 1) := by decide +kernel
theorem dX8_wrongNext_37 : decode cX8_wrongNext 37 = .ok (.getfield 54, 3) := by decide +kernel
theorem dX8_wrongNext_40 : decode cX8_wrongNext 40 = .ok (.iload_n 1, 1) := by decide +kernel
theorem dX8_wrongNext_41 : decode cX8_wrongNext 41 = .ok (.iaload, 1) := by decide +kernel
theorem dX8_wrongNext_42 : decode cX8_wrongNext 42 = .ok (.iconst 2, 1) := by decide +kernel
theorem dX8_wrongNext_43 : decode cX8_wrongNext 43 = .ok (.invokevirtual 227, 3) := by decide +kernel
theorem dX8_wrongNext_46 : decode cX8_wrongNext 46 = .ok (.iload_n 2, 1) := by decide +kernel
theorem dX8_wrongNext_47 : decode cX8_wrongNext 47 = .ok (.if_icmp .eq 14, 3) := by decide +kernel
theorem dX8_wrongNext_50 : decode cX8_wrongNext 50 = .ok (.sipush 600, 3) := by decide +kernel
theorem dX8_wrongNext_53 : decode cX8_wrongNext 53 = .ok (.aload_n 0, 1) := by decide +kernel
theorem dX8_wrongNext_54 : decode cX8_wrongNext 54 = .ok (.getfield 54, 3) := by decide +kernel
theorem dX8_wrongNext_57 : decode cX8_wrongNext 57 = .ok (.iload_n 1, 1) := by decide +kernel
theorem dX8_wrongNext_58 : decode cX8_wrongNext 58 = .ok (.iaload, 1) := by decide +kernel
theorem dX8_wrongNext_59 : decode cX8_wrongNext 59 = .ok (.iadd, 1) := by decide +kernel
theorem dX8_wrongNext_60 : decode cX8_wrongNext 60 = .ok (.ireturn, 1) := by decide +kernel
theorem dX8_wrongNext_61 : decode cX8_wrongNext 61 = .ok (.iinc 1 1, 3) := by decide +kernel
theorem dX8_wrongNext_64 : decode cX8_wrongNext 64 = .ok (.goto (-62), 3) := by decide +kernel
theorem dX8_wrongNext_67 : decode cX8_wrongNext 67 = .ok (.iconst 0, 1) := by decide +kernel
theorem dX8_wrongNext_68 : decode cX8_wrongNext 68 = .ok (.ireturn, 1) := by decide +kernel
theorem dX8_wrongFree_0 : decode cX8_wrongFree 0 = .ok (.iconst 0, 1) := by decide +kernel
theorem dX8_wrongFree_1 : decode cX8_wrongFree 1 = .ok (.istore_n 1, 1) := by decide +kernel
theorem dX8_wrongFree_2 : decode cX8_wrongFree 2 = .ok (.iload_n 1, 1) := by decide +kernel
theorem dX8_wrongFree_3 : decode cX8_wrongFree 3 = .ok (.bipush 32, 2) := by decide +kernel
theorem dX8_wrongFree_5 : decode cX8_wrongFree 5 = .ok (.if_icmp .ge 63, 3) := by decide +kernel
theorem dX8_wrongFree_8 : decode cX8_wrongFree 8 = .ok (.iconst 1, 1) := by decide +kernel
theorem dX8_wrongFree_9 : decode cX8_wrongFree 9 = .ok (.istore_n 2, 1) := by decide +kernel
theorem dX8_wrongFree_10 : decode cX8_wrongFree 10 = .ok (.iconst 0, 1) := by decide +kernel
theorem dX8_wrongFree_11 : decode cX8_wrongFree 11 = .ok (.istore_n 3, 1) := by decide +kernel
theorem dX8_wrongFree_12 : decode cX8_wrongFree 12 = .ok (.iload_n 3, 1) := by decide +kernel
theorem dX8_wrongFree_13 : decode cX8_wrongFree 13 = .ok (.bipush 64, 2) := by decide +kernel
theorem dX8_wrongFree_15 : decode cX8_wrongFree 15 = .ok (.if_icmp .ge 28, 3) := by decide +kernel
theorem dX8_wrongFree_18 : decode cX8_wrongFree 18 = .ok (.iload_n 2, 1) := by decide +kernel
theorem dX8_wrongFree_19 : decode cX8_wrongFree 19 = .ok (.ifCond .eq 16, 3) := by decide +kernel
theorem dX8_wrongFree_22 : decode cX8_wrongFree 22 = .ok (.aload_n 0, 1) := by decide +kernel
theorem dX8_wrongFree_23 : decode cX8_wrongFree 23 = .ok (.iload_n 1, 1) := by decide +kernel
theorem dX8_wrongFree_24 : decode cX8_wrongFree 24 = .ok (.iload_n 3, 1) := by decide +kernel
theorem dX8_wrongFree_25 : decode cX8_wrongFree 25 = .ok (.invokevirtual 227, 3) := by decide +kernel
theorem dX8_wrongFree_28 : decode cX8_wrongFree 28 = .ok (.ifCond .ne 7, 3) := by decide +kernel
theorem dX8_wrongFree_31 : decode cX8_wrongFree 31 = .ok (.iconst 1, 1) := by decide +kernel
theorem dX8_wrongFree_32 : decode cX8_wrongFree 32 = .ok (.goto 4, 3) := by decide +kernel
theorem dX8_wrongFree_35 : decode cX8_wrongFree 35 = .ok (.iconst 0, 1) := by decide +kernel
theorem dX8_wrongFree_36 : decode cX8_wrongFree 36 = .ok (.istore_n 2, 1) := by decide +kernel
theorem dX8_wrongFree_37 : decode cX8_wrongFree 37 = .ok (.iinc 3 1, 3) := by decide +kernel
theorem dX8_wrongFree_40 : decode cX8_wrongFree 40 = .ok (.goto (-28), 3) := by decide +kernel
theorem dX8_wrongFree_43 : decode cX8_wrongFree 43 = .ok (.aload_n 0, 1) := by decide +kernel
theorem dX8_wrongFree_44 : decode cX8_wrongFree 44 = .ok (.getfield 38, 3) := by decide +kernel
theorem dX8_wrongFree_47 : decode cX8_wrongFree 47 = .ok (.iload_n 1, 1) := by decide +kernel
theorem dX8_wrongFree_48 : decode cX8_wrongFree 48 = .ok (.baload, 1) := by decide +kernel
theorem dX8_wrongFree_49 : decode cX8_wrongFree 49 = .ok (.ifCond .ne 13, 3) := by decide +kernel
theorem dX8_wrongFree_52 : decode cX8_wrongFree 52 = .ok (.iload_n 2, 1) := by decide +kernel
theorem dX8_wrongFree_53 : decode cX8_wrongFree 53 = .ok (.ifCond .ne 9, 3) := by decide +kernel
theorem dX8_wrongFree_56 : decode cX8_wrongFree 56 = .ok (.sipush 700, 3) := by decide +kernel
theorem dX8_wrongFree_59 : decode cX8_wrongFree 59 = .ok (.iload_n 1, 1) := by decide +kernel
theorem dX8_wrongFree_60 : decode cX8_wrongFree 60 = .ok (.iadd, 1) := by decide +kernel
theorem dX8_wrongFree_61 : decode cX8_wrongFree 61 = .ok (.ireturn, 1) := by decide +kernel
theorem dX8_wrongFree_62 : decode cX8_wrongFree 62 = .ok (.iinc 1 1, 3) := by decide +kernel
theorem dX8_wrongFree_65 : decode cX8_wrongFree 65 = .ok (.goto (-63), 3) := by decide +kernel
theorem dX8_wrongFree_68 : decode cX8_wrongFree 68 = .ok (.iconst 0, 1) := by decide +kernel
theorem dX8_wrongFree_69 : decode cX8_wrongFree 69 = .ok (.ireturn, 1) := by decide +kernel
theorem dX8_check_0 : decode cX8_check 0 = .ok (.iload_n 1, 1) := by decide +kernel
theorem dX8_check_1 : decode cX8_check 1 = .ok (.invokestatic 218, 3) := by decide +kernel
theorem dX8_check_4 : decode cX8_check 4 = .ok (.ifCond .eq 24, 3) := by decide +kernel
theorem dX8_check_7 : decode cX8_check 7 = .ok (.iload_n 2, 1) := by decide +kernel
theorem dX8_check_8 : decode cX8_check 8 = .ok (.iconst 0, 1) := by decide +kernel
theorem dX8_check_9 : decode cX8_check 9 = .ok (.bipush 63, 2) := by decide +kernel
theorem dX8_check_11 : decode cX8_check 11 = .ok (.invokestatic 114, 3) := by decide +kernel
theorem dX8_check_14 : decode cX8_check 14 = .ok (.ifCond .eq 14, 3) := by decide +kernel
theorem dX8_check_17 : decode cX8_check 17 = .ok (.iload_n 3, 1) := by decide +kernel
theorem dX8_check_18 : decode cX8_check 18 = .ok (.iconst 0, 1) := by decide +kernel
theorem dX8_check_19 : decode cX8_check 19 = .ok (.sipush 255, 3) := by decide +kernel
theorem dX8_check_22 : decode cX8_check 22 = .ok (.invokestatic 114, 3) := by decide +kernel
theorem dX8_check_25 : decode cX8_check 25 = .ok (.ifCond .ne 5, 3) := by decide +kernel
theorem dX8_check_28 : decode cX8_check 28 = .ok (.iconst (-1), 1) := by decide +kernel
theorem dX8_check_29 : decode cX8_check 29 = .ok (.ireturn, 1) := by decide +kernel
theorem dX8_check_30 : decode cX8_check 30 = .ok (.aload_n 0, 1) := by decide +kernel
theorem dX8_check_31 : decode cX8_check 31 = .ok (.bipush 64, 2) := by decide +kernel
theorem dX8_check_33 : decode cX8_check 33 = .ok (.iload_n 1, 1) := by decide +kernel
theorem dX8_check_34 : decode cX8_check 34 = .ok (.imul, 1) := by decide +kernel
theorem dX8_check_35 : decode cX8_check 35 = .ok (.iload_n 2, 1) := by decide +kernel
theorem dX8_check_36 : decode cX8_check 36 = .ok (.iadd, 1) := by decide +kernel
theorem dX8_check_37 : decode cX8_check 37 = .ok (.putfield 221, 3) := by decide +kernel
theorem dX8_check_40 : decode cX8_check 40 = .ok (.aload_n 0, 1) := by decide +kernel
theorem dX8_check_41 : decode cX8_check 41 = .ok (.iload_n 3, 1) := by decide +kernel
theorem dX8_check_42 : decode cX8_check 42 = .ok (.putfield 224, 3) := by decide +kernel
theorem dX8_check_45 : decode cX8_check 45 = .ok (.aload_n 0, 1) := by decide +kernel
theorem dX8_check_46 : decode cX8_check 46 = .ok (.invokevirtual 268, 3) := by decide +kernel
theorem dX8_check_49 : decode cX8_check 49 = .ok (.istore 4, 2) := by decide +kernel
theorem dX8_check_51 : decode cX8_check 51 = .ok (.iload 4, 2) := by decide +kernel
theorem dX8_check_53 : decode cX8_check 53 = .ok (.ifCond .ne 10, 3) := by decide +kernel
theorem dX8_check_56 : decode cX8_check 56 = .ok (.aload_n 0, 1) := by decide +kernel
theorem dX8_check_57 : decode cX8_check 57 = .ok (.invokevirtual 271, 3) := by decide +kernel
theorem dX8_check_60 : decode cX8_check 60 = .ok (.goto 5, 3) := by decide +kernel
theorem dX8_check_63 : decode cX8_check 63 = .ok (.iload 4, 2) := by decide +kernel
theorem dX8_check_65 : decode cX8_check 65 = .ok (.istore 4, 2) := by decide +kernel
theorem dX8_check_67 : decode cX8_check 67 = .ok (.iload 4, 2) := by decide +kernel
theorem dX8_check_69 : decode cX8_check 69 = .ok (.ifCond .ne 10, 3) := by decide +kernel
theorem dX8_check_72 : decode cX8_check 72 = .ok (.aload_n 0, 1) := by decide +kernel
theorem dX8_check_73 : decode cX8_check 73 = .ok (.invokevirtual 274, 3) := by decide +kernel
theorem dX8_check_76 : decode cX8_check 76 = .ok (.goto 5, 3) := by decide +kernel
theorem dX8_check_79 : decode cX8_check 79 = .ok (.iload 4, 2) := by decide +kernel
theorem dX8_check_81 : decode cX8_check 81 = .ok (.ireturn, 1) := by decide +kernel
theorem dX8_usedAll_0 : decode cX8_usedAll 0 = .ok (.iconst 0, 1) := by decide +kernel
theorem dX8_usedAll_1 : decode cX8_usedAll 1 = .ok (.istore_n 1, 1) := by decide +kernel
theorem dX8_usedAll_2 : decode cX8_usedAll 2 = .ok (.iconst 0, 1) := by decide +kernel
theorem dX8_usedAll_3 : decode cX8_usedAll 3 = .ok (.istore_n 2, 1) := by decide +kernel
theorem dX8_usedAll_4 : decode cX8_usedAll 4 = .ok (.iload_n 2, 1) := by decide +kernel
theorem dX8_usedAll_5 : decode cX8_usedAll 5 = .ok (.bipush 32, 2) := by decide +kernel
theorem dX8_usedAll_7 : decode cX8_usedAll 7 = .ok (.if_icmp .ge 17, 3) := by decide +kernel
theorem dX8_usedAll_10 : decode cX8_usedAll 10 = .ok (.iload_n 1, 1) := by decide +kernel
theorem dX8_usedAll_11 : decode cX8_usedAll 11 = .ok (.aload_n 0, 1) := by decide +kernel
theorem dX8_usedAll_12 : decode cX8_usedAll 12 = .ok (.iload_n 2, 1) := by decide +kernel
theorem dX8_usedAll_13 : decode cX8_usedAll 13 = .ok (.invokevirtual 174, 3) := by decide +kernel
theorem dX8_usedAll_16 : decode cX8_usedAll 16 = .ok (.iadd, 1) := by decide +kernel
theorem dX8_usedAll_17 : decode cX8_usedAll 17 = .ok (.istore_n 1, 1) := by decide +kernel
theorem dX8_usedAll_18 : decode cX8_usedAll 18 = .ok (.iinc 2 1, 3) := by decide +kernel
theorem dX8_usedAll_21 : decode cX8_usedAll 21 = .ok (.goto (-17), 3) := by decide +kernel
theorem dX8_usedAll_24 : decode cX8_usedAll 24 = .ok (.iload_n 1, 1) := by decide +kernel
theorem dX8_usedAll_25 : decode cX8_usedAll 25 = .ok (.ireturn, 1) := by decide +kernel
theorem dX8_sorted_0 : decode cX8_sorted 0 = .ok (.iconst 0, 1) := by decide +kernel
theorem dX8_sorted_1 : decode cX8_sorted 1 = .ok (.istore_n 2, 1) := by decide +kernel
theorem dX8_sorted_2 : decode cX8_sorted 2 = .ok (.iconst 0, 1) := by decide +kernel
theorem dX8_sorted_3 : decode cX8_sorted 3 = .ok (.istore_n 3, 1) := by decide +kernel
theorem dX8_sorted_4 : decode cX8_sorted 4 = .ok (.iload_n 3, 1) := by decide +kernel
theorem dX8_sorted_5 : decode cX8_sorted 5 = .ok (.bipush 32, 2) := by decide +kernel
theorem dX8_sorted_7 : decode cX8_sorted 7 = .ok (.if_icmp .ge 27, 3) := by decide +kernel
theorem dX8_sorted_10 : decode cX8_sorted 10 = .ok (.iload_n 2, 1) := by decide +kernel
theorem dX8_sorted_11 : decode cX8_sorted 11 = .ok (.aload_n 0, 1) := by decide +kernel
theorem dX8_sorted_12 : decode cX8_sorted 12 = .ok (.iload_n 3, 1) := by decide +kernel
theorem dX8_sorted_13 : decode cX8_sorted 13 = .ok (.iconst 0, 1) := by decide +kernel
theorem dX8_sorted_14 : decode cX8_sorted 14 = .ok (.invokevirtual 69, 3) := by decide +kernel
theorem dX8_sorted_17 : decode cX8_sorted 17 = .ok (.iload_n 1, 1) := by decide +kernel
theorem dX8_sorted_18 : decode cX8_sorted 18 = .ok (.if_icmp .ne 7, 3) := by decide +kernel
theorem dX8_sorted_21 : decode cX8_sorted 21 = .ok (.iconst 1, 1) := by decide +kernel
theorem dX8_sorted_22 : decode cX8_sorted 22 = .ok (.goto 4, 3) := by decide +kernel
theorem dX8_sorted_25 : decode cX8_sorted 25 = .ok (.iconst 0, 1) := by decide +kernel
theorem dX8_sorted_26 : decode cX8_sorted 26 = .ok (.iadd, 1) := by decide +kernel
theorem dX8_sorted_27 : decode cX8_sorted 27 = .ok (.istore_n 2, 1) := by decide +kernel
theorem dX8_sorted_28 : decode cX8_sorted 28 = .ok (.iinc 3 1, 3) := by decide +kernel
theorem dX8_sorted_31 : decode cX8_sorted 31 = .ok (.goto (-27), 3) := by decide +kernel
theorem dX8_sorted_34 : decode cX8_sorted 34 = .ok (.iload_n 2, 1) := by decide +kernel
theorem dX8_sorted_35 : decode cX8_sorted 35 = .ok (.ireturn, 1) := by decide +kernel
theorem dX8_separators_0 : decode cX8_separators 0 = .ok (.iconst 0, 1) := by decide +kernel
theorem dX8_separators_1 : decode cX8_separators 1 = .ok (.istore_n 1, 1) := by decide +kernel
theorem dX8_separators_2 : decode cX8_separators 2 = .ok (.iconst 0, 1) := by decide +kernel
theorem dX8_separators_3 : decode cX8_separators 3 = .ok (.istore_n 2, 1) := by decide +kernel
theorem dX8_separators_4 : decode cX8_separators 4 = .ok (.iload_n 2, 1) := by decide +kernel
theorem dX8_separators_5 : decode cX8_separators 5 = .ok (.bipush 32, 2) := by decide +kernel
theorem dX8_separators_7 : decode cX8_separators 7 = .ok (.if_icmp .ge 42, 3) := by decide +kernel
theorem dX8_separators_10 : decode cX8_separators 10 = .ok (.iload_n 1, 1) := by decide +kernel
theorem dX8_separators_11 : decode cX8_separators 11 = .ok (.aload_n 0, 1) := by decide +kernel
theorem dX8_separators_12 : decode cX8_separators 12 = .ok (.iload_n 2, 1) := by decide +kernel
theorem dX8_separators_13 : decode cX8_separators 13 = .ok (.iconst 0, 1) := by decide +kernel
theorem dX8_separators_14 : decode cX8_separators 14 = .ok (.invokevirtual 69, 3) := by decide +kernel
theorem dX8_separators_17 : decode cX8_separators 17 = .ok (.iconst 2, 1) := by decide +kernel
theorem dX8_separators_18 : decode cX8_separators 18 = .ok (.if_icmp .ne 22, 3) := by decide +kernel
theorem dX8_separators_21 : decode cX8_separators 21 = .ok (.aload_n 0, 1) := by decide +kernel
theorem dX8_separators_22 : decode cX8_separators 22 = .ok (.iload_n 2, 1) := by decide +kernel
theorem dX8_separators_23 : decode cX8_separators 23 = .ok (.invokevirtual 174, 3) := by decide +kernel
theorem dX8_separators_26 : decode cX8_separators 26 = .ok (.iconst 3, 1) := by decide +kernel
theorem dX8_separators_27 : decode cX8_separators 27 = .ok (.isub, 1) := by decide +kernel
theorem dX8_separators_28 : decode cX8_separators 28 = .ok (.iconst 2, 1) := by decide +kernel
theorem dX8_separators_29 : decode cX8_separators 29 = .ok (.aload_n 0, 1) := by decide +kernel
theorem dX8_separators_30 : decode cX8_separators 30 = .ok (.iload_n 2, 1) := by decide +kernel
theorem dX8_separators_31 : decode cX8_separators 31 = .ok (.iconst 1, 1) := by decide +kernel
theorem dX8_separators_32 : decode cX8_separators 32 = .ok (.invokevirtual 69, 3) := by decide +kernel
theorem dX8_separators_35 : decode cX8_separators 35 = .ok (.imul, 1) := by decide +kernel
theorem dX8_separators_36 : decode cX8_separators 36 = .ok (.isub, 1) := by decide +kernel
theorem dX8_separators_37 : decode cX8_separators 37 = .ok (.goto 4, 3) := by decide +kernel
theorem dX8_separators_40 : decode cX8_separators 40 = .ok (.iconst 0, 1) := by decide +kernel
theorem dX8_separators_41 : decode cX8_separators 41 = .ok (.iadd, 1) := by decide +kernel
theorem dX8_separators_42 : decode cX8_separators 42 = .ok (.istore_n 1, 1) := by decide +kernel
theorem dX8_separators_43 : decode cX8_separators 43 = .ok (.iinc 2 1, 3) := by decide +kernel
theorem dX8_separators_46 : decode cX8_separators 46 = .ok (.goto (-42), 3) := by decide +kernel
theorem dX8_separators_49 : decode cX8_separators 49 = .ok (.iload_n 1, 1) := by decide +kernel
theorem dX8_separators_50 : decode cX8_separators 50 = .ok (.ireturn, 1) := by decide +kernel
theorem dX8_count_0 : decode cX8_count 0 = .ok (.iload_n 1, 1) := by decide +kernel
theorem dX8_count_1 : decode cX8_count 1 = .ok (.iconst 0, 1) := by decide +kernel
theorem dX8_count_2 : decode cX8_count 2 = .ok (.bipush 7, 2) := by decide +kernel
theorem dX8_count_4 : decode cX8_count 4 = .ok (.invokestatic 114, 3) := by decide +kernel
theorem dX8_count_7 : decode cX8_count 7 = .ok (.ifCond .ne 5, 3) := by decide +kernel
theorem dX8_count_10 : decode cX8_count 10 = .ok (.iconst (-1), 1) := by decide +kernel
theorem dX8_count_11 : decode cX8_count 11 = .ok (.ireturn, 1) := by decide +kernel
theorem dX8_count_12 : decode cX8_count 12 = .ok (.iload_n 1, 1) := by decide +kernel
theorem dX8_count_13 : decode cX8_count 13 = .ok (.tableswitch 79 0 6 #[43, 48, 53, 58, 63, 68, 74], 43) := by decide +kernel
theorem dX8_count_56 : decode cX8_count 56 = .ok (.aload_n 0, 1) := by decide +kernel
theorem dX8_count_57 : decode cX8_count 57 = .ok (.invokevirtual 212, 3) := by decide +kernel
theorem dX8_count_60 : decode cX8_count 60 = .ok (.ireturn, 1) := by decide +kernel
theorem dX8_count_61 : decode cX8_count 61 = .ok (.aload_n 0, 1) := by decide +kernel
theorem dX8_count_62 : decode cX8_count 62 = .ok (.getfield 13, 3) := by decide +kernel
theorem dX8_count_65 : decode cX8_count 65 = .ok (.ireturn, 1) := by decide +kernel
theorem dX8_count_66 : decode cX8_count 66 = .ok (.aload_n 0, 1) := by decide +kernel
theorem dX8_count_67 : decode cX8_count 67 = .ok (.getfield 118, 3) := by decide +kernel
theorem dX8_count_70 : decode cX8_count 70 = .ok (.ireturn, 1) := by decide +kernel
theorem dX8_count_71 : decode cX8_count 71 = .ok (.aload_n 0, 1) := by decide +kernel
theorem dX8_count_72 : decode cX8_count 72 = .ok (.invokevirtual 140, 3) := by decide +kernel
theorem dX8_count_75 : decode cX8_count 75 = .ok (.ireturn, 1) := by decide +kernel
theorem dX8_count_76 : decode cX8_count 76 = .ok (.aload_n 0, 1) := by decide +kernel
theorem dX8_count_77 : decode cX8_count 77 = .ok (.invokevirtual 277, 3) := by decide +kernel
theorem dX8_count_80 : decode cX8_count 80 = .ok (.ireturn, 1) := by decide +kernel
theorem dX8_count_81 : decode cX8_count 81 = .ok (.aload_n 0, 1) := by decide +kernel
theorem dX8_count_82 : decode cX8_count 82 = .ok (.iconst 1, 1) := by decide +kernel
theorem dX8_count_83 : decode cX8_count 83 = .ok (.invokevirtual 280, 3) := by decide +kernel
theorem dX8_count_86 : decode cX8_count 86 = .ok (.ireturn, 1) := by decide +kernel
theorem dX8_count_87 : decode cX8_count 87 = .ok (.aload_n 0, 1) := by decide +kernel
theorem dX8_count_88 : decode cX8_count 88 = .ok (.invokevirtual 203, 3) := by decide +kernel
theorem dX8_count_91 : decode cX8_count 91 = .ok (.ireturn, 1) := by decide +kernel
theorem dX8_count_92 : decode cX8_count 92 = .ok (.aload_n 0, 1) := by decide +kernel
theorem dX8_count_93 : decode cX8_count 93 = .ok (.invokevirtual 283, 3) := by decide +kernel
theorem dX8_count_96 : decode cX8_count 96 = .ok (.ireturn, 1) := by decide +kernel
theorem dX8_digest_0 : decode cX8_digest 0 = .ok (.ldc2_w 286, 3) := by decide +kernel
theorem dX8_digest_3 : decode cX8_digest 3 = .ok (.lstore_n 1, 1) := by decide +kernel
theorem dX8_digest_4 : decode cX8_digest 4 = .ok (.iconst 0, 1) := by decide +kernel
theorem dX8_digest_5 : decode cX8_digest 5 = .ok (.istore_n 3, 1) := by decide +kernel
theorem dX8_digest_6 : decode cX8_digest 6 = .ok (.iload_n 3, 1) := by decide +kernel
theorem dX8_digest_7 : decode cX8_digest 7 = .ok (.sipush 2048, 3) := by decide +kernel
theorem dX8_digest_10 : decode cX8_digest 10 = .ok (.if_icmp .ge 23, 3) := by decide +kernel
theorem dX8_digest_13 : decode cX8_digest 13 = .ok (.ldc2_w 288, 3) := by decide +kernel
theorem dX8_digest_16 : decode cX8_digest 16 = .ok (.lload_n 1, 1) := by decide +kernel
theorem dX8_digest_17 : decode cX8_digest 17 = .ok (.lmul, 1) := by decide +kernel
theorem dX8_digest_18 : decode cX8_digest 18 = .ok (.aload_n 0, 1) := by decide +kernel
theorem dX8_digest_19 : decode cX8_digest 19 = .ok (.getfield 7, 3) := by decide +kernel
theorem dX8_digest_22 : decode cX8_digest 22 = .ok (.iload_n 3, 1) := by decide +kernel
theorem dX8_digest_23 : decode cX8_digest 23 = .ok (.iaload, 1) := by decide +kernel
theorem dX8_digest_24 : decode cX8_digest 24 = .ok (.i2l, 1) := by decide +kernel
theorem dX8_digest_25 : decode cX8_digest 25 = .ok (.ladd, 1) := by decide +kernel
theorem dX8_digest_26 : decode cX8_digest 26 = .ok (.lstore_n 1, 1) := by decide +kernel
theorem dX8_digest_27 : decode cX8_digest 27 = .ok (.iinc 3 1, 3) := by decide +kernel
theorem dX8_digest_30 : decode cX8_digest 30 = .ok (.goto (-24), 3) := by decide +kernel
theorem dX8_digest_33 : decode cX8_digest 33 = .ok (.lload_n 1, 1) := by decide +kernel
theorem dX8_digest_34 : decode cX8_digest 34 = .ok (.lreturn, 1) := by decide +kernel
theorem dX8_keep_0 : decode cX8_keep 0 = .ok (.iload_n 1, 1) := by decide +kernel
theorem dX8_keep_1 : decode cX8_keep 1 = .ok (.iconst 0, 1) := by decide +kernel
theorem dX8_keep_2 : decode cX8_keep 2 = .ok (.iconst 1, 1) := by decide +kernel
theorem dX8_keep_3 : decode cX8_keep 3 = .ok (.invokestatic 114, 3) := by decide +kernel
theorem dX8_keep_6 : decode cX8_keep 6 = .ok (.ifCond .ne 5, 3) := by decide +kernel
theorem dX8_keep_9 : decode cX8_keep 9 = .ok (.iconst (-1), 1) := by decide +kernel
theorem dX8_keep_10 : decode cX8_keep 10 = .ok (.ireturn, 1) := by decide +kernel
theorem dX8_keep_11 : decode cX8_keep 11 = .ok (.iconst 0, 1) := by decide +kernel
theorem dX8_keep_12 : decode cX8_keep 12 = .ok (.istore_n 2, 1) := by decide +kernel
theorem dX8_keep_13 : decode cX8_keep 13 = .ok (.iload_n 2, 1) := by decide +kernel
theorem dX8_keep_14 : decode cX8_keep 14 = .ok (.sipush 2048, 3) := by decide +kernel
theorem dX8_keep_17 : decode cX8_keep 17 = .ok (.if_icmp .ge 27, 3) := by decide +kernel
theorem dX8_keep_20 : decode cX8_keep 20 = .ok (.aload_n 0, 1) := by decide +kernel
theorem dX8_keep_21 : decode cX8_keep 21 = .ok (.getfield 57, 3) := by decide +kernel
theorem dX8_keep_24 : decode cX8_keep 24 = .ok (.sipush 2048, 3) := by decide +kernel
theorem dX8_keep_27 : decode cX8_keep 27 = .ok (.iload_n 1, 1) := by decide +kernel
theorem dX8_keep_28 : decode cX8_keep 28 = .ok (.imul, 1) := by decide +kernel
theorem dX8_keep_29 : decode cX8_keep 29 = .ok (.iload_n 2, 1) := by decide +kernel
theorem dX8_keep_30 : decode cX8_keep 30 = .ok (.iadd, 1) := by decide +kernel
theorem dX8_keep_31 : decode cX8_keep 31 = .ok (.aload_n 0, 1) := by decide +kernel
theorem dX8_keep_32 : decode cX8_keep 32 = .ok (.getfield 7, 3) := by decide +kernel
theorem dX8_keep_35 : decode cX8_keep 35 = .ok (.iload_n 2, 1) := by decide +kernel
theorem dX8_keep_36 : decode cX8_keep 36 = .ok (.iaload, 1) := by decide +kernel
theorem dX8_keep_37 : decode cX8_keep 37 = .ok (.iastore, 1) := by decide +kernel
theorem dX8_keep_38 : decode cX8_keep 38 = .ok (.iinc 2 1, 3) := by decide +kernel
theorem dX8_keep_41 : decode cX8_keep 41 = .ok (.goto (-28), 3) := by decide +kernel
theorem dX8_keep_44 : decode cX8_keep 44 = .ok (.aload_n 0, 1) := by decide +kernel
theorem dX8_keep_45 : decode cX8_keep 45 = .ok (.getfield 60, 3) := by decide +kernel
theorem dX8_keep_48 : decode cX8_keep 48 = .ok (.iload_n 1, 1) := by decide +kernel
theorem dX8_keep_49 : decode cX8_keep 49 = .ok (.aload_n 0, 1) := by decide +kernel
theorem dX8_keep_50 : decode cX8_keep 50 = .ok (.getfield 118, 3) := by decide +kernel
theorem dX8_keep_53 : decode cX8_keep 53 = .ok (.iastore, 1) := by decide +kernel
theorem dX8_keep_54 : decode cX8_keep 54 = .ok (.aload_n 0, 1) := by decide +kernel
theorem dX8_keep_55 : decode cX8_keep 55 = .ok (.getfield 63, 3) := by decide +kernel
theorem dX8_keep_58 : decode cX8_keep 58 = .ok (.iload_n 1, 1) := by decide +kernel
theorem dX8_keep_59 : decode cX8_keep 59 = .ok (.aload_n 0, 1) := by decide +kernel
theorem dX8_keep_60 : decode cX8_keep 60 = .ok (.getfield 13, 3) := by decide +kernel
theorem dX8_keep_63 : decode cX8_keep 63 = .ok (.iastore, 1) := by decide +kernel
theorem dX8_keep_64 : decode cX8_keep 64 = .ok (.aload_n 0, 1) := by decide +kernel
theorem dX8_keep_65 : decode cX8_keep 65 = .ok (.invokevirtual 212, 3) := by decide +kernel
theorem dX8_keep_68 : decode cX8_keep 68 = .ok (.ireturn, 1) := by decide +kernel
theorem dX8_back_0 : decode cX8_back 0 = .ok (.iload_n 1, 1) := by decide +kernel
theorem dX8_back_1 : decode cX8_back 1 = .ok (.iconst 0, 1) := by decide +kernel
theorem dX8_back_2 : decode cX8_back 2 = .ok (.iconst 1, 1) := by decide +kernel
theorem dX8_back_3 : decode cX8_back 3 = .ok (.invokestatic 114, 3) := by decide +kernel
theorem dX8_back_6 : decode cX8_back 6 = .ok (.ifCond .ne 5, 3) := by decide +kernel
theorem dX8_back_9 : decode cX8_back 9 = .ok (.iconst (-1), 1) := by decide +kernel
theorem dX8_back_10 : decode cX8_back 10 = .ok (.ireturn, 1) := by decide +kernel
theorem dX8_back_11 : decode cX8_back 11 = .ok (.aload_n 0, 1) := by decide +kernel
theorem dX8_back_12 : decode cX8_back 12 = .ok (.getfield 63, 3) := by decide +kernel
theorem dX8_back_15 : decode cX8_back 15 = .ok (.iload_n 1, 1) := by decide +kernel
theorem dX8_back_16 : decode cX8_back 16 = .ok (.iaload, 1) := by decide +kernel
theorem dX8_back_17 : decode cX8_back 17 = .ok (.ifCond .ne 6, 3) := by decide +kernel
theorem dX8_back_20 : decode cX8_back 20 = .ok (.bipush (-2), 2) := by decide +kernel
theorem dX8_back_22 : decode cX8_back 22 = .ok (.ireturn, 1) := by decide +kernel
theorem dX8_back_23 : decode cX8_back 23 = .ok (.iconst 0, 1) := by decide +kernel
theorem dX8_back_24 : decode cX8_back 24 = .ok (.istore_n 2, 1) := by decide +kernel
theorem dX8_back_25 : decode cX8_back 25 = .ok (.iload_n 2, 1) := by decide +kernel
theorem dX8_back_26 : decode cX8_back 26 = .ok (.sipush 2048, 3) := by decide +kernel
theorem dX8_back_29 : decode cX8_back 29 = .ok (.if_icmp .ge 27, 3) := by decide +kernel
theorem dX8_back_32 : decode cX8_back 32 = .ok (.aload_n 0, 1) := by decide +kernel
theorem dX8_back_33 : decode cX8_back 33 = .ok (.getfield 7, 3) := by decide +kernel
theorem dX8_back_36 : decode cX8_back 36 = .ok (.iload_n 2, 1) := by decide +kernel
theorem dX8_back_37 : decode cX8_back 37 = .ok (.aload_n 0, 1) := by decide +kernel
theorem dX8_back_38 : decode cX8_back 38 = .ok (.getfield 57, 3) := by decide +kernel
theorem dX8_back_41 : decode cX8_back 41 = .ok (.sipush 2048, 3) := by decide +kernel
theorem dX8_back_44 : decode cX8_back 44 = .ok (.iload_n 1, 1) := by decide +kernel
theorem dX8_back_45 : decode cX8_back 45 = .ok (.imul, 1) := by decide +kernel
theorem dX8_back_46 : decode cX8_back 46 = .ok (.iload_n 2, 1) := by decide +kernel
theorem dX8_back_47 : decode cX8_back 47 = .ok (.iadd, 1) := by decide +kernel
theorem dX8_back_48 : decode cX8_back 48 = .ok (.iaload, 1) := by decide +kernel
theorem dX8_back_49 : decode cX8_back 49 = .ok (.iastore, 1) := by decide +kernel
theorem dX8_back_50 : decode cX8_back 50 = .ok (.iinc 2 1, 3) := by decide +kernel
theorem dX8_back_53 : decode cX8_back 53 = .ok (.goto (-28), 3) := by decide +kernel
theorem dX8_back_56 : decode cX8_back 56 = .ok (.aload_n 0, 1) := by decide +kernel
theorem dX8_back_57 : decode cX8_back 57 = .ok (.aload_n 0, 1) := by decide +kernel
theorem dX8_back_58 : decode cX8_back 58 = .ok (.getfield 60, 3) := by decide +kernel
theorem dX8_back_61 : decode cX8_back 61 = .ok (.iload_n 1, 1) := by decide +kernel
theorem dX8_back_62 : decode cX8_back 62 = .ok (.iaload, 1) := by decide +kernel
theorem dX8_back_63 : decode cX8_back 63 = .ok (.putfield 118, 3) := by decide +kernel
theorem dX8_back_66 : decode cX8_back 66 = .ok (.aload_n 0, 1) := by decide +kernel
theorem dX8_back_67 : decode cX8_back 67 = .ok (.aload_n 0, 1) := by decide +kernel
theorem dX8_back_68 : decode cX8_back 68 = .ok (.getfield 63, 3) := by decide +kernel
theorem dX8_back_71 : decode cX8_back 71 = .ok (.iload_n 1, 1) := by decide +kernel
theorem dX8_back_72 : decode cX8_back 72 = .ok (.iaload, 1) := by decide +kernel
theorem dX8_back_73 : decode cX8_back 73 = .ok (.putfield 13, 3) := by decide +kernel
theorem dX8_back_76 : decode cX8_back 76 = .ok (.aload_n 0, 1) := by decide +kernel
theorem dX8_back_77 : decode cX8_back 77 = .ok (.invokevirtual 212, 3) := by decide +kernel
theorem dX8_back_80 : decode cX8_back 80 = .ok (.ireturn, 1) := by decide +kernel
theorem dX8_type_0 : decode cX8_type 0 = .ok (.iload_n 1, 1) := by decide +kernel
theorem dX8_type_1 : decode cX8_type 1 = .ok (.iconst 0, 1) := by decide +kernel
theorem dX8_type_2 : decode cX8_type 2 = .ok (.sipush 255, 3) := by decide +kernel
theorem dX8_type_5 : decode cX8_type 5 = .ok (.invokestatic 114, 3) := by decide +kernel
theorem dX8_type_8 : decode cX8_type 8 = .ok (.ifCond .ne 5, 3) := by decide +kernel
theorem dX8_type_11 : decode cX8_type 11 = .ok (.iconst (-1), 1) := by decide +kernel
theorem dX8_type_12 : decode cX8_type 12 = .ok (.ireturn, 1) := by decide +kernel
theorem dX8_type_13 : decode cX8_type 13 = .ok (.aload_n 0, 1) := by decide +kernel
theorem dX8_type_14 : decode cX8_type 14 = .ok (.getfield 290, 3) := by decide +kernel
theorem dX8_type_17 : decode cX8_type 17 = .ok (.bipush 120, 2) := by decide +kernel
theorem dX8_type_19 : decode cX8_type 19 = .ok (.if_icmp .ne 6, 3) := by decide +kernel
theorem dX8_type_22 : decode cX8_type 22 = .ok (.bipush (-3), 2) := by decide +kernel
theorem dX8_type_24 : decode cX8_type 24 = .ok (.ireturn, 1) := by decide +kernel
theorem dX8_type_25 : decode cX8_type 25 = .ok (.aload_n 0, 1) := by decide +kernel
theorem dX8_type_26 : decode cX8_type 26 = .ok (.getfield 66, 3) := by decide +kernel
theorem dX8_type_29 : decode cX8_type 29 = .ok (.aload_n 0, 1) := by decide +kernel
theorem dX8_type_30 : decode cX8_type 30 = .ok (.getfield 290, 3) := by decide +kernel
theorem dX8_type_33 : decode cX8_type 33 = .ok (.iload_n 1, 1) := by decide +kernel
theorem dX8_type_34 : decode cX8_type 34 = .ok (.iastore, 1) := by decide +kernel
theorem dX8_type_35 : decode cX8_type 35 = .ok (.aload_n 0, 1) := by decide +kernel
theorem dX8_type_36 : decode cX8_type 36 = .ok (.dup, 1) := by decide +kernel
theorem dX8_type_37 : decode cX8_type 37 = .ok (.getfield 290, 3) := by decide +kernel
theorem dX8_type_40 : decode cX8_type 40 = .ok (.iconst 1, 1) := by decide +kernel
theorem dX8_type_41 : decode cX8_type 41 = .ok (.iadd, 1) := by decide +kernel
theorem dX8_type_42 : decode cX8_type 42 = .ok (.putfield 290, 3) := by decide +kernel
theorem dX8_type_45 : decode cX8_type 45 = .ok (.aload_n 0, 1) := by decide +kernel
theorem dX8_type_46 : decode cX8_type 46 = .ok (.getfield 290, 3) := by decide +kernel
theorem dX8_type_49 : decode cX8_type 49 = .ok (.ireturn, 1) := by decide +kernel
theorem dX8_clear_0 : decode cX8_clear 0 = .ok (.aload_n 0, 1) := by decide +kernel
theorem dX8_clear_1 : decode cX8_clear 1 = .ok (.getfield 290, 3) := by decide +kernel
theorem dX8_clear_4 : decode cX8_clear 4 = .ok (.istore_n 1, 1) := by decide +kernel
theorem dX8_clear_5 : decode cX8_clear 5 = .ok (.aload_n 0, 1) := by decide +kernel
theorem dX8_clear_6 : decode cX8_clear 6 = .ok (.iconst 0, 1) := by decide +kernel
theorem dX8_clear_7 : decode cX8_clear 7 = .ok (.putfield 290, 3) := by decide +kernel
theorem dX8_clear_10 : decode cX8_clear 10 = .ok (.iload_n 1, 1) := by decide +kernel
theorem dX8_clear_11 : decode cX8_clear 11 = .ok (.ireturn, 1) := by decide +kernel
theorem dX8_times_0 : decode cX8_times 0 = .ok (.iload_n 1, 1) := by decide +kernel
theorem dX8_times_1 : decode cX8_times 1 = .ok (.iconst 0, 1) := by decide +kernel
theorem dX8_times_2 : decode cX8_times 2 = .ok (.iconst 3, 1) := by decide +kernel
theorem dX8_times_3 : decode cX8_times 3 = .ok (.invokestatic 114, 3) := by decide +kernel
theorem dX8_times_6 : decode cX8_times 6 = .ok (.ifCond .ne 5, 3) := by decide +kernel
theorem dX8_times_9 : decode cX8_times 9 = .ok (.iconst (-1), 1) := by decide +kernel
theorem dX8_times_10 : decode cX8_times 10 = .ok (.ireturn, 1) := by decide +kernel
theorem dX8_times_11 : decode cX8_times 11 = .ok (.iload_n 1, 1) := by decide +kernel
theorem dX8_times_12 : decode cX8_times 12 = .ok (.ifCond .ne 10, 3) := by decide +kernel
theorem dX8_times_15 : decode cX8_times 15 = .ok (.aload_n 0, 1) := by decide +kernel
theorem dX8_times_16 : decode cX8_times 16 = .ok (.getfield 290, 3) := by decide +kernel
theorem dX8_times_19 : decode cX8_times 19 = .ok (.goto 31, 3) := by decide +kernel
theorem dX8_times_22 : decode cX8_times 22 = .ok (.iload_n 1, 1) := by decide +kernel
theorem dX8_times_23 : decode cX8_times 23 = .ok (.iconst 1, 1) := by decide +kernel
theorem dX8_times_24 : decode cX8_times 24 = .ok (.if_icmp .ne 10, 3) := by decide +kernel
theorem dX8_times_27 : decode cX8_times 27 = .ok (.aload_n 0, 1) := by decide +kernel
theorem dX8_times_28 : decode cX8_times 28 = .ok (.getfield 156, 3) := by decide +kernel
theorem dX8_times_31 : decode cX8_times 31 = .ok (.goto 19, 3) := by decide +kernel
theorem dX8_times_34 : decode cX8_times 34 = .ok (.iload_n 1, 1) := by decide +kernel
theorem dX8_times_35 : decode cX8_times 35 = .ok (.iconst 2, 1) := by decide +kernel
theorem dX8_times_36 : decode cX8_times 36 = .ok (.if_icmp .ne 10, 3) := by decide +kernel
theorem dX8_times_39 : decode cX8_times 39 = .ok (.aload_n 0, 1) := by decide +kernel
theorem dX8_times_40 : decode cX8_times 40 = .ok (.getfield 181, 3) := by decide +kernel
theorem dX8_times_43 : decode cX8_times 43 = .ok (.goto 7, 3) := by decide +kernel
theorem dX8_times_46 : decode cX8_times 46 = .ok (.aload_n 0, 1) := by decide +kernel
theorem dX8_times_47 : decode cX8_times 47 = .ok (.getfield 184, 3) := by decide +kernel
theorem dX8_times_50 : decode cX8_times 50 = .ok (.ireturn, 1) := by decide +kernel
theorem dX8_here_0 : decode cX8_here 0 = .ok (.aload_n 0, 1) := by decide +kernel
theorem dX8_here_1 : decode cX8_here 1 = .ok (.getfield 293, 3) := by decide +kernel
theorem dX8_here_4 : decode cX8_here 4 = .ok (.aload_n 0, 1) := by decide +kernel
theorem dX8_here_5 : decode cX8_here 5 = .ok (.getfield 290, 3) := by decide +kernel
theorem dX8_here_8 : decode cX8_here 8 = .ok (.if_icmp .ge 15, 3) := by decide +kernel
theorem dX8_here_11 : decode cX8_here 11 = .ok (.aload_n 0, 1) := by decide +kernel
theorem dX8_here_12 : decode cX8_here 12 = .ok (.getfield 66, 3) := by decide +kernel
theorem dX8_here_15 : decode cX8_here 15 = .ok (.aload_n 0, 1) := by decide +kernel
theorem dX8_here_16 : decode cX8_here 16 = .ok (.getfield 293, 3) := by decide +kernel
theorem dX8_here_19 : decode cX8_here 19 = .ok (.iaload, 1) := by decide +kernel
theorem dX8_here_20 : decode cX8_here 20 = .ok (.goto 5, 3) := by decide +kernel
theorem dX8_here_23 : decode cX8_here 23 = .ok (.bipush (-9), 2) := by decide +kernel
theorem dX8_here_25 : decode cX8_here 25 = .ok (.ireturn, 1) := by decide +kernel
theorem dX8_skip_0 : decode cX8_skip 0 = .ok (.aload_n 0, 1) := by decide +kernel
theorem dX8_skip_1 : decode cX8_skip 1 = .ok (.invokevirtual 296, 3) := by decide +kernel
theorem dX8_skip_4 : decode cX8_skip 4 = .ok (.bipush 32, 2) := by decide +kernel
theorem dX8_skip_6 : decode cX8_skip 6 = .ok (.if_icmp .ne 16, 3) := by decide +kernel
theorem dX8_skip_9 : decode cX8_skip 9 = .ok (.aload_n 0, 1) := by decide +kernel
theorem dX8_skip_10 : decode cX8_skip 10 = .ok (.dup, 1) := by decide +kernel
theorem dX8_skip_11 : decode cX8_skip 11 = .ok (.getfield 293, 3) := by decide +kernel
theorem dX8_skip_14 : decode cX8_skip 14 = .ok (.iconst 1, 1) := by decide +kernel
theorem dX8_skip_15 : decode cX8_skip 15 = .ok (.iadd, 1) := by decide +kernel
theorem dX8_skip_16 : decode cX8_skip 16 = .ok (.putfield 293, 3) := by decide +kernel
theorem dX8_skip_19 : decode cX8_skip 19 = .ok (.goto (-19), 3) := by decide +kernel
theorem dX8_skip_22 : decode cX8_skip 22 = .ok (.return_, 1) := by decide +kernel
theorem dX8_lettersHere_0 : decode cX8_lettersHere 0 = .ok (.iconst 0, 1) := by decide +kernel
theorem dX8_lettersHere_1 : decode cX8_lettersHere 1 = .ok (.istore_n 1, 1) := by decide +kernel
theorem dX8_lettersHere_2 : decode cX8_lettersHere 2 = .ok (.aload_n 0, 1) := by decide +kernel
theorem dX8_lettersHere_3 : decode cX8_lettersHere 3 = .ok (.getfield 293, 3) := by decide +kernel
theorem dX8_lettersHere_6 : decode cX8_lettersHere 6 = .ok (.iload_n 1, 1) := by decide +kernel
theorem dX8_lettersHere_7 : decode cX8_lettersHere 7 = .ok (.iadd, 1) := by decide +kernel
theorem dX8_lettersHere_8 : decode cX8_lettersHere 8 = .ok (.aload_n 0, 1) := by decide +kernel
theorem dX8_lettersHere_9 : decode cX8_lettersHere 9 = .ok (.getfield 290, 3) := by decide +kernel
theorem dX8_lettersHere_12 : decode cX8_lettersHere 12 = .ok (.if_icmp .ge 30, 3) := by decide +kernel
theorem dX8_lettersHere_15 : decode cX8_lettersHere 15 = .ok (.aload_n 0, 1) := by decide +kernel
theorem dX8_lettersHere_16 : decode cX8_lettersHere 16 = .ok (.getfield 66, 3) := by decide +kernel
theorem dX8_lettersHere_19 : decode cX8_lettersHere 19 = .ok (.aload_n 0, 1) := by decide +kernel
theorem dX8_lettersHere_20 : decode cX8_lettersHere 20 = .ok (.getfield 293, 3) := by decide +kernel
theorem dX8_lettersHere_23 : decode cX8_lettersHere 23 = .ok (.iload_n 1, 1) := by decide +kernel
theorem dX8_lettersHere_24 : decode cX8_lettersHere 24 = .ok (.iadd, 1) := by decide +kernel
theorem dX8_lettersHere_25 : decode cX8_lettersHere 25 = .ok (.iaload, 1) := by decide +kernel
theorem dX8_lettersHere_26 : decode cX8_lettersHere 26 = .ok (.bipush 97, 2) := by decide +kernel
theorem dX8_lettersHere_28 : decode cX8_lettersHere 28 = .ok (.bipush 122, 2) := by decide +kernel
theorem dX8_lettersHere_30 : decode cX8_lettersHere 30 = .ok (.invokestatic 114, 3) := by decide +kernel
theorem dX8_lettersHere_33 : decode cX8_lettersHere 33 = .ok (.ifCond .eq 9, 3) := by decide +kernel
theorem dX8_lettersHere_36 : decode cX8_lettersHere 36 = .ok (.iinc 1 1, 3) := by decide +kernel
theorem dX8_lettersHere_39 : decode cX8_lettersHere 39 = .ok (.goto (-37), 3) := by decide +kernel
theorem dX8_lettersHere_42 : decode cX8_lettersHere 42 = .ok (.iload_n 1, 1) := by decide +kernel
theorem dX8_lettersHere_43 : decode cX8_lettersHere 43 = .ok (.ireturn, 1) := by decide +kernel
theorem dX8_number_0 : decode cX8_number 0 = .ok (.aload_n 0, 1) := by decide +kernel
theorem dX8_number_1 : decode cX8_number 1 = .ok (.invokevirtual 299, 3) := by decide +kernel
theorem dX8_number_4 : decode cX8_number 4 = .ok (.iconst 0, 1) := by decide +kernel
theorem dX8_number_5 : decode cX8_number 5 = .ok (.istore_n 3, 1) := by decide +kernel
theorem dX8_number_6 : decode cX8_number 6 = .ok (.iconst 0, 1) := by decide +kernel
theorem dX8_number_7 : decode cX8_number 7 = .ok (.istore 4, 2) := by decide +kernel
theorem dX8_number_9 : decode cX8_number 9 = .ok (.aload_n 0, 1) := by decide +kernel
theorem dX8_number_10 : decode cX8_number 10 = .ok (.getfield 293, 3) := by decide +kernel
theorem dX8_number_13 : decode cX8_number 13 = .ok (.iload_n 3, 1) := by decide +kernel
theorem dX8_number_14 : decode cX8_number 14 = .ok (.iadd, 1) := by decide +kernel
theorem dX8_number_15 : decode cX8_number 15 = .ok (.aload_n 0, 1) := by decide +kernel
theorem dX8_number_16 : decode cX8_number 16 = .ok (.getfield 290, 3) := by decide +kernel
theorem dX8_number_19 : decode cX8_number 19 = .ok (.if_icmp .ge 62, 3) := by decide +kernel
theorem dX8_number_22 : decode cX8_number 22 = .ok (.aload_n 0, 1) := by decide +kernel
theorem dX8_number_23 : decode cX8_number 23 = .ok (.getfield 66, 3) := by decide +kernel
theorem dX8_number_26 : decode cX8_number 26 = .ok (.aload_n 0, 1) := by decide +kernel
theorem dX8_number_27 : decode cX8_number 27 = .ok (.getfield 293, 3) := by decide +kernel
theorem dX8_number_30 : decode cX8_number 30 = .ok (.iload_n 3, 1) := by decide +kernel
theorem dX8_number_31 : decode cX8_number 31 = .ok (.iadd, 1) := by decide +kernel
theorem dX8_number_32 : decode cX8_number 32 = .ok (.iaload, 1) := by decide +kernel
theorem dX8_number_33 : decode cX8_number 33 = .ok (.bipush 48, 2) := by decide +kernel
theorem dX8_number_35 : decode cX8_number 35 = .ok (.bipush 57, 2) := by decide +kernel
theorem dX8_number_37 : decode cX8_number 37 = .ok (.invokestatic 114, 3) := by decide +kernel
theorem dX8_number_40 : decode cX8_number 40 = .ok (.ifCond .eq 41, 3) := by decide +kernel
theorem dX8_number_43 : decode cX8_number 43 = .ok (.iload_n 3, 1) := by decide +kernel
theorem dX8_number_44 : decode cX8_number 44 = .ok (.iconst 5, 1) := by decide +kernel
theorem dX8_number_45 : decode cX8_number 45 = .ok (.if_icmp .ge 26, 3) := by decide +kernel
theorem dX8_number_48 : decode cX8_number 48 = .ok (.bipush 10, 2) := by decide +kernel
theorem dX8_number_50 : decode cX8_number 50 = .ok (.iload 4, 2) := by decide +kernel
theorem dX8_number_52 : decode cX8_number 52 = .ok (.imul, 1) := by decide +kernel
theorem dX8_number_53 : decode cX8_number 53 = .ok (.aload_n 0, 1) := by decide +kernel
theorem dX8_number_54 : decode cX8_number 54 = .ok (.getfield 66, 3) := by decide +kernel
theorem dX8_number_57 : decode cX8_number 57 = .ok (.aload_n 0, 1) := by decide +kernel
theorem dX8_number_58 : decode cX8_number 58 = .ok (.getfield 293, 3) := by decide +kernel
theorem dX8_number_61 : decode cX8_number 61 = .ok (.iload_n 3, 1) := by decide +kernel
theorem dX8_number_62 : decode cX8_number 62 = .ok (.iadd, 1) := by decide +kernel
theorem dX8_number_63 : decode cX8_number 63 = .ok (.iaload, 1) := by decide +kernel
theorem dX8_number_64 : decode cX8_number 64 = .ok (.iadd, 1) := by decide +kernel
theorem dX8_number_65 : decode cX8_number 65 = .ok (.bipush 48, 2) := by decide +kernel
theorem dX8_number_67 : decode cX8_number 67 = .ok (.isub, 1) := by decide +kernel
theorem dX8_number_68 : decode cX8_number 68 = .ok (.goto 5, 3) := by decide +kernel
theorem dX8_number_71 : decode cX8_number 71 = .ok (.iload 4, 2) := by decide +kernel
theorem dX8_number_73 : decode cX8_number 73 = .ok (.istore 4, 2) := by decide +kernel
theorem dX8_number_75 : decode cX8_number 75 = .ok (.iinc 3 1, 3) := by decide +kernel
theorem dX8_number_78 : decode cX8_number 78 = .ok (.goto (-69), 3) := by decide +kernel
theorem dX8_number_81 : decode cX8_number 81 = .ok (.iload_n 3, 1) := by decide +kernel
theorem dX8_number_82 : decode cX8_number 82 = .ok (.iconst 1, 1) := by decide +kernel
theorem dX8_number_83 : decode cX8_number 83 = .ok (.iconst 5, 1) := by decide +kernel
theorem dX8_number_84 : decode cX8_number 84 = .ok (.invokestatic 114, 3) := by decide +kernel
theorem dX8_number_87 : decode cX8_number 87 = .ok (.ifCond .eq 27, 3) := by decide +kernel
theorem dX8_number_90 : decode cX8_number 90 = .ok (.iload_n 3, 1) := by decide +kernel
theorem dX8_number_91 : decode cX8_number 91 = .ok (.iconst 1, 1) := by decide +kernel
theorem dX8_number_92 : decode cX8_number 92 = .ok (.if_icmp .le 12, 3) := by decide +kernel
theorem dX8_number_95 : decode cX8_number 95 = .ok (.aload_n 0, 1) := by decide +kernel
theorem dX8_number_96 : decode cX8_number 96 = .ok (.invokevirtual 296, 3) := by decide +kernel
theorem dX8_number_99 : decode cX8_number 99 = .ok (.bipush 48, 2) := by decide +kernel
theorem dX8_number_101 : decode cX8_number 101 = .ok (.if_icmp .eq 13, 3) := by decide +kernel
theorem dX8_number_104 : decode cX8_number 104 = .ok (.iload 4, 2) := by decide +kernel
theorem dX8_number_106 : decode cX8_number 106 = .ok (.iload_n 1, 1) := by decide +kernel
theorem dX8_number_107 : decode cX8_number 107 = .ok (.iload_n 2, 1) := by decide +kernel
theorem dX8_number_108 : decode cX8_number 108 = .ok (.invokestatic 114, 3) := by decide +kernel
theorem dX8_number_111 : decode cX8_number 111 = .ok (.ifCond .ne 5, 3) := by decide +kernel
theorem dX8_number_114 : decode cX8_number 114 = .ok (.iconst 0, 1) := by decide +kernel
theorem dX8_number_115 : decode cX8_number 115 = .ok (.ireturn, 1) := by decide +kernel
theorem dX8_number_116 : decode cX8_number 116 = .ok (.aload_n 0, 1) := by decide +kernel
theorem dX8_number_117 : decode cX8_number 117 = .ok (.iload 4, 2) := by decide +kernel
theorem dX8_number_119 : decode cX8_number 119 = .ok (.putfield 302, 3) := by decide +kernel
theorem dX8_number_122 : decode cX8_number 122 = .ok (.aload_n 0, 1) := by decide +kernel
theorem dX8_number_123 : decode cX8_number 123 = .ok (.dup, 1) := by decide +kernel
theorem dX8_number_124 : decode cX8_number 124 = .ok (.getfield 293, 3) := by decide +kernel
theorem dX8_number_127 : decode cX8_number 127 = .ok (.iload_n 3, 1) := by decide +kernel
theorem dX8_number_128 : decode cX8_number 128 = .ok (.iadd, 1) := by decide +kernel
theorem dX8_number_129 : decode cX8_number 129 = .ok (.putfield 293, 3) := by decide +kernel
theorem dX8_number_132 : decode cX8_number 132 = .ok (.iconst 1, 1) := by decide +kernel
theorem dX8_number_133 : decode cX8_number 133 = .ok (.ireturn, 1) := by decide +kernel
theorem dX8_ends_0 : decode cX8_ends 0 = .ok (.aload_n 0, 1) := by decide +kernel
theorem dX8_ends_1 : decode cX8_ends 1 = .ok (.invokevirtual 299, 3) := by decide +kernel
theorem dX8_ends_4 : decode cX8_ends 4 = .ok (.aload_n 0, 1) := by decide +kernel
theorem dX8_ends_5 : decode cX8_ends 5 = .ok (.invokevirtual 296, 3) := by decide +kernel
theorem dX8_ends_8 : decode cX8_ends 8 = .ok (.bipush 59, 2) := by decide +kernel
theorem dX8_ends_10 : decode cX8_ends 10 = .ok (.if_icmp .eq 5, 3) := by decide +kernel
theorem dX8_ends_13 : decode cX8_ends 13 = .ok (.iconst 0, 1) := by decide +kernel
theorem dX8_ends_14 : decode cX8_ends 14 = .ok (.ireturn, 1) := by decide +kernel
theorem dX8_ends_15 : decode cX8_ends 15 = .ok (.aload_n 0, 1) := by decide +kernel
theorem dX8_ends_16 : decode cX8_ends 16 = .ok (.dup, 1) := by decide +kernel
theorem dX8_ends_17 : decode cX8_ends 17 = .ok (.getfield 293, 3) := by decide +kernel
theorem dX8_ends_20 : decode cX8_ends 20 = .ok (.iconst 1, 1) := by decide +kernel
theorem dX8_ends_21 : decode cX8_ends 21 = .ok (.iadd, 1) := by decide +kernel
theorem dX8_ends_22 : decode cX8_ends 22 = .ok (.putfield 293, 3) := by decide +kernel
theorem dX8_ends_25 : decode cX8_ends 25 = .ok (.iconst 1, 1) := by decide +kernel
theorem dX8_ends_26 : decode cX8_ends 26 = .ok (.ireturn, 1) := by decide +kernel
theorem dX8_readsKey_0 : decode cX8_readsKey 0 = .ok (.aload_n 0, 1) := by decide +kernel
theorem dX8_readsKey_1 : decode cX8_readsKey 1 = .ok (.invokevirtual 299, 3) := by decide +kernel
theorem dX8_readsKey_4 : decode cX8_readsKey 4 = .ok (.aload_n 0, 1) := by decide +kernel
theorem dX8_readsKey_5 : decode cX8_readsKey 5 = .ok (.invokevirtual 305, 3) := by decide +kernel
theorem dX8_readsKey_8 : decode cX8_readsKey 8 = .ok (.istore_n 1, 1) := by decide +kernel
theorem dX8_readsKey_9 : decode cX8_readsKey 9 = .ok (.iload_n 1, 1) := by decide +kernel
theorem dX8_readsKey_10 : decode cX8_readsKey 10 = .ok (.iconst 1, 1) := by decide +kernel
theorem dX8_readsKey_11 : decode cX8_readsKey 11 = .ok (.bipush 8, 2) := by decide +kernel
theorem dX8_readsKey_13 : decode cX8_readsKey 13 = .ok (.invokestatic 114, 3) := by decide +kernel
theorem dX8_readsKey_16 : decode cX8_readsKey 16 = .ok (.ifCond .ne 5, 3) := by decide +kernel
theorem dX8_readsKey_19 : decode cX8_readsKey 19 = .ok (.iconst 0, 1) := by decide +kernel
theorem dX8_readsKey_20 : decode cX8_readsKey 20 = .ok (.ireturn, 1) := by decide +kernel
theorem dX8_readsKey_21 : decode cX8_readsKey 21 = .ok (.aload_n 0, 1) := by decide +kernel
theorem dX8_readsKey_22 : decode cX8_readsKey 22 = .ok (.iload_n 1, 1) := by decide +kernel
theorem dX8_readsKey_23 : decode cX8_readsKey 23 = .ok (.putfield 111, 3) := by decide +kernel
theorem dX8_readsKey_26 : decode cX8_readsKey 26 = .ok (.iconst 0, 1) := by decide +kernel
theorem dX8_readsKey_27 : decode cX8_readsKey 27 = .ok (.istore_n 2, 1) := by decide +kernel
theorem dX8_readsKey_28 : decode cX8_readsKey 28 = .ok (.iload_n 2, 1) := by decide +kernel
theorem dX8_readsKey_29 : decode cX8_readsKey 29 = .ok (.iload_n 1, 1) := by decide +kernel
theorem dX8_readsKey_30 : decode cX8_readsKey 30 = .ok (.if_icmp .ge 26, 3) := by decide +kernel
theorem dX8_readsKey_33 : decode cX8_readsKey 33 = .ok (.aload_n 0, 1) := by decide +kernel
theorem dX8_readsKey_34 : decode cX8_readsKey 34 = .ok (.getfield 29, 3) := by decide +kernel
theorem dX8_readsKey_37 : decode cX8_readsKey 37 = .ok (.iload_n 2, 1) := by decide +kernel
theorem dX8_readsKey_38 : decode cX8_readsKey 38 = .ok (.aload_n 0, 1) := by decide +kernel
theorem dX8_readsKey_39 : decode cX8_readsKey 39 = .ok (.getfield 66, 3) := by decide +kernel
theorem dX8_readsKey_42 : decode cX8_readsKey 42 = .ok (.aload_n 0, 1) := by decide +kernel
theorem dX8_readsKey_43 : decode cX8_readsKey 43 = .ok (.getfield 293, 3) := by decide +kernel
theorem dX8_readsKey_46 : decode cX8_readsKey 46 = .ok (.iload_n 2, 1) := by decide +kernel
theorem dX8_readsKey_47 : decode cX8_readsKey 47 = .ok (.iadd, 1) := by decide +kernel
theorem dX8_readsKey_48 : decode cX8_readsKey 48 = .ok (.iaload, 1) := by decide +kernel
theorem dX8_readsKey_49 : decode cX8_readsKey 49 = .ok (.iastore, 1) := by decide +kernel
theorem dX8_readsKey_50 : decode cX8_readsKey 50 = .ok (.iinc 2 1, 3) := by decide +kernel
theorem dX8_readsKey_53 : decode cX8_readsKey 53 = .ok (.goto (-25), 3) := by decide +kernel
theorem dX8_readsKey_56 : decode cX8_readsKey 56 = .ok (.aload_n 0, 1) := by decide +kernel
theorem dX8_readsKey_57 : decode cX8_readsKey 57 = .ok (.dup, 1) := by decide +kernel
theorem dX8_readsKey_58 : decode cX8_readsKey 58 = .ok (.getfield 293, 3) := by decide +kernel
theorem dX8_readsKey_61 : decode cX8_readsKey 61 = .ok (.iload_n 1, 1) := by decide +kernel
theorem dX8_readsKey_62 : decode cX8_readsKey 62 = .ok (.iadd, 1) := by decide +kernel
theorem dX8_readsKey_63 : decode cX8_readsKey 63 = .ok (.putfield 293, 3) := by decide +kernel
theorem dX8_readsKey_66 : decode cX8_readsKey 66 = .ok (.iconst 1, 1) := by decide +kernel
theorem dX8_readsKey_67 : decode cX8_readsKey 67 = .ok (.ireturn, 1) := by decide +kernel
theorem dX8_letterAt_0 : decode cX8_letterAt 0 = .ok (.aload_n 0, 1) := by decide +kernel
theorem dX8_letterAt_1 : decode cX8_letterAt 1 = .ok (.getfield 66, 3) := by decide +kernel
theorem dX8_letterAt_4 : decode cX8_letterAt 4 = .ok (.aload_n 0, 1) := by decide +kernel
theorem dX8_letterAt_5 : decode cX8_letterAt 5 = .ok (.getfield 293, 3) := by decide +kernel
theorem dX8_letterAt_8 : decode cX8_letterAt 8 = .ok (.iload_n 1, 1) := by decide +kernel
theorem dX8_letterAt_9 : decode cX8_letterAt 9 = .ok (.iadd, 1) := by decide +kernel
theorem dX8_letterAt_10 : decode cX8_letterAt 10 = .ok (.iaload, 1) := by decide +kernel
theorem dX8_letterAt_11 : decode cX8_letterAt 11 = .ok (.ireturn, 1) := by decide +kernel
theorem dX8_commandHere_0 : decode cX8_commandHere 0 = .ok (.aload_n 0, 1) := by decide +kernel
theorem dX8_commandHere_1 : decode cX8_commandHere 1 = .ok (.invokevirtual 305, 3) := by decide +kernel
theorem dX8_commandHere_4 : decode cX8_commandHere 4 = .ok (.istore_n 1, 1) := by decide +kernel
theorem dX8_commandHere_5 : decode cX8_commandHere 5 = .ok (.iload_n 1, 1) := by decide +kernel
theorem dX8_commandHere_6 : decode cX8_commandHere 6 = .ok (.iconst 3, 1) := by decide +kernel
theorem dX8_commandHere_7 : decode cX8_commandHere 7 = .ok (.if_icmp .ne 39, 3) := by decide +kernel
theorem dX8_commandHere_10 : decode cX8_commandHere 10 = .ok (.aload_n 0, 1) := by decide +kernel
theorem dX8_commandHere_11 : decode cX8_commandHere 11 = .ok (.iconst 0, 1) := by decide +kernel
theorem dX8_commandHere_12 : decode cX8_commandHere 12 = .ok (.invokevirtual 308, 3) := by decide +kernel
theorem dX8_commandHere_15 : decode cX8_commandHere 15 = .ok (.bipush 112, 2) := by decide +kernel
theorem dX8_commandHere_17 : decode cX8_commandHere 17 = .ok (.if_icmp .ne 27, 3) := by decide +kernel
theorem dX8_commandHere_20 : decode cX8_commandHere 20 = .ok (.aload_n 0, 1) := by decide +kernel
theorem dX8_commandHere_21 : decode cX8_commandHere 21 = .ok (.iconst 1, 1) := by decide +kernel
theorem dX8_commandHere_22 : decode cX8_commandHere 22 = .ok (.invokevirtual 308, 3) := by decide +kernel
theorem dX8_commandHere_25 : decode cX8_commandHere 25 = .ok (.bipush 117, 2) := by decide +kernel
theorem dX8_commandHere_27 : decode cX8_commandHere 27 = .ok (.if_icmp .ne 17, 3) := by decide +kernel
theorem dX8_commandHere_30 : decode cX8_commandHere 30 = .ok (.aload_n 0, 1) := by decide +kernel
theorem dX8_commandHere_31 : decode cX8_commandHere 31 = .ok (.iconst 2, 1) := by decide +kernel
theorem dX8_commandHere_32 : decode cX8_commandHere 32 = .ok (.invokevirtual 308, 3) := by decide +kernel
theorem dX8_commandHere_35 : decode cX8_commandHere 35 = .ok (.bipush 116, 2) := by decide +kernel
theorem dX8_commandHere_37 : decode cX8_commandHere 37 = .ok (.if_icmp .ne 7, 3) := by decide +kernel
theorem dX8_commandHere_40 : decode cX8_commandHere 40 = .ok (.iconst 1, 1) := by decide +kernel
theorem dX8_commandHere_41 : decode cX8_commandHere 41 = .ok (.goto 4, 3) := by decide +kernel
theorem dX8_commandHere_44 : decode cX8_commandHere 44 = .ok (.iconst 0, 1) := by decide +kernel
theorem dX8_commandHere_45 : decode cX8_commandHere 45 = .ok (.ireturn, 1) := by decide +kernel
theorem dX8_commandHere_46 : decode cX8_commandHere 46 = .ok (.iload_n 1, 1) := by decide +kernel
theorem dX8_commandHere_47 : decode cX8_commandHere 47 = .ok (.iconst 4, 1) := by decide +kernel
theorem dX8_commandHere_48 : decode cX8_commandHere 48 = .ok (.if_icmp .eq 5, 3) := by decide +kernel
theorem dX8_commandHere_51 : decode cX8_commandHere 51 = .ok (.iconst 0, 1) := by decide +kernel
theorem dX8_commandHere_52 : decode cX8_commandHere 52 = .ok (.ireturn, 1) := by decide +kernel
theorem dX8_commandHere_53 : decode cX8_commandHere 53 = .ok (.aload_n 0, 1) := by decide +kernel
theorem dX8_commandHere_54 : decode cX8_commandHere 54 = .ok (.iconst 0, 1) := by decide +kernel
theorem dX8_commandHere_55 : decode cX8_commandHere 55 = .ok (.invokevirtual 308, 3) := by decide +kernel
theorem dX8_commandHere_58 : decode cX8_commandHere 58 = .ok (.bipush 116, 2) := by decide +kernel
theorem dX8_commandHere_60 : decode cX8_commandHere 60 = .ok (.if_icmp .ne 35, 3) := by decide +kernel
theorem dX8_commandHere_63 : decode cX8_commandHere 63 = .ok (.aload_n 0, 1) := by decide +kernel
theorem dX8_commandHere_64 : decode cX8_commandHere 64 = .ok (.iconst 1, 1) := by decide +kernel
theorem dX8_commandHere_65 : decode cX8_commandHere 65 = .ok (.invokevirtual 308, 3) := by decide +kernel
theorem dX8_commandHere_68 : decode cX8_commandHere 68 = .ok (.bipush 97, 2) := by decide +kernel
theorem dX8_commandHere_70 : decode cX8_commandHere 70 = .ok (.if_icmp .ne 25, 3) := by decide +kernel
theorem dX8_commandHere_73 : decode cX8_commandHere 73 = .ok (.aload_n 0, 1) := by decide +kernel
theorem dX8_commandHere_74 : decode cX8_commandHere 74 = .ok (.iconst 2, 1) := by decide +kernel
theorem dX8_commandHere_75 : decode cX8_commandHere 75 = .ok (.invokevirtual 308, 3) := by decide +kernel
theorem dX8_commandHere_78 : decode cX8_commandHere 78 = .ok (.bipush 107, 2) := by decide +kernel
theorem dX8_commandHere_80 : decode cX8_commandHere 80 = .ok (.if_icmp .ne 15, 3) := by decide +kernel
theorem dX8_commandHere_83 : decode cX8_commandHere 83 = .ok (.aload_n 0, 1) := by decide +kernel
theorem dX8_commandHere_84 : decode cX8_commandHere 84 = .ok (.iconst 3, 1) := by decide +kernel
theorem dX8_commandHere_85 : decode cX8_commandHere 85 = .ok (.invokevirtual 308, 3) := by decide +kernel
theorem dX8_commandHere_88 : decode cX8_commandHere 88 = .ok (.bipush 101, 2) := by decide +kernel
theorem dX8_commandHere_90 : decode cX8_commandHere 90 = .ok (.if_icmp .ne 5, 3) := by decide +kernel
theorem dX8_commandHere_93 : decode cX8_commandHere 93 = .ok (.iconst 2, 1) := by decide +kernel
theorem dX8_commandHere_94 : decode cX8_commandHere 94 = .ok (.ireturn, 1) := by decide +kernel
theorem dX8_commandHere_95 : decode cX8_commandHere 95 = .ok (.aload_n 0, 1) := by decide +kernel
theorem dX8_commandHere_96 : decode cX8_commandHere 96 = .ok (.iconst 0, 1) := by decide +kernel
theorem dX8_commandHere_97 : decode cX8_commandHere 97 = .ok (.invokevirtual 308, 3) := by decide +kernel
theorem dX8_commandHere_100 : decode cX8_commandHere 100 = .ok (.bipush 108, 2) := by decide +kernel
theorem dX8_commandHere_102 : decode cX8_commandHere 102 = .ok (.if_icmp .ne 37, 3) := by decide +kernel
theorem dX8_commandHere_105 : decode cX8_commandHere 105 = .ok (.aload_n 0, 1) := by decide +kernel
theorem dX8_commandHere_106 : decode cX8_commandHere 106 = .ok (.iconst 1, 1) := by decide +kernel
theorem dX8_commandHere_107 : decode cX8_commandHere 107 = .ok (.invokevirtual 308, 3) := by decide +kernel
theorem dX8_commandHere_110 : decode cX8_commandHere 110 = .ok (.bipush 111, 2) := by decide +kernel
theorem dX8_commandHere_112 : decode cX8_commandHere 112 = .ok (.if_icmp .ne 27, 3) := by decide +kernel
theorem dX8_commandHere_115 : decode cX8_commandHere 115 = .ok (.aload_n 0, 1) := by decide +kernel
theorem dX8_commandHere_116 : decode cX8_commandHere 116 = .ok (.iconst 2, 1) := by decide +kernel
theorem dX8_commandHere_117 : decode cX8_commandHere 117 = .ok (.invokevirtual 308, 3) := by decide +kernel
theorem dX8_commandHere_120 : decode cX8_commandHere 120 = .ok (.bipush 97, 2) := by decide +kernel
theorem dX8_commandHere_122 : decode cX8_commandHere 122 = .ok (.if_icmp .ne 17, 3) := by decide +kernel
theorem dX8_commandHere_125 : decode cX8_commandHere 125 = .ok (.aload_n 0, 1) := by decide +kernel
theorem dX8_commandHere_126 : decode cX8_commandHere 126 = .ok (.iconst 3, 1) := by decide +kernel
theorem dX8_commandHere_127 : decode cX8_commandHere 127 = .ok (.invokevirtual 308, 3) := by decide +kernel
theorem dX8_commandHere_130 : decode cX8_commandHere 130 = .ok (.bipush 100, 2) := by decide +kernel
theorem dX8_commandHere_132 : decode cX8_commandHere 132 = .ok (.if_icmp .ne 7, 3) := by decide +kernel
theorem dX8_commandHere_135 : decode cX8_commandHere 135 = .ok (.iconst 3, 1) := by decide +kernel
theorem dX8_commandHere_136 : decode cX8_commandHere 136 = .ok (.goto 4, 3) := by decide +kernel
theorem dX8_commandHere_139 : decode cX8_commandHere 139 = .ok (.iconst 0, 1) := by decide +kernel
theorem dX8_commandHere_140 : decode cX8_commandHere 140 = .ok (.ireturn, 1) := by decide +kernel
theorem dX8_readsLoad_0 : decode cX8_readsLoad 0 = .ok (.aload_n 0, 1) := by decide +kernel
theorem dX8_readsLoad_1 : decode cX8_readsLoad 1 = .ok (.iconst 0, 1) := by decide +kernel
theorem dX8_readsLoad_2 : decode cX8_readsLoad 2 = .ok (.sipush 17575, 3) := by decide +kernel
theorem dX8_readsLoad_5 : decode cX8_readsLoad 5 = .ok (.invokevirtual 311, 3) := by decide +kernel
theorem dX8_readsLoad_8 : decode cX8_readsLoad 8 = .ok (.ifCond .ne 5, 3) := by decide +kernel
theorem dX8_readsLoad_11 : decode cX8_readsLoad 11 = .ok (.iconst 0, 1) := by decide +kernel
theorem dX8_readsLoad_12 : decode cX8_readsLoad 12 = .ok (.ireturn, 1) := by decide +kernel
theorem dX8_readsLoad_13 : decode cX8_readsLoad 13 = .ok (.aload_n 0, 1) := by decide +kernel
theorem dX8_readsLoad_14 : decode cX8_readsLoad 14 = .ok (.aload_n 0, 1) := by decide +kernel
theorem dX8_readsLoad_15 : decode cX8_readsLoad 15 = .ok (.getfield 302, 3) := by decide +kernel
theorem dX8_readsLoad_18 : decode cX8_readsLoad 18 = .ok (.putfield 314, 3) := by decide +kernel
theorem dX8_readsLoad_21 : decode cX8_readsLoad 21 = .ok (.aload_n 0, 1) := by decide +kernel
theorem dX8_readsLoad_22 : decode cX8_readsLoad 22 = .ok (.iconst 1, 1) := by decide +kernel
theorem dX8_readsLoad_23 : decode cX8_readsLoad 23 = .ok (.bipush 99, 2) := by decide +kernel
theorem dX8_readsLoad_25 : decode cX8_readsLoad 25 = .ok (.invokevirtual 311, 3) := by decide +kernel
theorem dX8_readsLoad_28 : decode cX8_readsLoad 28 = .ok (.ifCond .ne 5, 3) := by decide +kernel
theorem dX8_readsLoad_31 : decode cX8_readsLoad 31 = .ok (.iconst 0, 1) := by decide +kernel
theorem dX8_readsLoad_32 : decode cX8_readsLoad 32 = .ok (.ireturn, 1) := by decide +kernel
theorem dX8_readsLoad_33 : decode cX8_readsLoad 33 = .ok (.aload_n 0, 1) := by decide +kernel
theorem dX8_readsLoad_34 : decode cX8_readsLoad 34 = .ok (.aload_n 0, 1) := by decide +kernel
theorem dX8_readsLoad_35 : decode cX8_readsLoad 35 = .ok (.getfield 302, 3) := by decide +kernel
theorem dX8_readsLoad_38 : decode cX8_readsLoad 38 = .ok (.putfield 317, 3) := by decide +kernel
theorem dX8_readsLoad_41 : decode cX8_readsLoad 41 = .ok (.aload_n 0, 1) := by decide +kernel
theorem dX8_readsLoad_42 : decode cX8_readsLoad 42 = .ok (.invokevirtual 299, 3) := by decide +kernel
theorem dX8_readsLoad_45 : decode cX8_readsLoad 45 = .ok (.aload_n 0, 1) := by decide +kernel
theorem dX8_readsLoad_46 : decode cX8_readsLoad 46 = .ok (.getfield 293, 3) := by decide +kernel
theorem dX8_readsLoad_49 : decode cX8_readsLoad 49 = .ok (.istore_n 1, 1) := by decide +kernel
theorem dX8_readsLoad_50 : decode cX8_readsLoad 50 = .ok (.aload_n 0, 1) := by decide +kernel
theorem dX8_readsLoad_51 : decode cX8_readsLoad 51 = .ok (.iconst 1, 1) := by decide +kernel
theorem dX8_readsLoad_52 : decode cX8_readsLoad 52 = .ok (.bipush 60, 2) := by decide +kernel
theorem dX8_readsLoad_54 : decode cX8_readsLoad 54 = .ok (.invokevirtual 311, 3) := by decide +kernel
theorem dX8_readsLoad_57 : decode cX8_readsLoad 57 = .ok (.ifCond .ne 5, 3) := by decide +kernel
theorem dX8_readsLoad_60 : decode cX8_readsLoad 60 = .ok (.iconst 0, 1) := by decide +kernel
theorem dX8_readsLoad_61 : decode cX8_readsLoad 61 = .ok (.ireturn, 1) := by decide +kernel
theorem dX8_readsLoad_62 : decode cX8_readsLoad 62 = .ok (.aload_n 0, 1) := by decide +kernel
theorem dX8_readsLoad_63 : decode cX8_readsLoad 63 = .ok (.getfield 314, 3) := by decide +kernel
theorem dX8_readsLoad_66 : decode cX8_readsLoad 66 = .ok (.aload_n 0, 1) := by decide +kernel
theorem dX8_readsLoad_67 : decode cX8_readsLoad 67 = .ok (.getfield 317, 3) := by decide +kernel
theorem dX8_readsLoad_70 : decode cX8_readsLoad 70 = .ok (.aload_n 0, 1) := by decide +kernel
theorem dX8_readsLoad_71 : decode cX8_readsLoad 71 = .ok (.getfield 302, 3) := by decide +kernel
theorem dX8_readsLoad_74 : decode cX8_readsLoad 74 = .ok (.invokestatic 193, 3) := by decide +kernel
theorem dX8_readsLoad_77 : decode cX8_readsLoad 77 = .ok (.ifCond .ne 10, 3) := by decide +kernel
theorem dX8_readsLoad_80 : decode cX8_readsLoad 80 = .ok (.aload_n 0, 1) := by decide +kernel
theorem dX8_readsLoad_81 : decode cX8_readsLoad 81 = .ok (.iload_n 1, 1) := by decide +kernel
theorem dX8_readsLoad_82 : decode cX8_readsLoad 82 = .ok (.putfield 293, 3) := by decide +kernel
theorem dX8_readsLoad_85 : decode cX8_readsLoad 85 = .ok (.iconst 0, 1) := by decide +kernel
theorem dX8_readsLoad_86 : decode cX8_readsLoad 86 = .ok (.ireturn, 1) := by decide +kernel
theorem dX8_readsLoad_87 : decode cX8_readsLoad 87 = .ok (.iconst 1, 1) := by decide +kernel
theorem dX8_readsLoad_88 : decode cX8_readsLoad 88 = .ok (.ireturn, 1) := by decide +kernel
theorem dX8_readsRest_0 : decode cX8_readsRest 0 = .ok (.iload_n 1, 1) := by decide +kernel
theorem dX8_readsRest_1 : decode cX8_readsRest 1 = .ok (.iconst 3, 1) := by decide +kernel
theorem dX8_readsRest_2 : decode cX8_readsRest 2 = .ok (.if_icmp .ne 8, 3) := by decide +kernel
theorem dX8_readsRest_5 : decode cX8_readsRest 5 = .ok (.aload_n 0, 1) := by decide +kernel
theorem dX8_readsRest_6 : decode cX8_readsRest 6 = .ok (.invokevirtual 320, 3) := by decide +kernel
theorem dX8_readsRest_9 : decode cX8_readsRest 9 = .ok (.ireturn, 1) := by decide +kernel
theorem dX8_readsRest_10 : decode cX8_readsRest 10 = .ok (.aload_n 0, 1) := by decide +kernel
theorem dX8_readsRest_11 : decode cX8_readsRest 11 = .ok (.invokevirtual 324, 3) := by decide +kernel
theorem dX8_readsRest_14 : decode cX8_readsRest 14 = .ok (.ifCond .eq 23, 3) := by decide +kernel
theorem dX8_readsRest_17 : decode cX8_readsRest 17 = .ok (.iload_n 1, 1) := by decide +kernel
theorem dX8_readsRest_18 : decode cX8_readsRest 18 = .ok (.iconst 2, 1) := by decide +kernel
theorem dX8_readsRest_19 : decode cX8_readsRest 19 = .ok (.if_icmp .eq 14, 3) := by decide +kernel
theorem dX8_readsRest_22 : decode cX8_readsRest 22 = .ok (.aload_n 0, 1) := by decide +kernel
theorem dX8_readsRest_23 : decode cX8_readsRest 23 = .ok (.iconst 0, 1) := by decide +kernel
theorem dX8_readsRest_24 : decode cX8_readsRest 24 = .ok (.sipush 255, 3) := by decide +kernel
theorem dX8_readsRest_27 : decode cX8_readsRest 27 = .ok (.invokevirtual 311, 3) := by decide +kernel
theorem dX8_readsRest_30 : decode cX8_readsRest 30 = .ok (.ifCond .eq 7, 3) := by decide +kernel
theorem dX8_readsRest_33 : decode cX8_readsRest 33 = .ok (.iconst 1, 1) := by decide +kernel
theorem dX8_readsRest_34 : decode cX8_readsRest 34 = .ok (.goto 4, 3) := by decide +kernel
theorem dX8_readsRest_37 : decode cX8_readsRest 37 = .ok (.iconst 0, 1) := by decide +kernel
theorem dX8_readsRest_38 : decode cX8_readsRest 38 = .ok (.ireturn, 1) := by decide +kernel
theorem dX8_readsCommand_0 : decode cX8_readsCommand 0 = .ok (.aload_n 0, 1) := by decide +kernel
theorem dX8_readsCommand_1 : decode cX8_readsCommand 1 = .ok (.invokevirtual 327, 3) := by decide +kernel
theorem dX8_readsCommand_4 : decode cX8_readsCommand 4 = .ok (.istore_n 1, 1) := by decide +kernel
theorem dX8_readsCommand_5 : decode cX8_readsCommand 5 = .ok (.iload_n 1, 1) := by decide +kernel
theorem dX8_readsCommand_6 : decode cX8_readsCommand 6 = .ok (.ifCond .ne 5, 3) := by decide +kernel
theorem dX8_readsCommand_9 : decode cX8_readsCommand 9 = .ok (.iconst 0, 1) := by decide +kernel
theorem dX8_readsCommand_10 : decode cX8_readsCommand 10 = .ok (.ireturn, 1) := by decide +kernel
theorem dX8_readsCommand_11 : decode cX8_readsCommand 11 = .ok (.aload_n 0, 1) := by decide +kernel
theorem dX8_readsCommand_12 : decode cX8_readsCommand 12 = .ok (.dup, 1) := by decide +kernel
theorem dX8_readsCommand_13 : decode cX8_readsCommand 13 = .ok (.getfield 293, 3) := by decide +kernel
theorem dX8_readsCommand_16 : decode cX8_readsCommand 16 = .ok (.iload_n 1, 1) := by decide +kernel
theorem dX8_readsCommand_17 : decode cX8_readsCommand 17 = .ok (.iconst 1, 1) := by decide +kernel
theorem dX8_readsCommand_18 : decode cX8_readsCommand 18 = .ok (.if_icmp .ne 7, 3) := by decide +kernel
theorem dX8_readsCommand_21 : decode cX8_readsCommand 21 = .ok (.iconst 3, 1) := by decide +kernel
theorem dX8_readsCommand_22 : decode cX8_readsCommand 22 = .ok (.goto 4, 3) := by decide +kernel
theorem dX8_readsCommand_25 : decode cX8_readsCommand 25 = .ok (.iconst 4, 1) := by decide +kernel
theorem dX8_readsCommand_26 : decode cX8_readsCommand 26 = .ok (.iadd, 1) := by decide +kernel
theorem dX8_readsCommand_27 : decode cX8_readsCommand 27 = .ok (.putfield 293, 3) := by decide +kernel
theorem dX8_readsCommand_30 : decode cX8_readsCommand 30 = .ok (.aload_n 0, 1) := by decide +kernel
theorem dX8_readsCommand_31 : decode cX8_readsCommand 31 = .ok (.iload_n 1, 1) := by decide +kernel
theorem dX8_readsCommand_32 : decode cX8_readsCommand 32 = .ok (.invokevirtual 330, 3) := by decide +kernel
theorem dX8_readsCommand_35 : decode cX8_readsCommand 35 = .ok (.ifCond .eq 14, 3) := by decide +kernel
theorem dX8_readsCommand_38 : decode cX8_readsCommand 38 = .ok (.aload_n 0, 1) := by decide +kernel
theorem dX8_readsCommand_39 : decode cX8_readsCommand 39 = .ok (.invokevirtual 333, 3) := by decide +kernel
theorem dX8_readsCommand_42 : decode cX8_readsCommand 42 = .ok (.ifCond .eq 7, 3) := by decide +kernel
theorem dX8_readsCommand_45 : decode cX8_readsCommand 45 = .ok (.iload_n 1, 1) := by decide +kernel
theorem dX8_readsCommand_46 : decode cX8_readsCommand 46 = .ok (.goto 4, 3) := by decide +kernel
theorem dX8_readsCommand_49 : decode cX8_readsCommand 49 = .ok (.iconst 0, 1) := by decide +kernel
theorem dX8_readsCommand_50 : decode cX8_readsCommand 50 = .ok (.ireturn, 1) := by decide +kernel
theorem dX8_does_0 : decode cX8_does 0 = .ok (.iload_n 1, 1) := by decide +kernel
theorem dX8_does_1 : decode cX8_does 1 = .ok (.iconst 1, 1) := by decide +kernel
theorem dX8_does_2 : decode cX8_does 2 = .ok (.if_icmp .ne 22, 3) := by decide +kernel
theorem dX8_does_5 : decode cX8_does 5 = .ok (.aload_n 0, 1) := by decide +kernel
theorem dX8_does_6 : decode cX8_does 6 = .ok (.aload_n 0, 1) := by decide +kernel
theorem dX8_does_7 : decode cX8_does 7 = .ok (.getfield 302, 3) := by decide +kernel
theorem dX8_does_10 : decode cX8_does 10 = .ok (.invokevirtual 168, 3) := by decide +kernel
theorem dX8_does_13 : decode cX8_does 13 = .ok (.bipush (-3), 2) := by decide +kernel
theorem dX8_does_15 : decode cX8_does 15 = .ok (.if_icmp .eq 7, 3) := by decide +kernel
theorem dX8_does_18 : decode cX8_does 18 = .ok (.iconst 1, 1) := by decide +kernel
theorem dX8_does_19 : decode cX8_does 19 = .ok (.goto 4, 3) := by decide +kernel
theorem dX8_does_22 : decode cX8_does 22 = .ok (.iconst 0, 1) := by decide +kernel
theorem dX8_does_23 : decode cX8_does 23 = .ok (.ireturn, 1) := by decide +kernel
theorem dX8_does_24 : decode cX8_does 24 = .ok (.iload_n 1, 1) := by decide +kernel
theorem dX8_does_25 : decode cX8_does 25 = .ok (.iconst 2, 1) := by decide +kernel
theorem dX8_does_26 : decode cX8_does 26 = .ok (.if_icmp .ne 20, 3) := by decide +kernel
theorem dX8_does_29 : decode cX8_does 29 = .ok (.aload_n 0, 1) := by decide +kernel
theorem dX8_does_30 : decode cX8_does 30 = .ok (.invokevirtual 187, 3) := by decide +kernel
theorem dX8_does_33 : decode cX8_does 33 = .ok (.bipush (-9), 2) := by decide +kernel
theorem dX8_does_35 : decode cX8_does 35 = .ok (.if_icmp .eq 7, 3) := by decide +kernel
theorem dX8_does_38 : decode cX8_does 38 = .ok (.iconst 1, 1) := by decide +kernel
theorem dX8_does_39 : decode cX8_does 39 = .ok (.goto 31, 3) := by decide +kernel
theorem dX8_does_42 : decode cX8_does 42 = .ok (.iconst 0, 1) := by decide +kernel
theorem dX8_does_43 : decode cX8_does 43 = .ok (.goto 27, 3) := by decide +kernel
theorem dX8_does_46 : decode cX8_does 46 = .ok (.aload_n 0, 1) := by decide +kernel
theorem dX8_does_47 : decode cX8_does 47 = .ok (.aload_n 0, 1) := by decide +kernel
theorem dX8_does_48 : decode cX8_does 48 = .ok (.getfield 314, 3) := by decide +kernel
theorem dX8_does_51 : decode cX8_does 51 = .ok (.aload_n 0, 1) := by decide +kernel
theorem dX8_does_52 : decode cX8_does 52 = .ok (.getfield 317, 3) := by decide +kernel
theorem dX8_does_55 : decode cX8_does 55 = .ok (.aload_n 0, 1) := by decide +kernel
theorem dX8_does_56 : decode cX8_does 56 = .ok (.getfield 302, 3) := by decide +kernel
theorem dX8_does_59 : decode cX8_does 59 = .ok (.invokevirtual 196, 3) := by decide +kernel
theorem dX8_does_62 : decode cX8_does 62 = .ok (.ifCond .le 7, 3) := by decide +kernel
theorem dX8_does_65 : decode cX8_does 65 = .ok (.iconst 1, 1) := by decide +kernel
theorem dX8_does_66 : decode cX8_does 66 = .ok (.goto 4, 3) := by decide +kernel
theorem dX8_does_69 : decode cX8_does 69 = .ok (.iconst 0, 1) := by decide +kernel
theorem dX8_does_70 : decode cX8_does 70 = .ok (.ireturn, 1) := by decide +kernel
theorem dX8_run_0 : decode cX8_run 0 = .ok (.aload_n 0, 1) := by decide +kernel
theorem dX8_run_1 : decode cX8_run 1 = .ok (.iconst 0, 1) := by decide +kernel
theorem dX8_run_2 : decode cX8_run 2 = .ok (.putfield 293, 3) := by decide +kernel
theorem dX8_run_5 : decode cX8_run 5 = .ok (.aload_n 0, 1) := by decide +kernel
theorem dX8_run_6 : decode cX8_run 6 = .ok (.invokevirtual 299, 3) := by decide +kernel
theorem dX8_run_9 : decode cX8_run 9 = .ok (.aload_n 0, 1) := by decide +kernel
theorem dX8_run_10 : decode cX8_run 10 = .ok (.getfield 293, 3) := by decide +kernel
theorem dX8_run_13 : decode cX8_run 13 = .ok (.aload_n 0, 1) := by decide +kernel
theorem dX8_run_14 : decode cX8_run 14 = .ok (.getfield 290, 3) := by decide +kernel
theorem dX8_run_17 : decode cX8_run 17 = .ok (.if_icmp .ge 25, 3) := by decide +kernel
theorem dX8_run_20 : decode cX8_run 20 = .ok (.aload_n 0, 1) := by decide +kernel
theorem dX8_run_21 : decode cX8_run 21 = .ok (.invokevirtual 336, 3) := by decide +kernel
theorem dX8_run_24 : decode cX8_run 24 = .ok (.ifCond .ne 11, 3) := by decide +kernel
theorem dX8_run_27 : decode cX8_run 27 = .ok (.bipush (-10), 2) := by decide +kernel
theorem dX8_run_29 : decode cX8_run 29 = .ok (.aload_n 0, 1) := by decide +kernel
theorem dX8_run_30 : decode cX8_run 30 = .ok (.getfield 293, 3) := by decide +kernel
theorem dX8_run_33 : decode cX8_run 33 = .ok (.isub, 1) := by decide +kernel
theorem dX8_run_34 : decode cX8_run 34 = .ok (.ireturn, 1) := by decide +kernel
theorem dX8_run_35 : decode cX8_run 35 = .ok (.aload_n 0, 1) := by decide +kernel
theorem dX8_run_36 : decode cX8_run 36 = .ok (.invokevirtual 299, 3) := by decide +kernel
theorem dX8_run_39 : decode cX8_run 39 = .ok (.goto (-30), 3) := by decide +kernel
theorem dX8_run_42 : decode cX8_run 42 = .ok (.aload_n 0, 1) := by decide +kernel
theorem dX8_run_43 : decode cX8_run 43 = .ok (.iconst 0, 1) := by decide +kernel
theorem dX8_run_44 : decode cX8_run 44 = .ok (.putfield 293, 3) := by decide +kernel
theorem dX8_run_47 : decode cX8_run 47 = .ok (.aload_n 0, 1) := by decide +kernel
theorem dX8_run_48 : decode cX8_run 48 = .ok (.invokevirtual 299, 3) := by decide +kernel
theorem dX8_run_51 : decode cX8_run 51 = .ok (.iconst 0, 1) := by decide +kernel
theorem dX8_run_52 : decode cX8_run 52 = .ok (.istore_n 1, 1) := by decide +kernel
theorem dX8_run_53 : decode cX8_run 53 = .ok (.aload_n 0, 1) := by decide +kernel
theorem dX8_run_54 : decode cX8_run 54 = .ok (.getfield 293, 3) := by decide +kernel
theorem dX8_run_57 : decode cX8_run 57 = .ok (.aload_n 0, 1) := by decide +kernel
theorem dX8_run_58 : decode cX8_run 58 = .ok (.getfield 290, 3) := by decide +kernel
theorem dX8_run_61 : decode cX8_run 61 = .ok (.if_icmp .ge 29, 3) := by decide +kernel
theorem dX8_run_64 : decode cX8_run 64 = .ok (.iload_n 1, 1) := by decide +kernel
theorem dX8_run_65 : decode cX8_run 65 = .ok (.aload_n 0, 1) := by decide +kernel
theorem dX8_run_66 : decode cX8_run 66 = .ok (.aload_n 0, 1) := by decide +kernel
theorem dX8_run_67 : decode cX8_run 67 = .ok (.invokevirtual 336, 3) := by decide +kernel
theorem dX8_run_70 : decode cX8_run 70 = .ok (.invokevirtual 339, 3) := by decide +kernel
theorem dX8_run_73 : decode cX8_run 73 = .ok (.ifCond .eq 7, 3) := by decide +kernel
theorem dX8_run_76 : decode cX8_run 76 = .ok (.iconst 1, 1) := by decide +kernel
theorem dX8_run_77 : decode cX8_run 77 = .ok (.goto 4, 3) := by decide +kernel
theorem dX8_run_80 : decode cX8_run 80 = .ok (.iconst 0, 1) := by decide +kernel
theorem dX8_run_81 : decode cX8_run 81 = .ok (.iadd, 1) := by decide +kernel
theorem dX8_run_82 : decode cX8_run 82 = .ok (.istore_n 1, 1) := by decide +kernel
theorem dX8_run_83 : decode cX8_run 83 = .ok (.aload_n 0, 1) := by decide +kernel
theorem dX8_run_84 : decode cX8_run 84 = .ok (.invokevirtual 299, 3) := by decide +kernel
theorem dX8_run_87 : decode cX8_run 87 = .ok (.goto (-34), 3) := by decide +kernel
theorem dX8_run_90 : decode cX8_run 90 = .ok (.aload_n 0, 1) := by decide +kernel
theorem dX8_run_91 : decode cX8_run 91 = .ok (.iconst 0, 1) := by decide +kernel
theorem dX8_run_92 : decode cX8_run 92 = .ok (.putfield 290, 3) := by decide +kernel
theorem dX8_run_95 : decode cX8_run 95 = .ok (.iload_n 1, 1) := by decide +kernel
theorem dX8_run_96 : decode cX8_run 96 = .ok (.ireturn, 1) := by decide +kernel
end
section
theorem dJ9_max_7cf53_0 : decode cJ9_max_7cf53 0 = .ok (.iload_n 0, 1) := by decide +kernel
theorem dJ9_max_7cf53_1 : decode cJ9_max_7cf53 1 = .ok (.iload_n 1, 1) := by decide +kernel
theorem dJ9_max_7cf53_2 : decode cJ9_max_7cf53 2 = .ok (.if_icmp .lt 7, 3) := by decide +kernel
theorem dJ9_max_7cf53_5 : decode cJ9_max_7cf53 5 = .ok (.iload_n 0, 1) := by decide +kernel
theorem dJ9_max_7cf53_6 : decode cJ9_max_7cf53 6 = .ok (.goto 4, 3) := by decide +kernel
theorem dJ9_max_7cf53_9 : decode cJ9_max_7cf53 9 = .ok (.iload_n 1, 1) := by decide +kernel
theorem dJ9_max_7cf53_10 : decode cJ9_max_7cf53 10 = .ok (.ireturn, 1) := by decide +kernel
theorem dJ9_min_7cf53_0 : decode cJ9_min_7cf53 0 = .ok (.iload_n 0, 1) := by decide +kernel
theorem dJ9_min_7cf53_1 : decode cJ9_min_7cf53 1 = .ok (.iload_n 1, 1) := by decide +kernel
theorem dJ9_min_7cf53_2 : decode cJ9_min_7cf53 2 = .ok (.if_icmp .gt 7, 3) := by decide +kernel
theorem dJ9_min_7cf53_5 : decode cJ9_min_7cf53 5 = .ok (.iload_n 0, 1) := by decide +kernel
theorem dJ9_min_7cf53_6 : decode cJ9_min_7cf53 6 = .ok (.goto 4, 3) := by decide +kernel
theorem dJ9_min_7cf53_9 : decode cJ9_min_7cf53 9 = .ok (.iload_n 1, 1) := by decide +kernel
theorem dJ9_min_7cf53_10 : decode cJ9_min_7cf53 10 = .ok (.ireturn, 1) := by decide +kernel
theorem dJ0_length_8abf5_0 : decode cJ0_length_8abf5 0 = .ok (.aload_n 0, 1) := by decide +kernel
theorem dJ0_length_8abf5_1 : decode cJ0_length_8abf5 1 = .ok (.getfield 9, 3) := by decide +kernel
theorem dJ0_length_8abf5_4 : decode cJ0_length_8abf5 4 = .ok (.arraylength, 1) := by decide +kernel
theorem dJ0_length_8abf5_5 : decode cJ0_length_8abf5 5 = .ok (.aload_n 0, 1) := by decide +kernel
theorem dJ0_length_8abf5_6 : decode cJ0_length_8abf5 6 = .ok (.invokevirtual 335, 3) := by decide +kernel
theorem dJ0_length_8abf5_9 : decode cJ0_length_8abf5 9 = .ok (.ishr, 1) := by decide +kernel
theorem dJ0_length_8abf5_10 : decode cJ0_length_8abf5 10 = .ok (.ireturn, 1) := by decide +kernel
theorem dJ0_charAt_5068e_0 : decode cJ0_charAt_5068e 0 = .ok (.aload_n 0, 1) := by decide +kernel
theorem dJ0_charAt_5068e_1 : decode cJ0_charAt_5068e 1 = .ok (.invokevirtual 492, 3) := by decide +kernel
theorem dJ0_charAt_5068e_4 : decode cJ0_charAt_5068e 4 = .ok (.ifCond .eq 12, 3) := by decide +kernel
theorem dJ0_charAt_5068e_7 : decode cJ0_charAt_5068e 7 = .ok (.aload_n 0, 1) := by decide +kernel
theorem dJ0_charAt_5068e_8 : decode cJ0_charAt_5068e 8 = .ok (.getfield 9, 3) := by decide +kernel
theorem dJ0_charAt_5068e_11 : decode cJ0_charAt_5068e 11 = .ok (.iload_n 1, 1) := by decide +kernel
theorem dJ0_charAt_5068e_12 : decode cJ0_charAt_5068e 12 = .ok (.invokestatic 495, 3) := by decide +kernel
theorem dJ0_charAt_5068e_15 : decode cJ0_charAt_5068e 15 = .ok (.ireturn, 1) := by decide +kernel
theorem dJ0_charAt_5068e_16 : decode cJ0_charAt_5068e 16 = .ok (.aload_n 0, 1) := by decide +kernel
theorem dJ0_charAt_5068e_17 : decode cJ0_charAt_5068e 17 = .ok (.getfield 9, 3) := by decide +kernel
theorem dJ0_charAt_5068e_20 : decode cJ0_charAt_5068e 20 = .ok (.iload_n 1, 1) := by decide +kernel
theorem dJ0_charAt_5068e_21 : decode cJ0_charAt_5068e 21 = .ok (.invokestatic 498, 3) := by decide +kernel
theorem dJ0_charAt_5068e_24 : decode cJ0_charAt_5068e 24 = .ok (.ireturn, 1) := by decide +kernel
theorem dJ0_coder_7d493_0 : decode cJ0_coder_7d493 0 = .ok (.getstatic 38, 3) := by decide +kernel
theorem dJ0_coder_7d493_3 : decode cJ0_coder_7d493 3 = .ok (.ifCond .eq 10, 3) := by decide +kernel
theorem dJ0_coder_7d493_6 : decode cJ0_coder_7d493 6 = .ok (.aload_n 0, 1) := by decide +kernel
theorem dJ0_coder_7d493_7 : decode cJ0_coder_7d493 7 = .ok (.getfield 15, 3) := by decide +kernel
theorem dJ0_coder_7d493_10 : decode cJ0_coder_7d493 10 = .ok (.goto 4, 3) := by decide +kernel
theorem dJ0_coder_7d493_13 : decode cJ0_coder_7d493 13 = .ok (.iconst 1, 1) := by decide +kernel
theorem dJ0_coder_7d493_14 : decode cJ0_coder_7d493 14 = .ok (.ireturn, 1) := by decide +kernel
theorem dJ0_isLatin1_aae02_0 : decode cJ0_isLatin1_aae02 0 = .ok (.getstatic 38, 3) := by decide +kernel
theorem dJ0_isLatin1_aae02_3 : decode cJ0_isLatin1_aae02 3 = .ok (.ifCond .eq 14, 3) := by decide +kernel
theorem dJ0_isLatin1_aae02_6 : decode cJ0_isLatin1_aae02 6 = .ok (.aload_n 0, 1) := by decide +kernel
theorem dJ0_isLatin1_aae02_7 : decode cJ0_isLatin1_aae02 7 = .ok (.getfield 15, 3) := by decide +kernel
theorem dJ0_isLatin1_aae02_10 : decode cJ0_isLatin1_aae02 10 = .ok (.ifCond .ne 7, 3) := by decide +kernel
theorem dJ0_isLatin1_aae02_13 : decode cJ0_isLatin1_aae02 13 = .ok (.iconst 1, 1) := by decide +kernel
theorem dJ0_isLatin1_aae02_14 : decode cJ0_isLatin1_aae02 14 = .ok (.goto 4, 3) := by decide +kernel
theorem dJ0_isLatin1_aae02_17 : decode cJ0_isLatin1_aae02 17 = .ok (.iconst 0, 1) := by decide +kernel
theorem dJ0_isLatin1_aae02_18 : decode cJ0_isLatin1_aae02 18 = .ok (.ireturn, 1) := by decide +kernel
theorem dJ0_checkIndex_df160_0 : decode cJ0_checkIndex_df160 0 = .ok (.iload_n 0, 1) := by decide +kernel
theorem dJ0_checkIndex_df160_1 : decode cJ0_checkIndex_df160 1 = .ok (.iload_n 1, 1) := by decide +kernel
theorem dJ0_checkIndex_df160_2 : decode cJ0_checkIndex_df160 2 = .ok (.getstatic 1053, 3) := by decide +kernel
theorem dJ0_checkIndex_df160_5 : decode cJ0_checkIndex_df160 5 = .ok (.invokestatic 1059, 3) := by decide +kernel
theorem dJ0_checkIndex_df160_8 : decode cJ0_checkIndex_df160 8 = .ok (.pop, 1) := by decide +kernel
theorem dJ0_checkIndex_df160_9 : decode cJ0_checkIndex_df160 9 = .ok (.return_, 1) := by decide +kernel
theorem dJ1_charAt_3b067_0 : decode cJ1_charAt_3b067 0 = .ok (.iload_n 1, 1) := by decide +kernel
theorem dJ1_charAt_3b067_1 : decode cJ1_charAt_3b067 1 = .ok (.aload_n 0, 1) := by decide +kernel
theorem dJ1_charAt_3b067_2 : decode cJ1_charAt_3b067 2 = .ok (.arraylength, 1) := by decide +kernel
theorem dJ1_charAt_3b067_3 : decode cJ1_charAt_3b067 3 = .ok (.invokestatic 9, 3) := by decide +kernel
theorem dJ1_charAt_3b067_6 : decode cJ1_charAt_3b067 6 = .ok (.aload_n 0, 1) := by decide +kernel
theorem dJ1_charAt_3b067_7 : decode cJ1_charAt_3b067 7 = .ok (.iload_n 1, 1) := by decide +kernel
theorem dJ1_charAt_3b067_8 : decode cJ1_charAt_3b067 8 = .ok (.baload, 1) := by decide +kernel
theorem dJ1_charAt_3b067_9 : decode cJ1_charAt_3b067 9 = .ok (.sipush 255, 3) := by decide +kernel
theorem dJ1_charAt_3b067_12 : decode cJ1_charAt_3b067 12 = .ok (.iand, 1) := by decide +kernel
theorem dJ1_charAt_3b067_13 : decode cJ1_charAt_3b067 13 = .ok (.i2c, 1) := by decide +kernel
theorem dJ1_charAt_3b067_14 : decode cJ1_charAt_3b067 14 = .ok (.ireturn, 1) := by decide +kernel
theorem dJ2_getChar_3b067_0 : decode cJ2_getChar_3b067 0 = .ok (.getstatic 44, 3) := by decide +kernel
theorem dJ2_getChar_3b067_3 : decode cJ2_getChar_3b067 3 = .ok (.ifCond .ne 25, 3) := by decide +kernel
theorem dJ2_getChar_3b067_6 : decode cJ2_getChar_3b067 6 = .ok (.iload_n 1, 1) := by decide +kernel
theorem dJ2_getChar_3b067_7 : decode cJ2_getChar_3b067 7 = .ok (.ifCond .lt 11, 3) := by decide +kernel
theorem dJ2_getChar_3b067_10 : decode cJ2_getChar_3b067 10 = .ok (.iload_n 1, 1) := by decide +kernel
theorem dJ2_getChar_3b067_11 : decode cJ2_getChar_3b067 11 = .ok (.aload_n 0, 1) := by decide +kernel
theorem dJ2_getChar_3b067_12 : decode cJ2_getChar_3b067 12 = .ok (.invokestatic 48, 3) := by decide +kernel
theorem dJ2_getChar_3b067_15 : decode cJ2_getChar_3b067 15 = .ok (.if_icmp .lt 13, 3) := by decide +kernel
theorem dJ2_getChar_3b067_18 : decode cJ2_getChar_3b067 18 = .ok (.new 52, 3) := by decide +kernel
theorem dJ2_getChar_3b067_21 : decode cJ2_getChar_3b067 21 = .ok (.dup, 1) := by decide +kernel
theorem dJ2_getChar_3b067_22 : decode cJ2_getChar_3b067 22 = .ok (.ldc 54, 2) := by decide +kernel
theorem dJ2_getChar_3b067_24 : decode cJ2_getChar_3b067 24 = .ok (.invokespecial 56, 3) := by decide +kernel
theorem dJ2_getChar_3b067_27 : decode cJ2_getChar_3b067 27 = .ok (.athrow, 1) := by decide +kernel
theorem dJ2_getChar_3b067_28 : decode cJ2_getChar_3b067 28 = .ok (.iload_n 1, 1) := by decide +kernel
theorem dJ2_getChar_3b067_29 : decode cJ2_getChar_3b067 29 = .ok (.iconst 1, 1) := by decide +kernel
theorem dJ2_getChar_3b067_30 : decode cJ2_getChar_3b067 30 = .ok (.ishl, 1) := by decide +kernel
theorem dJ2_getChar_3b067_31 : decode cJ2_getChar_3b067 31 = .ok (.istore_n 1, 1) := by decide +kernel
theorem dJ2_getChar_3b067_32 : decode cJ2_getChar_3b067 32 = .ok (.aload_n 0, 1) := by decide +kernel
theorem dJ2_getChar_3b067_33 : decode cJ2_getChar_3b067 33 = .ok (.iload_n 1, 1) := by decide +kernel
theorem dJ2_getChar_3b067_34 : decode cJ2_getChar_3b067 34 = .ok (.iinc 1 1, 3) := by decide +kernel
theorem dJ2_getChar_3b067_37 : decode cJ2_getChar_3b067 37 = .ok (.baload, 1) := by decide +kernel
theorem dJ2_getChar_3b067_38 : decode cJ2_getChar_3b067 38 = .ok (.sipush 255, 3) := by decide +kernel
theorem dJ2_getChar_3b067_41 : decode cJ2_getChar_3b067 41 = .ok (.iand, 1) := by decide +kernel
theorem dJ2_getChar_3b067_42 : decode cJ2_getChar_3b067 42 = .ok (.getstatic 59, 3) := by decide +kernel
theorem dJ2_getChar_3b067_45 : decode cJ2_getChar_3b067 45 = .ok (.ishl, 1) := by decide +kernel
theorem dJ2_getChar_3b067_46 : decode cJ2_getChar_3b067 46 = .ok (.aload_n 0, 1) := by decide +kernel
theorem dJ2_getChar_3b067_47 : decode cJ2_getChar_3b067 47 = .ok (.iload_n 1, 1) := by decide +kernel
theorem dJ2_getChar_3b067_48 : decode cJ2_getChar_3b067 48 = .ok (.baload, 1) := by decide +kernel
theorem dJ2_getChar_3b067_49 : decode cJ2_getChar_3b067 49 = .ok (.sipush 255, 3) := by decide +kernel
theorem dJ2_getChar_3b067_52 : decode cJ2_getChar_3b067 52 = .ok (.iand, 1) := by decide +kernel
theorem dJ2_getChar_3b067_53 : decode cJ2_getChar_3b067 53 = .ok (.getstatic 63, 3) := by decide +kernel
theorem dJ2_getChar_3b067_56 : decode cJ2_getChar_3b067 56 = .ok (.ishl, 1) := by decide +kernel
theorem dJ2_getChar_3b067_57 : decode cJ2_getChar_3b067 57 = .ok (.ior, 1) := by decide +kernel
theorem dJ2_getChar_3b067_58 : decode cJ2_getChar_3b067 58 = .ok (.i2c, 1) := by decide +kernel
theorem dJ2_getChar_3b067_59 : decode cJ2_getChar_3b067 59 = .ok (.ireturn, 1) := by decide +kernel
theorem dJ2_length_9d52b_0 : decode cJ2_length_9d52b 0 = .ok (.aload_n 0, 1) := by decide +kernel
theorem dJ2_length_9d52b_1 : decode cJ2_length_9d52b 1 = .ok (.arraylength, 1) := by decide +kernel
theorem dJ2_length_9d52b_2 : decode cJ2_length_9d52b 2 = .ok (.iconst 1, 1) := by decide +kernel
theorem dJ2_length_9d52b_3 : decode cJ2_length_9d52b 3 = .ok (.ishr, 1) := by decide +kernel
theorem dJ2_length_9d52b_4 : decode cJ2_length_9d52b 4 = .ok (.ireturn, 1) := by decide +kernel
theorem dJ2_charAt_3b067_0 : decode cJ2_charAt_3b067 0 = .ok (.iload_n 1, 1) := by decide +kernel
theorem dJ2_charAt_3b067_1 : decode cJ2_charAt_3b067 1 = .ok (.aload_n 0, 1) := by decide +kernel
theorem dJ2_charAt_3b067_2 : decode cJ2_charAt_3b067 2 = .ok (.invokestatic 67, 3) := by decide +kernel
theorem dJ2_charAt_3b067_5 : decode cJ2_charAt_3b067 5 = .ok (.aload_n 0, 1) := by decide +kernel
theorem dJ2_charAt_3b067_6 : decode cJ2_charAt_3b067 6 = .ok (.iload_n 1, 1) := by decide +kernel
theorem dJ2_charAt_3b067_7 : decode cJ2_charAt_3b067 7 = .ok (.invokestatic 71, 3) := by decide +kernel
theorem dJ2_charAt_3b067_10 : decode cJ2_charAt_3b067 10 = .ok (.ireturn, 1) := by decide +kernel
theorem dJ2_checkIndex_2214a_0 : decode cJ2_checkIndex_2214a 0 = .ok (.iload_n 0, 1) := by decide +kernel
theorem dJ2_checkIndex_2214a_1 : decode cJ2_checkIndex_2214a 1 = .ok (.aload_n 1, 1) := by decide +kernel
theorem dJ2_checkIndex_2214a_2 : decode cJ2_checkIndex_2214a 2 = .ok (.invokestatic 48, 3) := by decide +kernel
theorem dJ2_checkIndex_2214a_5 : decode cJ2_checkIndex_2214a 5 = .ok (.invokestatic 414, 3) := by decide +kernel
theorem dJ2_checkIndex_2214a_8 : decode cJ2_checkIndex_2214a 8 = .ok (.return_, 1) := by decide +kernel
theorem dJ7_fill_53178_0 : decode cJ7_fill_53178 0 = .ok (.iconst 0, 1) := by decide +kernel
theorem dJ7_fill_53178_1 : decode cJ7_fill_53178 1 = .ok (.istore_n 2, 1) := by decide +kernel
theorem dJ7_fill_53178_2 : decode cJ7_fill_53178 2 = .ok (.aload_n 0, 1) := by decide +kernel
theorem dJ7_fill_53178_3 : decode cJ7_fill_53178 3 = .ok (.arraylength, 1) := by decide +kernel
theorem dJ7_fill_53178_4 : decode cJ7_fill_53178 4 = .ok (.istore_n 3, 1) := by decide +kernel
theorem dJ7_fill_53178_5 : decode cJ7_fill_53178 5 = .ok (.iload_n 2, 1) := by decide +kernel
theorem dJ7_fill_53178_6 : decode cJ7_fill_53178 6 = .ok (.iload_n 3, 1) := by decide +kernel
theorem dJ7_fill_53178_7 : decode cJ7_fill_53178 7 = .ok (.if_icmp .ge 13, 3) := by decide +kernel
theorem dJ7_fill_53178_10 : decode cJ7_fill_53178 10 = .ok (.aload_n 0, 1) := by decide +kernel
theorem dJ7_fill_53178_11 : decode cJ7_fill_53178 11 = .ok (.iload_n 2, 1) := by decide +kernel
theorem dJ7_fill_53178_12 : decode cJ7_fill_53178 12 = .ok (.iload_n 1, 1) := by decide +kernel
theorem dJ7_fill_53178_13 : decode cJ7_fill_53178 13 = .ok (.iastore, 1) := by decide +kernel
theorem dJ7_fill_53178_14 : decode cJ7_fill_53178 14 = .ok (.iinc 2 1, 3) := by decide +kernel
theorem dJ7_fill_53178_17 : decode cJ7_fill_53178 17 = .ok (.goto (-12), 3) := by decide +kernel
theorem dJ7_fill_53178_20 : decode cJ7_fill_53178 20 = .ok (.return_, 1) := by decide +kernel
theorem dJ3_checkIndex_8e157_0 : decode cJ3_checkIndex_8e157 0 = .ok (.iload_n 0, 1) := by decide +kernel
theorem dJ3_checkIndex_8e157_1 : decode cJ3_checkIndex_8e157 1 = .ok (.ifCond .lt 8, 3) := by decide +kernel
theorem dJ3_checkIndex_8e157_4 : decode cJ3_checkIndex_8e157 4 = .ok (.iload_n 0, 1) := by decide +kernel
theorem dJ3_checkIndex_8e157_5 : decode cJ3_checkIndex_8e157 5 = .ok (.iload_n 1, 1) := by decide +kernel
theorem dJ3_checkIndex_8e157_6 : decode cJ3_checkIndex_8e157 6 = .ok (.if_icmp .lt 10, 3) := by decide +kernel
theorem dJ3_checkIndex_8e157_9 : decode cJ3_checkIndex_8e157 9 = .ok (.aload_n 2, 1) := by decide +kernel
theorem dJ3_checkIndex_8e157_10 : decode cJ3_checkIndex_8e157 10 = .ok (.iload_n 0, 1) := by decide +kernel
theorem dJ3_checkIndex_8e157_11 : decode cJ3_checkIndex_8e157 11 = .ok (.iload_n 1, 1) := by decide +kernel
theorem dJ3_checkIndex_8e157_12 : decode cJ3_checkIndex_8e157 12 = .ok (.invokestatic 95, 3) := by decide +kernel
theorem dJ3_checkIndex_8e157_15 : decode cJ3_checkIndex_8e157 15 = .ok (.athrow, 1) := by decide +kernel
theorem dJ3_checkIndex_8e157_16 : decode cJ3_checkIndex_8e157 16 = .ok (.iload_n 0, 1) := by decide +kernel
theorem dJ3_checkIndex_8e157_17 : decode cJ3_checkIndex_8e157 17 = .ok (.ireturn, 1) := by decide +kernel
theorem dL_law_0 : decode cL_law 0 = .ok (.new 7, 3) := by decide +kernel
theorem dL_law_3 : decode cL_law 3 = .ok (.dup, 1) := by decide +kernel
theorem dL_law_4 : decode cL_law 4 = .ok (.invokespecial 9, 3) := by decide +kernel
theorem dL_law_7 : decode cL_law 7 = .ok (.astore_n 1, 1) := by decide +kernel
theorem dL_law_8 : decode cL_law 8 = .ok (.new 10, 3) := by decide +kernel
theorem dL_law_11 : decode cL_law 11 = .ok (.dup, 1) := by decide +kernel
theorem dL_law_12 : decode cL_law 12 = .ok (.invokespecial 12, 3) := by decide +kernel
theorem dL_law_15 : decode cL_law 15 = .ok (.astore_n 2, 1) := by decide +kernel
theorem dL_law_16 : decode cL_law 16 = .ok (.iconst 0, 1) := by decide +kernel
theorem dL_law_17 : decode cL_law 17 = .ok (.istore_n 3, 1) := by decide +kernel
theorem dL_law_18 : decode cL_law 18 = .ok (.iload_n 3, 1) := by decide +kernel
theorem dL_law_19 : decode cL_law 19 = .ok (.aload_n 0, 1) := by decide +kernel
theorem dL_law_20 : decode cL_law 20 = .ok (.arraylength, 1) := by decide +kernel
theorem dL_law_21 : decode cL_law 21 = .ok (.iconst 4, 1) := by decide +kernel
theorem dL_law_22 : decode cL_law 22 = .ok (.isub, 1) := by decide +kernel
theorem dL_law_23 : decode cL_law 23 = .ok (.if_icmp .gt 665, 3) := by decide +kernel
theorem dL_law_26 : decode cL_law 26 = .ok (.aload_n 0, 1) := by decide +kernel
theorem dL_law_27 : decode cL_law 27 = .ok (.iload_n 3, 1) := by decide +kernel
theorem dL_law_28 : decode cL_law 28 = .ok (.iaload, 1) := by decide +kernel
theorem dL_law_29 : decode cL_law 29 = .ok (.bipush 31, 2) := by decide +kernel
theorem dL_law_31 : decode cL_law 31 = .ok (.iand, 1) := by decide +kernel
theorem dL_law_32 : decode cL_law 32 = .ok (.tableswitch 650 0 18 #[92, 115, 128, 141, 184, 217, 260, 293, 336, 379, 412, 435, 468, 501, 544, 567, 581, 604, 627], 92) := by decide +kernel
theorem dL_law_124 : decode cL_law 124 = .ok (.aload_n 1, 1) := by decide +kernel
theorem dL_law_125 : decode cL_law 125 = .ok (.aload_n 0, 1) := by decide +kernel
theorem dL_law_126 : decode cL_law 126 = .ok (.iload_n 3, 1) := by decide +kernel
theorem dL_law_127 : decode cL_law 127 = .ok (.iconst 1, 1) := by decide +kernel
theorem dL_law_128 : decode cL_law 128 = .ok (.iadd, 1) := by decide +kernel
theorem dL_law_129 : decode cL_law 129 = .ok (.iaload, 1) := by decide +kernel
theorem dL_law_130 : decode cL_law 130 = .ok (.invokevirtual 13, 3) := by decide +kernel
theorem dL_law_133 : decode cL_law 133 = .ok (.aload_n 2, 1) := by decide +kernel
theorem dL_law_134 : decode cL_law 134 = .ok (.aload_n 0, 1) := by decide +kernel
theorem dL_law_135 : decode cL_law 135 = .ok (.iload_n 3, 1) := by decide +kernel
theorem dL_law_136 : decode cL_law 136 = .ok (.iconst 1, 1) := by decide +kernel
theorem dL_law_137 : decode cL_law 137 = .ok (.iadd, 1) := by decide +kernel
theorem dL_law_138 : decode cL_law 138 = .ok (.iaload, 1) := by decide +kernel
theorem dL_law_139 : decode cL_law 139 = .ok (.invokevirtual 17, 3) := by decide +kernel
theorem dL_law_142 : decode cL_law 142 = .ok (.if_icmp .eq 540, 3) := by decide +kernel
theorem dL_law_145 : decode cL_law 145 = .ok (.iconst 0, 1) := by decide +kernel
theorem dL_law_146 : decode cL_law 146 = .ok (.ireturn, 1) := by decide +kernel
theorem dL_law_147 : decode cL_law 147 = .ok (.aload_n 1, 1) := by decide +kernel
theorem dL_law_148 : decode cL_law 148 = .ok (.invokevirtual 18, 3) := by decide +kernel
theorem dL_law_151 : decode cL_law 151 = .ok (.aload_n 2, 1) := by decide +kernel
theorem dL_law_152 : decode cL_law 152 = .ok (.invokevirtual 22, 3) := by decide +kernel
theorem dL_law_155 : decode cL_law 155 = .ok (.if_icmp .eq 527, 3) := by decide +kernel
theorem dL_law_158 : decode cL_law 158 = .ok (.iconst 0, 1) := by decide +kernel
theorem dL_law_159 : decode cL_law 159 = .ok (.ireturn, 1) := by decide +kernel
theorem dL_law_160 : decode cL_law 160 = .ok (.aload_n 1, 1) := by decide +kernel
theorem dL_law_161 : decode cL_law 161 = .ok (.invokevirtual 23, 3) := by decide +kernel
theorem dL_law_164 : decode cL_law 164 = .ok (.aload_n 2, 1) := by decide +kernel
theorem dL_law_165 : decode cL_law 165 = .ok (.invokevirtual 26, 3) := by decide +kernel
theorem dL_law_168 : decode cL_law 168 = .ok (.if_icmp .eq 514, 3) := by decide +kernel
theorem dL_law_171 : decode cL_law 171 = .ok (.iconst 0, 1) := by decide +kernel
theorem dL_law_172 : decode cL_law 172 = .ok (.ireturn, 1) := by decide +kernel
theorem dL_law_173 : decode cL_law 173 = .ok (.aload_n 1, 1) := by decide +kernel
theorem dL_law_174 : decode cL_law 174 = .ok (.aload_n 0, 1) := by decide +kernel
theorem dL_law_175 : decode cL_law 175 = .ok (.iload_n 3, 1) := by decide +kernel
theorem dL_law_176 : decode cL_law 176 = .ok (.iconst 1, 1) := by decide +kernel
theorem dL_law_177 : decode cL_law 177 = .ok (.iadd, 1) := by decide +kernel
theorem dL_law_178 : decode cL_law 178 = .ok (.iaload, 1) := by decide +kernel
theorem dL_law_179 : decode cL_law 179 = .ok (.aload_n 0, 1) := by decide +kernel
theorem dL_law_180 : decode cL_law 180 = .ok (.iload_n 3, 1) := by decide +kernel
theorem dL_law_181 : decode cL_law 181 = .ok (.iconst 2, 1) := by decide +kernel
theorem dL_law_182 : decode cL_law 182 = .ok (.iadd, 1) := by decide +kernel
theorem dL_law_183 : decode cL_law 183 = .ok (.iaload, 1) := by decide +kernel
theorem dL_law_184 : decode cL_law 184 = .ok (.aload_n 0, 1) := by decide +kernel
theorem dL_law_185 : decode cL_law 185 = .ok (.iload_n 3, 1) := by decide +kernel
theorem dL_law_186 : decode cL_law 186 = .ok (.iconst 3, 1) := by decide +kernel
theorem dL_law_187 : decode cL_law 187 = .ok (.iadd, 1) := by decide +kernel
theorem dL_law_188 : decode cL_law 188 = .ok (.iaload, 1) := by decide +kernel
theorem dL_law_189 : decode cL_law 189 = .ok (.invokevirtual 27, 3) := by decide +kernel
theorem dL_law_192 : decode cL_law 192 = .ok (.aload_n 2, 1) := by decide +kernel
theorem dL_law_193 : decode cL_law 193 = .ok (.aload_n 0, 1) := by decide +kernel
theorem dL_law_194 : decode cL_law 194 = .ok (.iload_n 3, 1) := by decide +kernel
theorem dL_law_195 : decode cL_law 195 = .ok (.iconst 1, 1) := by decide +kernel
theorem dL_law_196 : decode cL_law 196 = .ok (.iadd, 1) := by decide +kernel
theorem dL_law_197 : decode cL_law 197 = .ok (.iaload, 1) := by decide +kernel
theorem dL_law_198 : decode cL_law 198 = .ok (.aload_n 0, 1) := by decide +kernel
theorem dL_law_199 : decode cL_law 199 = .ok (.iload_n 3, 1) := by decide +kernel
theorem dL_law_200 : decode cL_law 200 = .ok (.iconst 2, 1) := by decide +kernel
theorem dL_law_201 : decode cL_law 201 = .ok (.iadd, 1) := by decide +kernel
theorem dL_law_202 : decode cL_law 202 = .ok (.iaload, 1) := by decide +kernel
theorem dL_law_203 : decode cL_law 203 = .ok (.aload_n 0, 1) := by decide +kernel
theorem dL_law_204 : decode cL_law 204 = .ok (.iload_n 3, 1) := by decide +kernel
theorem dL_law_205 : decode cL_law 205 = .ok (.iconst 3, 1) := by decide +kernel
theorem dL_law_206 : decode cL_law 206 = .ok (.iadd, 1) := by decide +kernel
theorem dL_law_207 : decode cL_law 207 = .ok (.iaload, 1) := by decide +kernel
theorem dL_law_208 : decode cL_law 208 = .ok (.invokevirtual 31, 3) := by decide +kernel
theorem dL_law_211 : decode cL_law 211 = .ok (.if_icmp .eq 471, 3) := by decide +kernel
theorem dL_law_214 : decode cL_law 214 = .ok (.iconst 0, 1) := by decide +kernel
theorem dL_law_215 : decode cL_law 215 = .ok (.ireturn, 1) := by decide +kernel
theorem dL_law_216 : decode cL_law 216 = .ok (.aload_n 1, 1) := by decide +kernel
theorem dL_law_217 : decode cL_law 217 = .ok (.aload_n 0, 1) := by decide +kernel
theorem dL_law_218 : decode cL_law 218 = .ok (.iload_n 3, 1) := by decide +kernel
theorem dL_law_219 : decode cL_law 219 = .ok (.iconst 1, 1) := by decide +kernel
theorem dL_law_220 : decode cL_law 220 = .ok (.iadd, 1) := by decide +kernel
theorem dL_law_221 : decode cL_law 221 = .ok (.iaload, 1) := by decide +kernel
theorem dL_law_222 : decode cL_law 222 = .ok (.aload_n 0, 1) := by decide +kernel
theorem dL_law_223 : decode cL_law 223 = .ok (.iload_n 3, 1) := by decide +kernel
theorem dL_law_224 : decode cL_law 224 = .ok (.iconst 2, 1) := by decide +kernel
theorem dL_law_225 : decode cL_law 225 = .ok (.iadd, 1) := by decide +kernel
theorem dL_law_226 : decode cL_law 226 = .ok (.iaload, 1) := by decide +kernel
theorem dL_law_227 : decode cL_law 227 = .ok (.invokevirtual 32, 3) := by decide +kernel
theorem dL_law_230 : decode cL_law 230 = .ok (.aload_n 2, 1) := by decide +kernel
theorem dL_law_231 : decode cL_law 231 = .ok (.aload_n 0, 1) := by decide +kernel
theorem dL_law_232 : decode cL_law 232 = .ok (.iload_n 3, 1) := by decide +kernel
theorem dL_law_233 : decode cL_law 233 = .ok (.iconst 1, 1) := by decide +kernel
theorem dL_law_234 : decode cL_law 234 = .ok (.iadd, 1) := by decide +kernel
theorem dL_law_235 : decode cL_law 235 = .ok (.iaload, 1) := by decide +kernel
theorem dL_law_236 : decode cL_law 236 = .ok (.aload_n 0, 1) := by decide +kernel
theorem dL_law_237 : decode cL_law 237 = .ok (.iload_n 3, 1) := by decide +kernel
theorem dL_law_238 : decode cL_law 238 = .ok (.iconst 2, 1) := by decide +kernel
theorem dL_law_239 : decode cL_law 239 = .ok (.iadd, 1) := by decide +kernel
theorem dL_law_240 : decode cL_law 240 = .ok (.iaload, 1) := by decide +kernel
theorem dL_law_241 : decode cL_law 241 = .ok (.invokevirtual 36, 3) := by decide +kernel
theorem dL_law_244 : decode cL_law 244 = .ok (.if_icmp .eq 438, 3) := by decide +kernel
theorem dL_law_247 : decode cL_law 247 = .ok (.iconst 0, 1) := by decide +kernel
theorem dL_law_248 : decode cL_law 248 = .ok (.ireturn, 1) := by decide +kernel
theorem dL_law_249 : decode cL_law 249 = .ok (.aload_n 1, 1) := by decide +kernel
theorem dL_law_250 : decode cL_law 250 = .ok (.aload_n 0, 1) := by decide +kernel
theorem dL_law_251 : decode cL_law 251 = .ok (.iload_n 3, 1) := by decide +kernel
theorem dL_law_252 : decode cL_law 252 = .ok (.iconst 1, 1) := by decide +kernel
theorem dL_law_253 : decode cL_law 253 = .ok (.iadd, 1) := by decide +kernel
theorem dL_law_254 : decode cL_law 254 = .ok (.iaload, 1) := by decide +kernel
theorem dL_law_255 : decode cL_law 255 = .ok (.aload_n 0, 1) := by decide +kernel
theorem dL_law_256 : decode cL_law 256 = .ok (.iload_n 3, 1) := by decide +kernel
theorem dL_law_257 : decode cL_law 257 = .ok (.iconst 2, 1) := by decide +kernel
theorem dL_law_258 : decode cL_law 258 = .ok (.iadd, 1) := by decide +kernel
theorem dL_law_259 : decode cL_law 259 = .ok (.iaload, 1) := by decide +kernel
theorem dL_law_260 : decode cL_law 260 = .ok (.aload_n 0, 1) := by decide +kernel
theorem dL_law_261 : decode cL_law 261 = .ok (.iload_n 3, 1) := by decide +kernel
theorem dL_law_262 : decode cL_law 262 = .ok (.iconst 3, 1) := by decide +kernel
theorem dL_law_263 : decode cL_law 263 = .ok (.iadd, 1) := by decide +kernel
theorem dL_law_264 : decode cL_law 264 = .ok (.iaload, 1) := by decide +kernel
theorem dL_law_265 : decode cL_law 265 = .ok (.invokevirtual 37, 3) := by decide +kernel
theorem dL_law_268 : decode cL_law 268 = .ok (.aload_n 2, 1) := by decide +kernel
theorem dL_law_269 : decode cL_law 269 = .ok (.aload_n 0, 1) := by decide +kernel
theorem dL_law_270 : decode cL_law 270 = .ok (.iload_n 3, 1) := by decide +kernel
theorem dL_law_271 : decode cL_law 271 = .ok (.iconst 1, 1) := by decide +kernel
theorem dL_law_272 : decode cL_law 272 = .ok (.iadd, 1) := by decide +kernel
theorem dL_law_273 : decode cL_law 273 = .ok (.iaload, 1) := by decide +kernel
theorem dL_law_274 : decode cL_law 274 = .ok (.aload_n 0, 1) := by decide +kernel
theorem dL_law_275 : decode cL_law 275 = .ok (.iload_n 3, 1) := by decide +kernel
theorem dL_law_276 : decode cL_law 276 = .ok (.iconst 2, 1) := by decide +kernel
theorem dL_law_277 : decode cL_law 277 = .ok (.iadd, 1) := by decide +kernel
theorem dL_law_278 : decode cL_law 278 = .ok (.iaload, 1) := by decide +kernel
theorem dL_law_279 : decode cL_law 279 = .ok (.aload_n 0, 1) := by decide +kernel
theorem dL_law_280 : decode cL_law 280 = .ok (.iload_n 3, 1) := by decide +kernel
theorem dL_law_281 : decode cL_law 281 = .ok (.iconst 3, 1) := by decide +kernel
theorem dL_law_282 : decode cL_law 282 = .ok (.iadd, 1) := by decide +kernel
theorem dL_law_283 : decode cL_law 283 = .ok (.iaload, 1) := by decide +kernel
theorem dL_law_284 : decode cL_law 284 = .ok (.invokevirtual 40, 3) := by decide +kernel
theorem dL_law_287 : decode cL_law 287 = .ok (.if_icmp .eq 395, 3) := by decide +kernel
theorem dL_law_290 : decode cL_law 290 = .ok (.iconst 0, 1) := by decide +kernel
theorem dL_law_291 : decode cL_law 291 = .ok (.ireturn, 1) := by decide +kernel
theorem dL_law_292 : decode cL_law 292 = .ok (.aload_n 1, 1) := by decide +kernel
theorem dL_law_293 : decode cL_law 293 = .ok (.aload_n 0, 1) := by decide +kernel
theorem dL_law_294 : decode cL_law 294 = .ok (.iload_n 3, 1) := by decide +kernel
theorem dL_law_295 : decode cL_law 295 = .ok (.iconst 1, 1) := by decide +kernel
theorem dL_law_296 : decode cL_law 296 = .ok (.iadd, 1) := by decide +kernel
theorem dL_law_297 : decode cL_law 297 = .ok (.iaload, 1) := by decide +kernel
theorem dL_law_298 : decode cL_law 298 = .ok (.aload_n 0, 1) := by decide +kernel
theorem dL_law_299 : decode cL_law 299 = .ok (.iload_n 3, 1) := by decide +kernel
theorem dL_law_300 : decode cL_law 300 = .ok (.iconst 2, 1) := by decide +kernel
theorem dL_law_301 : decode cL_law 301 = .ok (.iadd, 1) := by decide +kernel
theorem dL_law_302 : decode cL_law 302 = .ok (.iaload, 1) := by decide +kernel
theorem dL_law_303 : decode cL_law 303 = .ok (.invokevirtual 41, 3) := by decide +kernel
theorem dL_law_306 : decode cL_law 306 = .ok (.aload_n 2, 1) := by decide +kernel
theorem dL_law_307 : decode cL_law 307 = .ok (.aload_n 0, 1) := by decide +kernel
theorem dL_law_308 : decode cL_law 308 = .ok (.iload_n 3, 1) := by decide +kernel
theorem dL_law_309 : decode cL_law 309 = .ok (.iconst 1, 1) := by decide +kernel
theorem dL_law_310 : decode cL_law 310 = .ok (.iadd, 1) := by decide +kernel
theorem dL_law_311 : decode cL_law 311 = .ok (.iaload, 1) := by decide +kernel
theorem dL_law_312 : decode cL_law 312 = .ok (.aload_n 0, 1) := by decide +kernel
theorem dL_law_313 : decode cL_law 313 = .ok (.iload_n 3, 1) := by decide +kernel
theorem dL_law_314 : decode cL_law 314 = .ok (.iconst 2, 1) := by decide +kernel
theorem dL_law_315 : decode cL_law 315 = .ok (.iadd, 1) := by decide +kernel
theorem dL_law_316 : decode cL_law 316 = .ok (.iaload, 1) := by decide +kernel
theorem dL_law_317 : decode cL_law 317 = .ok (.invokevirtual 44, 3) := by decide +kernel
theorem dL_law_320 : decode cL_law 320 = .ok (.if_icmp .eq 362, 3) := by decide +kernel
theorem dL_law_323 : decode cL_law 323 = .ok (.iconst 0, 1) := by decide +kernel
theorem dL_law_324 : decode cL_law 324 = .ok (.ireturn, 1) := by decide +kernel
theorem dL_law_325 : decode cL_law 325 = .ok (.aload_n 1, 1) := by decide +kernel
theorem dL_law_326 : decode cL_law 326 = .ok (.aload_n 0, 1) := by decide +kernel
theorem dL_law_327 : decode cL_law 327 = .ok (.iload_n 3, 1) := by decide +kernel
theorem dL_law_328 : decode cL_law 328 = .ok (.iconst 1, 1) := by decide +kernel
theorem dL_law_329 : decode cL_law 329 = .ok (.iadd, 1) := by decide +kernel
theorem dL_law_330 : decode cL_law 330 = .ok (.iaload, 1) := by decide +kernel
theorem dL_law_331 : decode cL_law 331 = .ok (.aload_n 0, 1) := by decide +kernel
theorem dL_law_332 : decode cL_law 332 = .ok (.iload_n 3, 1) := by decide +kernel
theorem dL_law_333 : decode cL_law 333 = .ok (.iconst 2, 1) := by decide +kernel
theorem dL_law_334 : decode cL_law 334 = .ok (.iadd, 1) := by decide +kernel
theorem dL_law_335 : decode cL_law 335 = .ok (.iaload, 1) := by decide +kernel
theorem dL_law_336 : decode cL_law 336 = .ok (.aload_n 0, 1) := by decide +kernel
theorem dL_law_337 : decode cL_law 337 = .ok (.iload_n 3, 1) := by decide +kernel
theorem dL_law_338 : decode cL_law 338 = .ok (.iconst 3, 1) := by decide +kernel
theorem dL_law_339 : decode cL_law 339 = .ok (.iadd, 1) := by decide +kernel
theorem dL_law_340 : decode cL_law 340 = .ok (.iaload, 1) := by decide +kernel
theorem dL_law_341 : decode cL_law 341 = .ok (.invokevirtual 45, 3) := by decide +kernel
theorem dL_law_344 : decode cL_law 344 = .ok (.aload_n 2, 1) := by decide +kernel
theorem dL_law_345 : decode cL_law 345 = .ok (.aload_n 0, 1) := by decide +kernel
theorem dL_law_346 : decode cL_law 346 = .ok (.iload_n 3, 1) := by decide +kernel
theorem dL_law_347 : decode cL_law 347 = .ok (.iconst 1, 1) := by decide +kernel
theorem dL_law_348 : decode cL_law 348 = .ok (.iadd, 1) := by decide +kernel
theorem dL_law_349 : decode cL_law 349 = .ok (.iaload, 1) := by decide +kernel
theorem dL_law_350 : decode cL_law 350 = .ok (.aload_n 0, 1) := by decide +kernel
theorem dL_law_351 : decode cL_law 351 = .ok (.iload_n 3, 1) := by decide +kernel
theorem dL_law_352 : decode cL_law 352 = .ok (.iconst 2, 1) := by decide +kernel
theorem dL_law_353 : decode cL_law 353 = .ok (.iadd, 1) := by decide +kernel
theorem dL_law_354 : decode cL_law 354 = .ok (.iaload, 1) := by decide +kernel
theorem dL_law_355 : decode cL_law 355 = .ok (.aload_n 0, 1) := by decide +kernel
theorem dL_law_356 : decode cL_law 356 = .ok (.iload_n 3, 1) := by decide +kernel
theorem dL_law_357 : decode cL_law 357 = .ok (.iconst 3, 1) := by decide +kernel
theorem dL_law_358 : decode cL_law 358 = .ok (.iadd, 1) := by decide +kernel
theorem dL_law_359 : decode cL_law 359 = .ok (.iaload, 1) := by decide +kernel
theorem dL_law_360 : decode cL_law 360 = .ok (.invokevirtual 48, 3) := by decide +kernel
theorem dL_law_363 : decode cL_law 363 = .ok (.if_icmp .eq 319, 3) := by decide +kernel
theorem dL_law_366 : decode cL_law 366 = .ok (.iconst 0, 1) := by decide +kernel
theorem dL_law_367 : decode cL_law 367 = .ok (.ireturn, 1) := by decide +kernel
theorem dL_law_368 : decode cL_law 368 = .ok (.aload_n 1, 1) := by decide +kernel
theorem dL_law_369 : decode cL_law 369 = .ok (.aload_n 0, 1) := by decide +kernel
theorem dL_law_370 : decode cL_law 370 = .ok (.iload_n 3, 1) := by decide +kernel
theorem dL_law_371 : decode cL_law 371 = .ok (.iconst 1, 1) := by decide +kernel
theorem dL_law_372 : decode cL_law 372 = .ok (.iadd, 1) := by decide +kernel
theorem dL_law_373 : decode cL_law 373 = .ok (.iaload, 1) := by decide +kernel
theorem dL_law_374 : decode cL_law 374 = .ok (.aload_n 0, 1) := by decide +kernel
theorem dL_law_375 : decode cL_law 375 = .ok (.iload_n 3, 1) := by decide +kernel
theorem dL_law_376 : decode cL_law 376 = .ok (.iconst 2, 1) := by decide +kernel
theorem dL_law_377 : decode cL_law 377 = .ok (.iadd, 1) := by decide +kernel
theorem dL_law_378 : decode cL_law 378 = .ok (.iaload, 1) := by decide +kernel
theorem dL_law_379 : decode cL_law 379 = .ok (.aload_n 0, 1) := by decide +kernel
theorem dL_law_380 : decode cL_law 380 = .ok (.iload_n 3, 1) := by decide +kernel
theorem dL_law_381 : decode cL_law 381 = .ok (.iconst 3, 1) := by decide +kernel
theorem dL_law_382 : decode cL_law 382 = .ok (.iadd, 1) := by decide +kernel
theorem dL_law_383 : decode cL_law 383 = .ok (.iaload, 1) := by decide +kernel
theorem dL_law_384 : decode cL_law 384 = .ok (.invokevirtual 49, 3) := by decide +kernel
theorem dL_law_387 : decode cL_law 387 = .ok (.aload_n 2, 1) := by decide +kernel
theorem dL_law_388 : decode cL_law 388 = .ok (.aload_n 0, 1) := by decide +kernel
theorem dL_law_389 : decode cL_law 389 = .ok (.iload_n 3, 1) := by decide +kernel
theorem dL_law_390 : decode cL_law 390 = .ok (.iconst 1, 1) := by decide +kernel
theorem dL_law_391 : decode cL_law 391 = .ok (.iadd, 1) := by decide +kernel
theorem dL_law_392 : decode cL_law 392 = .ok (.iaload, 1) := by decide +kernel
theorem dL_law_393 : decode cL_law 393 = .ok (.aload_n 0, 1) := by decide +kernel
theorem dL_law_394 : decode cL_law 394 = .ok (.iload_n 3, 1) := by decide +kernel
theorem dL_law_395 : decode cL_law 395 = .ok (.iconst 2, 1) := by decide +kernel
theorem dL_law_396 : decode cL_law 396 = .ok (.iadd, 1) := by decide +kernel
theorem dL_law_397 : decode cL_law 397 = .ok (.iaload, 1) := by decide +kernel
theorem dL_law_398 : decode cL_law 398 = .ok (.aload_n 0, 1) := by decide +kernel
theorem dL_law_399 : decode cL_law 399 = .ok (.iload_n 3, 1) := by decide +kernel
theorem dL_law_400 : decode cL_law 400 = .ok (.iconst 3, 1) := by decide +kernel
theorem dL_law_401 : decode cL_law 401 = .ok (.iadd, 1) := by decide +kernel
theorem dL_law_402 : decode cL_law 402 = .ok (.iaload, 1) := by decide +kernel
theorem dL_law_403 : decode cL_law 403 = .ok (.invokevirtual 52, 3) := by decide +kernel
theorem dL_law_406 : decode cL_law 406 = .ok (.if_icmp .eq 276, 3) := by decide +kernel
theorem dL_law_409 : decode cL_law 409 = .ok (.iconst 0, 1) := by decide +kernel
theorem dL_law_410 : decode cL_law 410 = .ok (.ireturn, 1) := by decide +kernel
theorem dL_law_411 : decode cL_law 411 = .ok (.aload_n 1, 1) := by decide +kernel
theorem dL_law_412 : decode cL_law 412 = .ok (.aload_n 0, 1) := by decide +kernel
theorem dL_law_413 : decode cL_law 413 = .ok (.iload_n 3, 1) := by decide +kernel
theorem dL_law_414 : decode cL_law 414 = .ok (.iconst 1, 1) := by decide +kernel
theorem dL_law_415 : decode cL_law 415 = .ok (.iadd, 1) := by decide +kernel
theorem dL_law_416 : decode cL_law 416 = .ok (.iaload, 1) := by decide +kernel
theorem dL_law_417 : decode cL_law 417 = .ok (.aload_n 0, 1) := by decide +kernel
theorem dL_law_418 : decode cL_law 418 = .ok (.iload_n 3, 1) := by decide +kernel
theorem dL_law_419 : decode cL_law 419 = .ok (.iconst 2, 1) := by decide +kernel
theorem dL_law_420 : decode cL_law 420 = .ok (.iadd, 1) := by decide +kernel
theorem dL_law_421 : decode cL_law 421 = .ok (.iaload, 1) := by decide +kernel
theorem dL_law_422 : decode cL_law 422 = .ok (.invokevirtual 53, 3) := by decide +kernel
theorem dL_law_425 : decode cL_law 425 = .ok (.aload_n 2, 1) := by decide +kernel
theorem dL_law_426 : decode cL_law 426 = .ok (.aload_n 0, 1) := by decide +kernel
theorem dL_law_427 : decode cL_law 427 = .ok (.iload_n 3, 1) := by decide +kernel
theorem dL_law_428 : decode cL_law 428 = .ok (.iconst 1, 1) := by decide +kernel
theorem dL_law_429 : decode cL_law 429 = .ok (.iadd, 1) := by decide +kernel
theorem dL_law_430 : decode cL_law 430 = .ok (.iaload, 1) := by decide +kernel
theorem dL_law_431 : decode cL_law 431 = .ok (.aload_n 0, 1) := by decide +kernel
theorem dL_law_432 : decode cL_law 432 = .ok (.iload_n 3, 1) := by decide +kernel
theorem dL_law_433 : decode cL_law 433 = .ok (.iconst 2, 1) := by decide +kernel
theorem dL_law_434 : decode cL_law 434 = .ok (.iadd, 1) := by decide +kernel
theorem dL_law_435 : decode cL_law 435 = .ok (.iaload, 1) := by decide +kernel
theorem dL_law_436 : decode cL_law 436 = .ok (.invokevirtual 56, 3) := by decide +kernel
theorem dL_law_439 : decode cL_law 439 = .ok (.if_icmp .eq 243, 3) := by decide +kernel
theorem dL_law_442 : decode cL_law 442 = .ok (.iconst 0, 1) := by decide +kernel
theorem dL_law_443 : decode cL_law 443 = .ok (.ireturn, 1) := by decide +kernel
theorem dL_law_444 : decode cL_law 444 = .ok (.aload_n 1, 1) := by decide +kernel
theorem dL_law_445 : decode cL_law 445 = .ok (.aload_n 0, 1) := by decide +kernel
theorem dL_law_446 : decode cL_law 446 = .ok (.iload_n 3, 1) := by decide +kernel
theorem dL_law_447 : decode cL_law 447 = .ok (.iconst 1, 1) := by decide +kernel
theorem dL_law_448 : decode cL_law 448 = .ok (.iadd, 1) := by decide +kernel
theorem dL_law_449 : decode cL_law 449 = .ok (.iaload, 1) := by decide +kernel
theorem dL_law_450 : decode cL_law 450 = .ok (.invokevirtual 57, 3) := by decide +kernel
theorem dL_law_453 : decode cL_law 453 = .ok (.aload_n 2, 1) := by decide +kernel
theorem dL_law_454 : decode cL_law 454 = .ok (.aload_n 0, 1) := by decide +kernel
theorem dL_law_455 : decode cL_law 455 = .ok (.iload_n 3, 1) := by decide +kernel
theorem dL_law_456 : decode cL_law 456 = .ok (.iconst 1, 1) := by decide +kernel
theorem dL_law_457 : decode cL_law 457 = .ok (.iadd, 1) := by decide +kernel
theorem dL_law_458 : decode cL_law 458 = .ok (.iaload, 1) := by decide +kernel
theorem dL_law_459 : decode cL_law 459 = .ok (.invokevirtual 60, 3) := by decide +kernel
theorem dL_law_462 : decode cL_law 462 = .ok (.if_icmp .eq 220, 3) := by decide +kernel
theorem dL_law_465 : decode cL_law 465 = .ok (.iconst 0, 1) := by decide +kernel
theorem dL_law_466 : decode cL_law 466 = .ok (.ireturn, 1) := by decide +kernel
theorem dL_law_467 : decode cL_law 467 = .ok (.aload_n 1, 1) := by decide +kernel
theorem dL_law_468 : decode cL_law 468 = .ok (.aload_n 0, 1) := by decide +kernel
theorem dL_law_469 : decode cL_law 469 = .ok (.iload_n 3, 1) := by decide +kernel
theorem dL_law_470 : decode cL_law 470 = .ok (.iconst 1, 1) := by decide +kernel
theorem dL_law_471 : decode cL_law 471 = .ok (.iadd, 1) := by decide +kernel
theorem dL_law_472 : decode cL_law 472 = .ok (.iaload, 1) := by decide +kernel
theorem dL_law_473 : decode cL_law 473 = .ok (.aload_n 0, 1) := by decide +kernel
theorem dL_law_474 : decode cL_law 474 = .ok (.iload_n 3, 1) := by decide +kernel
theorem dL_law_475 : decode cL_law 475 = .ok (.iconst 2, 1) := by decide +kernel
theorem dL_law_476 : decode cL_law 476 = .ok (.iadd, 1) := by decide +kernel
theorem dL_law_477 : decode cL_law 477 = .ok (.iaload, 1) := by decide +kernel
theorem dL_law_478 : decode cL_law 478 = .ok (.invokevirtual 61, 3) := by decide +kernel
theorem dL_law_481 : decode cL_law 481 = .ok (.aload_n 2, 1) := by decide +kernel
theorem dL_law_482 : decode cL_law 482 = .ok (.aload_n 0, 1) := by decide +kernel
theorem dL_law_483 : decode cL_law 483 = .ok (.iload_n 3, 1) := by decide +kernel
theorem dL_law_484 : decode cL_law 484 = .ok (.iconst 1, 1) := by decide +kernel
theorem dL_law_485 : decode cL_law 485 = .ok (.iadd, 1) := by decide +kernel
theorem dL_law_486 : decode cL_law 486 = .ok (.iaload, 1) := by decide +kernel
theorem dL_law_487 : decode cL_law 487 = .ok (.aload_n 0, 1) := by decide +kernel
theorem dL_law_488 : decode cL_law 488 = .ok (.iload_n 3, 1) := by decide +kernel
theorem dL_law_489 : decode cL_law 489 = .ok (.iconst 2, 1) := by decide +kernel
theorem dL_law_490 : decode cL_law 490 = .ok (.iadd, 1) := by decide +kernel
theorem dL_law_491 : decode cL_law 491 = .ok (.iaload, 1) := by decide +kernel
theorem dL_law_492 : decode cL_law 492 = .ok (.invokevirtual 64, 3) := by decide +kernel
theorem dL_law_495 : decode cL_law 495 = .ok (.if_icmp .eq 187, 3) := by decide +kernel
theorem dL_law_498 : decode cL_law 498 = .ok (.iconst 0, 1) := by decide +kernel
theorem dL_law_499 : decode cL_law 499 = .ok (.ireturn, 1) := by decide +kernel
theorem dL_law_500 : decode cL_law 500 = .ok (.aload_n 1, 1) := by decide +kernel
theorem dL_law_501 : decode cL_law 501 = .ok (.aload_n 0, 1) := by decide +kernel
theorem dL_law_502 : decode cL_law 502 = .ok (.iload_n 3, 1) := by decide +kernel
theorem dL_law_503 : decode cL_law 503 = .ok (.iconst 1, 1) := by decide +kernel
theorem dL_law_504 : decode cL_law 504 = .ok (.iadd, 1) := by decide +kernel
theorem dL_law_505 : decode cL_law 505 = .ok (.iaload, 1) := by decide +kernel
theorem dL_law_506 : decode cL_law 506 = .ok (.aload_n 0, 1) := by decide +kernel
theorem dL_law_507 : decode cL_law 507 = .ok (.iload_n 3, 1) := by decide +kernel
theorem dL_law_508 : decode cL_law 508 = .ok (.iconst 2, 1) := by decide +kernel
theorem dL_law_509 : decode cL_law 509 = .ok (.iadd, 1) := by decide +kernel
theorem dL_law_510 : decode cL_law 510 = .ok (.iaload, 1) := by decide +kernel
theorem dL_law_511 : decode cL_law 511 = .ok (.invokevirtual 65, 3) := by decide +kernel
theorem dL_law_514 : decode cL_law 514 = .ok (.aload_n 2, 1) := by decide +kernel
theorem dL_law_515 : decode cL_law 515 = .ok (.aload_n 0, 1) := by decide +kernel
theorem dL_law_516 : decode cL_law 516 = .ok (.iload_n 3, 1) := by decide +kernel
theorem dL_law_517 : decode cL_law 517 = .ok (.iconst 1, 1) := by decide +kernel
theorem dL_law_518 : decode cL_law 518 = .ok (.iadd, 1) := by decide +kernel
theorem dL_law_519 : decode cL_law 519 = .ok (.iaload, 1) := by decide +kernel
theorem dL_law_520 : decode cL_law 520 = .ok (.aload_n 0, 1) := by decide +kernel
theorem dL_law_521 : decode cL_law 521 = .ok (.iload_n 3, 1) := by decide +kernel
theorem dL_law_522 : decode cL_law 522 = .ok (.iconst 2, 1) := by decide +kernel
theorem dL_law_523 : decode cL_law 523 = .ok (.iadd, 1) := by decide +kernel
theorem dL_law_524 : decode cL_law 524 = .ok (.iaload, 1) := by decide +kernel
theorem dL_law_525 : decode cL_law 525 = .ok (.invokevirtual 68, 3) := by decide +kernel
theorem dL_law_528 : decode cL_law 528 = .ok (.if_icmp .eq 154, 3) := by decide +kernel
theorem dL_law_531 : decode cL_law 531 = .ok (.iconst 0, 1) := by decide +kernel
theorem dL_law_532 : decode cL_law 532 = .ok (.ireturn, 1) := by decide +kernel
theorem dL_law_533 : decode cL_law 533 = .ok (.aload_n 1, 1) := by decide +kernel
theorem dL_law_534 : decode cL_law 534 = .ok (.aload_n 0, 1) := by decide +kernel
theorem dL_law_535 : decode cL_law 535 = .ok (.iload_n 3, 1) := by decide +kernel
theorem dL_law_536 : decode cL_law 536 = .ok (.iconst 1, 1) := by decide +kernel
theorem dL_law_537 : decode cL_law 537 = .ok (.iadd, 1) := by decide +kernel
theorem dL_law_538 : decode cL_law 538 = .ok (.iaload, 1) := by decide +kernel
theorem dL_law_539 : decode cL_law 539 = .ok (.aload_n 0, 1) := by decide +kernel
theorem dL_law_540 : decode cL_law 540 = .ok (.iload_n 3, 1) := by decide +kernel
theorem dL_law_541 : decode cL_law 541 = .ok (.iconst 2, 1) := by decide +kernel
theorem dL_law_542 : decode cL_law 542 = .ok (.iadd, 1) := by decide +kernel
theorem dL_law_543 : decode cL_law 543 = .ok (.iaload, 1) := by decide +kernel
theorem dL_law_544 : decode cL_law 544 = .ok (.aload_n 0, 1) := by decide +kernel
theorem dL_law_545 : decode cL_law 545 = .ok (.iload_n 3, 1) := by decide +kernel
theorem dL_law_546 : decode cL_law 546 = .ok (.iconst 3, 1) := by decide +kernel
theorem dL_law_547 : decode cL_law 547 = .ok (.iadd, 1) := by decide +kernel
theorem dL_law_548 : decode cL_law 548 = .ok (.iaload, 1) := by decide +kernel
theorem dL_law_549 : decode cL_law 549 = .ok (.invokevirtual 69, 3) := by decide +kernel
theorem dL_law_552 : decode cL_law 552 = .ok (.aload_n 2, 1) := by decide +kernel
theorem dL_law_553 : decode cL_law 553 = .ok (.aload_n 0, 1) := by decide +kernel
theorem dL_law_554 : decode cL_law 554 = .ok (.iload_n 3, 1) := by decide +kernel
theorem dL_law_555 : decode cL_law 555 = .ok (.iconst 1, 1) := by decide +kernel
theorem dL_law_556 : decode cL_law 556 = .ok (.iadd, 1) := by decide +kernel
theorem dL_law_557 : decode cL_law 557 = .ok (.iaload, 1) := by decide +kernel
theorem dL_law_558 : decode cL_law 558 = .ok (.aload_n 0, 1) := by decide +kernel
theorem dL_law_559 : decode cL_law 559 = .ok (.iload_n 3, 1) := by decide +kernel
theorem dL_law_560 : decode cL_law 560 = .ok (.iconst 2, 1) := by decide +kernel
theorem dL_law_561 : decode cL_law 561 = .ok (.iadd, 1) := by decide +kernel
theorem dL_law_562 : decode cL_law 562 = .ok (.iaload, 1) := by decide +kernel
theorem dL_law_563 : decode cL_law 563 = .ok (.aload_n 0, 1) := by decide +kernel
theorem dL_law_564 : decode cL_law 564 = .ok (.iload_n 3, 1) := by decide +kernel
theorem dL_law_565 : decode cL_law 565 = .ok (.iconst 3, 1) := by decide +kernel
theorem dL_law_566 : decode cL_law 566 = .ok (.iadd, 1) := by decide +kernel
theorem dL_law_567 : decode cL_law 567 = .ok (.iaload, 1) := by decide +kernel
theorem dL_law_568 : decode cL_law 568 = .ok (.invokevirtual 72, 3) := by decide +kernel
theorem dL_law_571 : decode cL_law 571 = .ok (.if_icmp .eq 111, 3) := by decide +kernel
theorem dL_law_574 : decode cL_law 574 = .ok (.iconst 0, 1) := by decide +kernel
theorem dL_law_575 : decode cL_law 575 = .ok (.ireturn, 1) := by decide +kernel
theorem dL_law_576 : decode cL_law 576 = .ok (.aload_n 1, 1) := by decide +kernel
theorem dL_law_577 : decode cL_law 577 = .ok (.aload_n 0, 1) := by decide +kernel
theorem dL_law_578 : decode cL_law 578 = .ok (.iload_n 3, 1) := by decide +kernel
theorem dL_law_579 : decode cL_law 579 = .ok (.iconst 1, 1) := by decide +kernel
theorem dL_law_580 : decode cL_law 580 = .ok (.iadd, 1) := by decide +kernel
theorem dL_law_581 : decode cL_law 581 = .ok (.iaload, 1) := by decide +kernel
theorem dL_law_582 : decode cL_law 582 = .ok (.invokevirtual 73, 3) := by decide +kernel
theorem dL_law_585 : decode cL_law 585 = .ok (.aload_n 2, 1) := by decide +kernel
theorem dL_law_586 : decode cL_law 586 = .ok (.aload_n 0, 1) := by decide +kernel
theorem dL_law_587 : decode cL_law 587 = .ok (.iload_n 3, 1) := by decide +kernel
theorem dL_law_588 : decode cL_law 588 = .ok (.iconst 1, 1) := by decide +kernel
theorem dL_law_589 : decode cL_law 589 = .ok (.iadd, 1) := by decide +kernel
theorem dL_law_590 : decode cL_law 590 = .ok (.iaload, 1) := by decide +kernel
theorem dL_law_591 : decode cL_law 591 = .ok (.invokevirtual 76, 3) := by decide +kernel
theorem dL_law_594 : decode cL_law 594 = .ok (.if_icmp .eq 88, 3) := by decide +kernel
theorem dL_law_597 : decode cL_law 597 = .ok (.iconst 0, 1) := by decide +kernel
theorem dL_law_598 : decode cL_law 598 = .ok (.ireturn, 1) := by decide +kernel
theorem dL_law_599 : decode cL_law 599 = .ok (.aload_n 1, 1) := by decide +kernel
theorem dL_law_600 : decode cL_law 600 = .ok (.invokevirtual 77, 3) := by decide +kernel
theorem dL_law_603 : decode cL_law 603 = .ok (.aload_n 2, 1) := by decide +kernel
theorem dL_law_604 : decode cL_law 604 = .ok (.invokevirtual 81, 3) := by decide +kernel
theorem dL_law_607 : decode cL_law 607 = .ok (.lcmp, 1) := by decide +kernel
theorem dL_law_608 : decode cL_law 608 = .ok (.ifCond .eq 74, 3) := by decide +kernel
theorem dL_law_611 : decode cL_law 611 = .ok (.iconst 0, 1) := by decide +kernel
theorem dL_law_612 : decode cL_law 612 = .ok (.ireturn, 1) := by decide +kernel
theorem dL_law_613 : decode cL_law 613 = .ok (.aload_n 1, 1) := by decide +kernel
theorem dL_law_614 : decode cL_law 614 = .ok (.aload_n 0, 1) := by decide +kernel
theorem dL_law_615 : decode cL_law 615 = .ok (.iload_n 3, 1) := by decide +kernel
theorem dL_law_616 : decode cL_law 616 = .ok (.iconst 1, 1) := by decide +kernel
theorem dL_law_617 : decode cL_law 617 = .ok (.iadd, 1) := by decide +kernel
theorem dL_law_618 : decode cL_law 618 = .ok (.iaload, 1) := by decide +kernel
theorem dL_law_619 : decode cL_law 619 = .ok (.invokevirtual 82, 3) := by decide +kernel
theorem dL_law_622 : decode cL_law 622 = .ok (.aload_n 2, 1) := by decide +kernel
theorem dL_law_623 : decode cL_law 623 = .ok (.aload_n 0, 1) := by decide +kernel
theorem dL_law_624 : decode cL_law 624 = .ok (.iload_n 3, 1) := by decide +kernel
theorem dL_law_625 : decode cL_law 625 = .ok (.iconst 1, 1) := by decide +kernel
theorem dL_law_626 : decode cL_law 626 = .ok (.iadd, 1) := by decide +kernel
theorem dL_law_627 : decode cL_law 627 = .ok (.iaload, 1) := by decide +kernel
theorem dL_law_628 : decode cL_law 628 = .ok (.invokevirtual 85, 3) := by decide +kernel
theorem dL_law_631 : decode cL_law 631 = .ok (.if_icmp .eq 51, 3) := by decide +kernel
theorem dL_law_634 : decode cL_law 634 = .ok (.iconst 0, 1) := by decide +kernel
theorem dL_law_635 : decode cL_law 635 = .ok (.ireturn, 1) := by decide +kernel
theorem dL_law_636 : decode cL_law 636 = .ok (.aload_n 1, 1) := by decide +kernel
theorem dL_law_637 : decode cL_law 637 = .ok (.aload_n 0, 1) := by decide +kernel
theorem dL_law_638 : decode cL_law 638 = .ok (.iload_n 3, 1) := by decide +kernel
theorem dL_law_639 : decode cL_law 639 = .ok (.iconst 1, 1) := by decide +kernel
theorem dL_law_640 : decode cL_law 640 = .ok (.iadd, 1) := by decide +kernel
theorem dL_law_641 : decode cL_law 641 = .ok (.iaload, 1) := by decide +kernel
theorem dL_law_642 : decode cL_law 642 = .ok (.invokevirtual 86, 3) := by decide +kernel
theorem dL_law_645 : decode cL_law 645 = .ok (.aload_n 2, 1) := by decide +kernel
theorem dL_law_646 : decode cL_law 646 = .ok (.aload_n 0, 1) := by decide +kernel
theorem dL_law_647 : decode cL_law 647 = .ok (.iload_n 3, 1) := by decide +kernel
theorem dL_law_648 : decode cL_law 648 = .ok (.iconst 1, 1) := by decide +kernel
theorem dL_law_649 : decode cL_law 649 = .ok (.iadd, 1) := by decide +kernel
theorem dL_law_650 : decode cL_law 650 = .ok (.iaload, 1) := by decide +kernel
theorem dL_law_651 : decode cL_law 651 = .ok (.invokevirtual 89, 3) := by decide +kernel
theorem dL_law_654 : decode cL_law 654 = .ok (.if_icmp .eq 28, 3) := by decide +kernel
theorem dL_law_657 : decode cL_law 657 = .ok (.iconst 0, 1) := by decide +kernel
theorem dL_law_658 : decode cL_law 658 = .ok (.ireturn, 1) := by decide +kernel
theorem dL_law_659 : decode cL_law 659 = .ok (.aload_n 1, 1) := by decide +kernel
theorem dL_law_660 : decode cL_law 660 = .ok (.aload_n 0, 1) := by decide +kernel
theorem dL_law_661 : decode cL_law 661 = .ok (.iload_n 3, 1) := by decide +kernel
theorem dL_law_662 : decode cL_law 662 = .ok (.iconst 1, 1) := by decide +kernel
theorem dL_law_663 : decode cL_law 663 = .ok (.iadd, 1) := by decide +kernel
theorem dL_law_664 : decode cL_law 664 = .ok (.iaload, 1) := by decide +kernel
theorem dL_law_665 : decode cL_law 665 = .ok (.invokevirtual 90, 3) := by decide +kernel
theorem dL_law_668 : decode cL_law 668 = .ok (.aload_n 2, 1) := by decide +kernel
theorem dL_law_669 : decode cL_law 669 = .ok (.aload_n 0, 1) := by decide +kernel
theorem dL_law_670 : decode cL_law 670 = .ok (.iload_n 3, 1) := by decide +kernel
theorem dL_law_671 : decode cL_law 671 = .ok (.iconst 1, 1) := by decide +kernel
theorem dL_law_672 : decode cL_law 672 = .ok (.iadd, 1) := by decide +kernel
theorem dL_law_673 : decode cL_law 673 = .ok (.iaload, 1) := by decide +kernel
theorem dL_law_674 : decode cL_law 674 = .ok (.invokevirtual 93, 3) := by decide +kernel
theorem dL_law_677 : decode cL_law 677 = .ok (.if_icmp .eq 5, 3) := by decide +kernel
theorem dL_law_680 : decode cL_law 680 = .ok (.iconst 0, 1) := by decide +kernel
theorem dL_law_681 : decode cL_law 681 = .ok (.ireturn, 1) := by decide +kernel
theorem dL_law_682 : decode cL_law 682 = .ok (.iinc 3 4, 3) := by decide +kernel
theorem dL_law_685 : decode cL_law 685 = .ok (.goto (-667), 3) := by decide +kernel
theorem dL_law_688 : decode cL_law 688 = .ok (.iconst 1, 1) := by decide +kernel
theorem dL_law_689 : decode cL_law 689 = .ok (.ireturn, 1) := by decide +kernel
end
