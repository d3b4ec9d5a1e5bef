-- ===== PART A: goes FIRST, ahead of the names: the tables' words, and 'selects' of the private methods out of them =====
/-- a private method of a class that the tables say can be made, by its rows of tables_1 -/
def lw_okq (q : MethodName × Nat) : Prop := (q.1.cls ≠ "java/lang/invoke/MethodHandle" ∧ q.1.cls ≠ "java/lang/invoke/VarHandle") ∧ Cond.instantiable q.1.cls q.2 ∈ tables_1 ∧ Cond.privateMethod q.1 ∈ tables_1 ∧ Cond.instanceMethod q.1 ∈ tables_1
theorem lw_p0 : lw_okq (⟨"MarkScripts", "found", "(I)I"⟩, 11) := ⟨⟨by decide +kernel, by decide +kernel⟩, List.mem_of_getElem? (i := 14) (by decide +kernel), List.mem_of_getElem? (i := 276) (by decide +kernel), List.mem_of_getElem? (i := 277) (by decide +kernel)⟩
theorem lw_p1 : lw_okq (⟨"MarkScripts", "tell", "(I)I"⟩, 11) := ⟨⟨by decide +kernel, by decide +kernel⟩, List.mem_of_getElem? (i := 14) (by decide +kernel), List.mem_of_getElem? (i := 288) (by decide +kernel), List.mem_of_getElem? (i := 289) (by decide +kernel)⟩
theorem lw_p2 : lw_okq (⟨"MarkScripts$Reader", "accepts", "(I)Z"⟩, 6) := ⟨⟨by decide +kernel, by decide +kernel⟩, List.mem_of_getElem? (i := 174) (by decide +kernel), List.mem_of_getElem? (i := 342) (by decide +kernel), List.mem_of_getElem? (i := 343) (by decide +kernel)⟩
theorem lw_p3 : lw_okq (⟨"MarkScripts$Reader", "opens", "()Z"⟩, 6) := ⟨⟨by decide +kernel, by decide +kernel⟩, List.mem_of_getElem? (i := 174) (by decide +kernel), List.mem_of_getElem? (i := 346) (by decide +kernel), List.mem_of_getElem? (i := 347) (by decide +kernel)⟩
theorem lw_p4 : lw_okq (⟨"MarkScripts$Reader", "closes", "()Z"⟩, 6) := ⟨⟨by decide +kernel, by decide +kernel⟩, List.mem_of_getElem? (i := 174) (by decide +kernel), List.mem_of_getElem? (i := 350) (by decide +kernel), List.mem_of_getElem? (i := 351) (by decide +kernel)⟩
theorem lw_p5 : lw_okq (⟨"MarkScripts$Reader", "begins", "(I)Z"⟩, 6) := ⟨⟨by decide +kernel, by decide +kernel⟩, List.mem_of_getElem? (i := 174) (by decide +kernel), List.mem_of_getElem? (i := 361) (by decide +kernel), List.mem_of_getElem? (i := 362) (by decide +kernel)⟩
theorem lw_p6 : lw_okq (⟨"MarkScripts$Text", "append", "(I)V"⟩, 2) := ⟨⟨by decide +kernel, by decide +kernel⟩, List.mem_of_getElem? (i := 217) (by decide +kernel), List.mem_of_getElem? (i := 389) (by decide +kernel), List.mem_of_getElem? (i := 390) (by decide +kernel)⟩
theorem lw_p7 : lw_okq (⟨"MarkScripts$Text", "printDownTo", "(ILMarkScripts$Tree;)V"⟩, 2) := ⟨⟨by decide +kernel, by decide +kernel⟩, List.mem_of_getElem? (i := 217) (by decide +kernel), List.mem_of_getElem? (i := 393) (by decide +kernel), List.mem_of_getElem? (i := 394) (by decide +kernel)⟩
theorem lw_p8 : lw_okq (⟨"MarkScripts", "noNode", "(II)Z"⟩, 11) := ⟨⟨by decide +kernel, by decide +kernel⟩, List.mem_of_getElem? (i := 14) (by decide +kernel), List.mem_of_getElem? (i := 405) (by decide +kernel), List.mem_of_getElem? (i := 406) (by decide +kernel)⟩
theorem lw_p9 : lw_okq (⟨"MarkScripts", "property", "(LMarkScripts$Tree;II)I"⟩, 11) := ⟨⟨by decide +kernel, by decide +kernel⟩, List.mem_of_getElem? (i := 14) (by decide +kernel), List.mem_of_getElem? (i := 413) (by decide +kernel), List.mem_of_getElem? (i := 414) (by decide +kernel)⟩
theorem lw_p10 : lw_okq (⟨"MarkScripts$Ways", "setPrices", "()V"⟩, 14) := ⟨⟨by decide +kernel, by decide +kernel⟩, List.mem_of_getElem? (i := 26) (by decide +kernel), List.mem_of_getElem? (i := 482) (by decide +kernel), List.mem_of_getElem? (i := 483) (by decide +kernel)⟩
theorem lw_p11 : lw_okq (⟨"MarkScripts$Ways", "fill", "(IIII)V"⟩, 14) := ⟨⟨by decide +kernel, by decide +kernel⟩, List.mem_of_getElem? (i := 26) (by decide +kernel), List.mem_of_getElem? (i := 501) (by decide +kernel), List.mem_of_getElem? (i := 502) (by decide +kernel)⟩
theorem lw_p12 : lw_okq (⟨"MarkScripts$Ways", "pairUp", "()V"⟩, 14) := ⟨⟨by decide +kernel, by decide +kernel⟩, List.mem_of_getElem? (i := 26) (by decide +kernel), List.mem_of_getElem? (i := 506) (by decide +kernel), List.mem_of_getElem? (i := 507) (by decide +kernel)⟩
theorem lw_p13 : lw_okq (⟨"MarkScripts$Ways", "pairForests", "(IIII)V"⟩, 14) := ⟨⟨by decide +kernel, by decide +kernel⟩, List.mem_of_getElem? (i := 26) (by decide +kernel), List.mem_of_getElem? (i := 510) (by decide +kernel), List.mem_of_getElem? (i := 511) (by decide +kernel)⟩
theorem lw_p14 : lw_okq (⟨"MarkScripts$Ways", "greatestPartner", "(III)I"⟩, 14) := ⟨⟨by decide +kernel, by decide +kernel⟩, List.mem_of_getElem? (i := 26) (by decide +kernel), List.mem_of_getElem? (i := 514) (by decide +kernel), List.mem_of_getElem? (i := 515) (by decide +kernel)⟩
theorem lw_p15 : lw_okq (⟨"MarkScripts$Ways", "listSteps", "()V"⟩, 14) := ⟨⟨by decide +kernel, by decide +kernel⟩, List.mem_of_getElem? (i := 26) (by decide +kernel), List.mem_of_getElem? (i := 518) (by decide +kernel), List.mem_of_getElem? (i := 519) (by decide +kernel)⟩
def lw_privs_1 : List (MethodName × Nat) := [(⟨"MarkScripts", "found", "(I)I"⟩, 11), (⟨"MarkScripts", "tell", "(I)I"⟩, 11), (⟨"MarkScripts$Reader", "accepts", "(I)Z"⟩, 6), (⟨"MarkScripts$Reader", "opens", "()Z"⟩, 6), (⟨"MarkScripts$Reader", "closes", "()Z"⟩, 6), (⟨"MarkScripts$Reader", "begins", "(I)Z"⟩, 6), (⟨"MarkScripts$Text", "append", "(I)V"⟩, 2), (⟨"MarkScripts$Text", "printDownTo", "(ILMarkScripts$Tree;)V"⟩, 2), (⟨"MarkScripts", "noNode", "(II)Z"⟩, 11), (⟨"MarkScripts", "property", "(LMarkScripts$Tree;II)I"⟩, 11), (⟨"MarkScripts$Ways", "setPrices", "()V"⟩, 14), (⟨"MarkScripts$Ways", "fill", "(IIII)V"⟩, 14), (⟨"MarkScripts$Ways", "pairUp", "()V"⟩, 14), (⟨"MarkScripts$Ways", "pairForests", "(IIII)V"⟩, 14), (⟨"MarkScripts$Ways", "greatestPartner", "(III)I"⟩, 14), (⟨"MarkScripts$Ways", "listSteps", "()V"⟩, 14)]
theorem lw_r1 : ∀ q ∈ lw_privs_1, lw_okq q := List.forall_mem_cons.mpr ⟨lw_p0, List.forall_mem_cons.mpr ⟨lw_p1, List.forall_mem_cons.mpr ⟨lw_p2, List.forall_mem_cons.mpr ⟨lw_p3, List.forall_mem_cons.mpr ⟨lw_p4, List.forall_mem_cons.mpr ⟨lw_p5, List.forall_mem_cons.mpr ⟨lw_p6, List.forall_mem_cons.mpr ⟨lw_p7, List.forall_mem_cons.mpr ⟨lw_p8, List.forall_mem_cons.mpr ⟨lw_p9, List.forall_mem_cons.mpr ⟨lw_p10, List.forall_mem_cons.mpr ⟨lw_p11, List.forall_mem_cons.mpr ⟨lw_p12, List.forall_mem_cons.mpr ⟨lw_p13, List.forall_mem_cons.mpr ⟨lw_p14, List.forall_mem_cons.mpr ⟨lw_p15, fun _ h => absurd h List.not_mem_nil⟩⟩⟩⟩⟩⟩⟩⟩⟩⟩⟩⟩⟩⟩⟩⟩
theorem lw_p16 : lw_okq (⟨"MarkScripts$Ways", "relabelUpTo", "(ILMarkScripts$Tree;)V"⟩, 14) := ⟨⟨by decide +kernel, by decide +kernel⟩, List.mem_of_getElem? (i := 26) (by decide +kernel), List.mem_of_getElem? (i := 555) (by decide +kernel), List.mem_of_getElem? (i := 556) (by decide +kernel)⟩
theorem lw_p17 : lw_okq (⟨"MarkScripts$Ways", "removeStep", "(IILMarkScripts$Tree;)V"⟩, 14) := ⟨⟨by decide +kernel, by decide +kernel⟩, List.mem_of_getElem? (i := 26) (by decide +kernel), List.mem_of_getElem? (i := 559) (by decide +kernel), List.mem_of_getElem? (i := 560) (by decide +kernel)⟩
theorem lw_p18 : lw_okq (⟨"MarkScripts", "record", "()V"⟩, 11) := ⟨⟨by decide +kernel, by decide +kernel⟩, List.mem_of_getElem? (i := 14) (by decide +kernel), List.mem_of_getElem? (i := 598) (by decide +kernel), List.mem_of_getElem? (i := 599) (by decide +kernel)⟩
theorem lw_p19 : lw_okq (⟨"MarkScripts$Tree", "endOfChildren", "(II)I"⟩, 3) := ⟨⟨by decide +kernel, by decide +kernel⟩, List.mem_of_getElem? (i := 38) (by decide +kernel), List.mem_of_getElem? (i := 632) (by decide +kernel), List.mem_of_getElem? (i := 633) (by decide +kernel)⟩
theorem lw_p20 : lw_okq (⟨"MarkScripts", "exchange", "()V"⟩, 11) := ⟨⟨by decide +kernel, by decide +kernel⟩, List.mem_of_getElem? (i := 14) (by decide +kernel), List.mem_of_getElem? (i := 644) (by decide +kernel), List.mem_of_getElem? (i := 645) (by decide +kernel)⟩
theorem lw_p21 : lw_okq (⟨"MarkScripts", "restore", "()V"⟩, 11) := ⟨⟨by decide +kernel, by decide +kernel⟩, List.mem_of_getElem? (i := 14) (by decide +kernel), List.mem_of_getElem? (i := 652) (by decide +kernel), List.mem_of_getElem? (i := 653) (by decide +kernel)⟩
theorem lw_p22 : lw_okq (⟨"MarkScripts", "shake", "(I)V"⟩, 11) := ⟨⟨by decide +kernel, by decide +kernel⟩, List.mem_of_getElem? (i := 14) (by decide +kernel), List.mem_of_getElem? (i := 690) (by decide +kernel), List.mem_of_getElem? (i := 691) (by decide +kernel)⟩
theorem lw_p23 : lw_okq (⟨"MarkScripts", "number", "(I)I"⟩, 11) := ⟨⟨by decide +kernel, by decide +kernel⟩, List.mem_of_getElem? (i := 14) (by decide +kernel), List.mem_of_getElem? (i := 702) (by decide +kernel), List.mem_of_getElem? (i := 703) (by decide +kernel)⟩
theorem lw_p24 : lw_okq (⟨"MarkScripts", "rowsThere", "()I"⟩, 11) := ⟨⟨by decide +kernel, by decide +kernel⟩, List.mem_of_getElem? (i := 14) (by decide +kernel), List.mem_of_getElem? (i := 706) (by decide +kernel), List.mem_of_getElem? (i := 707) (by decide +kernel)⟩
theorem lw_p25 : lw_okq (⟨"MarkScripts", "textsThere", "()I"⟩, 11) := ⟨⟨by decide +kernel, by decide +kernel⟩, List.mem_of_getElem? (i := 14) (by decide +kernel), List.mem_of_getElem? (i := 710) (by decide +kernel), List.mem_of_getElem? (i := 711) (by decide +kernel)⟩
theorem lw_p26 : lw_okq (⟨"MarkScripts", "placesTaken", "()I"⟩, 11) := ⟨⟨by decide +kernel, by decide +kernel⟩, List.mem_of_getElem? (i := 14) (by decide +kernel), List.mem_of_getElem? (i := 714) (by decide +kernel), List.mem_of_getElem? (i := 715) (by decide +kernel)⟩
theorem lw_p27 : lw_okq (⟨"MarkScripts", "digestOfTree", "(JI)J"⟩, 11) := ⟨⟨by decide +kernel, by decide +kernel⟩, List.mem_of_getElem? (i := 14) (by decide +kernel), List.mem_of_getElem? (i := 732) (by decide +kernel), List.mem_of_getElem? (i := 733) (by decide +kernel)⟩
theorem lw_p28 : lw_okq (⟨"MarkScriptsModel", "found", "(I)I"⟩, 31) := ⟨⟨by decide +kernel, by decide +kernel⟩, List.mem_of_getElem? (i := 746) (by decide +kernel), List.mem_of_getElem? (i := 857) (by decide +kernel), List.mem_of_getElem? (i := 858) (by decide +kernel)⟩
theorem lw_p29 : lw_okq (⟨"MarkScriptsModel", "makesRow", "(II)V"⟩, 31) := ⟨⟨by decide +kernel, by decide +kernel⟩, List.mem_of_getElem? (i := 746) (by decide +kernel), List.mem_of_getElem? (i := 861) (by decide +kernel), List.mem_of_getElem? (i := 862) (by decide +kernel)⟩
theorem lw_p30 : lw_okq (⟨"MarkScriptsModel", "placeOf", "(II)I"⟩, 31) := ⟨⟨by decide +kernel, by decide +kernel⟩, List.mem_of_getElem? (i := 746) (by decide +kernel), List.mem_of_getElem? (i := 869) (by decide +kernel), List.mem_of_getElem? (i := 870) (by decide +kernel)⟩
theorem lw_p31 : lw_okq (⟨"MarkScriptsModel", "tells", "(II)I"⟩, 31) := ⟨⟨by decide +kernel, by decide +kernel⟩, List.mem_of_getElem? (i := 746) (by decide +kernel), List.mem_of_getElem? (i := 873) (by decide +kernel), List.mem_of_getElem? (i := 874) (by decide +kernel)⟩
def lw_privs_2 : List (MethodName × Nat) := [(⟨"MarkScripts$Ways", "relabelUpTo", "(ILMarkScripts$Tree;)V"⟩, 14), (⟨"MarkScripts$Ways", "removeStep", "(IILMarkScripts$Tree;)V"⟩, 14), (⟨"MarkScripts", "record", "()V"⟩, 11), (⟨"MarkScripts$Tree", "endOfChildren", "(II)I"⟩, 3), (⟨"MarkScripts", "exchange", "()V"⟩, 11), (⟨"MarkScripts", "restore", "()V"⟩, 11), (⟨"MarkScripts", "shake", "(I)V"⟩, 11), (⟨"MarkScripts", "number", "(I)I"⟩, 11), (⟨"MarkScripts", "rowsThere", "()I"⟩, 11), (⟨"MarkScripts", "textsThere", "()I"⟩, 11), (⟨"MarkScripts", "placesTaken", "()I"⟩, 11), (⟨"MarkScripts", "digestOfTree", "(JI)J"⟩, 11), (⟨"MarkScriptsModel", "found", "(I)I"⟩, 31), (⟨"MarkScriptsModel", "makesRow", "(II)V"⟩, 31), (⟨"MarkScriptsModel", "placeOf", "(II)I"⟩, 31), (⟨"MarkScriptsModel", "tells", "(II)I"⟩, 31)]
theorem lw_r2 : ∀ q ∈ lw_privs_2, lw_okq q := List.forall_mem_cons.mpr ⟨lw_p16, List.forall_mem_cons.mpr ⟨lw_p17, List.forall_mem_cons.mpr ⟨lw_p18, List.forall_mem_cons.mpr ⟨lw_p19, List.forall_mem_cons.mpr ⟨lw_p20, List.forall_mem_cons.mpr ⟨lw_p21, List.forall_mem_cons.mpr ⟨lw_p22, List.forall_mem_cons.mpr ⟨lw_p23, List.forall_mem_cons.mpr ⟨lw_p24, List.forall_mem_cons.mpr ⟨lw_p25, List.forall_mem_cons.mpr ⟨lw_p26, List.forall_mem_cons.mpr ⟨lw_p27, List.forall_mem_cons.mpr ⟨lw_p28, List.forall_mem_cons.mpr ⟨lw_p29, List.forall_mem_cons.mpr ⟨lw_p30, List.forall_mem_cons.mpr ⟨lw_p31, fun _ h => absurd h List.not_mem_nil⟩⟩⟩⟩⟩⟩⟩⟩⟩⟩⟩⟩⟩⟩⟩⟩
theorem lw_p32 : lw_okq (⟨"MarkScriptsModel", "reading", "(I)I"⟩, 31) := ⟨⟨by decide +kernel, by decide +kernel⟩, List.mem_of_getElem? (i := 746) (by decide +kernel), List.mem_of_getElem? (i := 908) (by decide +kernel), List.mem_of_getElem? (i := 909) (by decide +kernel)⟩
theorem lw_p33 : lw_okq (⟨"MarkScriptsModel", "here", "(I)I"⟩, 31) := ⟨⟨by decide +kernel, by decide +kernel⟩, List.mem_of_getElem? (i := 746) (by decide +kernel), List.mem_of_getElem? (i := 912) (by decide +kernel), List.mem_of_getElem? (i := 913) (by decide +kernel)⟩
theorem lw_p34 : lw_okq (⟨"MarkScriptsModel", "closes", "(II)V"⟩, 31) := ⟨⟨by decide +kernel, by decide +kernel⟩, List.mem_of_getElem? (i := 746) (by decide +kernel), List.mem_of_getElem? (i := 919) (by decide +kernel), List.mem_of_getElem? (i := 920) (by decide +kernel)⟩
theorem lw_p35 : lw_okq (⟨"MarkScriptsModel", "many", "(I)I"⟩, 31) := ⟨⟨by decide +kernel, by decide +kernel⟩, List.mem_of_getElem? (i := 746) (by decide +kernel), List.mem_of_getElem? (i := 937) (by decide +kernel), List.mem_of_getElem? (i := 938) (by decide +kernel)⟩
theorem lw_p36 : lw_okq (⟨"MarkScriptsModel", "codeOf", "(II)I"⟩, 31) := ⟨⟨by decide +kernel, by decide +kernel⟩, List.mem_of_getElem? (i := 746) (by decide +kernel), List.mem_of_getElem? (i := 941) (by decide +kernel), List.mem_of_getElem? (i := 942) (by decide +kernel)⟩
theorem lw_p37 : lw_okq (⟨"MarkScriptsModel", "writesAll", "(II)V"⟩, 31) := ⟨⟨by decide +kernel, by decide +kernel⟩, List.mem_of_getElem? (i := 746) (by decide +kernel), List.mem_of_getElem? (i := 945) (by decide +kernel), List.mem_of_getElem? (i := 946) (by decide +kernel)⟩
theorem lw_p38 : lw_okq (⟨"MarkScriptsModel", "firstFrom", "(IIII)I"⟩, 31) := ⟨⟨by decide +kernel, by decide +kernel⟩, List.mem_of_getElem? (i := 746) (by decide +kernel), List.mem_of_getElem? (i := 949) (by decide +kernel), List.mem_of_getElem? (i := 950) (by decide +kernel)⟩
theorem lw_p39 : lw_okq (⟨"MarkScriptsModel", "leftOf", "(II)I"⟩, 31) := ⟨⟨by decide +kernel, by decide +kernel⟩, List.mem_of_getElem? (i := 746) (by decide +kernel), List.mem_of_getElem? (i := 956) (by decide +kernel), List.mem_of_getElem? (i := 957) (by decide +kernel)⟩
theorem lw_p40 : lw_okq (⟨"MarkScriptsModel", "writes", "(I)V"⟩, 31) := ⟨⟨by decide +kernel, by decide +kernel⟩, List.mem_of_getElem? (i := 746) (by decide +kernel), List.mem_of_getElem? (i := 960) (by decide +kernel), List.mem_of_getElem? (i := 961) (by decide +kernel)⟩
theorem lw_p41 : lw_okq (⟨"MarkScriptsModel", "beneath", "(III)I"⟩, 31) := ⟨⟨by decide +kernel, by decide +kernel⟩, List.mem_of_getElem? (i := 746) (by decide +kernel), List.mem_of_getElem? (i := 964) (by decide +kernel), List.mem_of_getElem? (i := 965) (by decide +kernel)⟩
theorem lw_p42 : lw_okq (⟨"MarkScriptsModel", "toText", "(I)I"⟩, 31) := ⟨⟨by decide +kernel, by decide +kernel⟩, List.mem_of_getElem? (i := 746) (by decide +kernel), List.mem_of_getElem? (i := 968) (by decide +kernel), List.mem_of_getElem? (i := 969) (by decide +kernel)⟩
theorem lw_p43 : lw_okq (⟨"MarkScriptsModel", "isNode", "(II)Z"⟩, 31) := ⟨⟨by decide +kernel, by decide +kernel⟩, List.mem_of_getElem? (i := 746) (by decide +kernel), List.mem_of_getElem? (i := 976) (by decide +kernel), List.mem_of_getElem? (i := 977) (by decide +kernel)⟩
theorem lw_p44 : lw_okq (⟨"MarkScriptsModel", "rightBeneath", "(II)I"⟩, 31) := ⟨⟨by decide +kernel, by decide +kernel⟩, List.mem_of_getElem? (i := 746) (by decide +kernel), List.mem_of_getElem? (i := 983) (by decide +kernel), List.mem_of_getElem? (i := 984) (by decide +kernel)⟩
theorem lw_p45 : lw_okq (⟨"MarkScriptsModel", "above", "(II)I"⟩, 31) := ⟨⟨by decide +kernel, by decide +kernel⟩, List.mem_of_getElem? (i := 746) (by decide +kernel), List.mem_of_getElem? (i := 987) (by decide +kernel), List.mem_of_getElem? (i := 988) (by decide +kernel)⟩
theorem lw_p46 : lw_okq (⟨"MarkScriptsModel", "isKey", "(III)Z"⟩, 31) := ⟨⟨by decide +kernel, by decide +kernel⟩, List.mem_of_getElem? (i := 746) (by decide +kernel), List.mem_of_getElem? (i := 991) (by decide +kernel), List.mem_of_getElem? (i := 992) (by decide +kernel)⟩
theorem lw_p47 : lw_okq (⟨"MarkScriptsModel", "headsBeneath", "(II)I"⟩, 31) := ⟨⟨by decide +kernel, by decide +kernel⟩, List.mem_of_getElem? (i := 746) (by decide +kernel), List.mem_of_getElem? (i := 1005) (by decide +kernel), List.mem_of_getElem? (i := 1006) (by decide +kernel)⟩
def lw_privs_3 : List (MethodName × Nat) := [(⟨"MarkScriptsModel", "reading", "(I)I"⟩, 31), (⟨"MarkScriptsModel", "here", "(I)I"⟩, 31), (⟨"MarkScriptsModel", "closes", "(II)V"⟩, 31), (⟨"MarkScriptsModel", "many", "(I)I"⟩, 31), (⟨"MarkScriptsModel", "codeOf", "(II)I"⟩, 31), (⟨"MarkScriptsModel", "writesAll", "(II)V"⟩, 31), (⟨"MarkScriptsModel", "firstFrom", "(IIII)I"⟩, 31), (⟨"MarkScriptsModel", "leftOf", "(II)I"⟩, 31), (⟨"MarkScriptsModel", "writes", "(I)V"⟩, 31), (⟨"MarkScriptsModel", "beneath", "(III)I"⟩, 31), (⟨"MarkScriptsModel", "toText", "(I)I"⟩, 31), (⟨"MarkScriptsModel", "isNode", "(II)Z"⟩, 31), (⟨"MarkScriptsModel", "rightBeneath", "(II)I"⟩, 31), (⟨"MarkScriptsModel", "above", "(II)I"⟩, 31), (⟨"MarkScriptsModel", "isKey", "(III)Z"⟩, 31), (⟨"MarkScriptsModel", "headsBeneath", "(II)I"⟩, 31)]
theorem lw_r3 : ∀ q ∈ lw_privs_3, lw_okq q := List.forall_mem_cons.mpr ⟨lw_p32, List.forall_mem_cons.mpr ⟨lw_p33, List.forall_mem_cons.mpr ⟨lw_p34, List.forall_mem_cons.mpr ⟨lw_p35, List.forall_mem_cons.mpr ⟨lw_p36, List.forall_mem_cons.mpr ⟨lw_p37, List.forall_mem_cons.mpr ⟨lw_p38, List.forall_mem_cons.mpr ⟨lw_p39, List.forall_mem_cons.mpr ⟨lw_p40, List.forall_mem_cons.mpr ⟨lw_p41, List.forall_mem_cons.mpr ⟨lw_p42, List.forall_mem_cons.mpr ⟨lw_p43, List.forall_mem_cons.mpr ⟨lw_p44, List.forall_mem_cons.mpr ⟨lw_p45, List.forall_mem_cons.mpr ⟨lw_p46, List.forall_mem_cons.mpr ⟨lw_p47, fun _ h => absurd h List.not_mem_nil⟩⟩⟩⟩⟩⟩⟩⟩⟩⟩⟩⟩⟩⟩⟩⟩
theorem lw_p48 : lw_okq (⟨"MarkScriptsModel", "alikeIn", "(II)I"⟩, 31) := ⟨⟨by decide +kernel, by decide +kernel⟩, List.mem_of_getElem? (i := 746) (by decide +kernel), List.mem_of_getElem? (i := 1009) (by decide +kernel), List.mem_of_getElem? (i := 1010) (by decide +kernel)⟩
theorem lw_p49 : lw_okq (⟨"MarkScriptsModel", "deepOf", "(II)I"⟩, 31) := ⟨⟨by decide +kernel, by decide +kernel⟩, List.mem_of_getElem? (i := 746) (by decide +kernel), List.mem_of_getElem? (i := 1013) (by decide +kernel), List.mem_of_getElem? (i := 1014) (by decide +kernel)⟩
theorem lw_p50 : lw_okq (⟨"MarkScriptsModel", "areBoth", "()Z"⟩, 31) := ⟨⟨by decide +kernel, by decide +kernel⟩, List.mem_of_getElem? (i := 746) (by decide +kernel), List.mem_of_getElem? (i := 1021) (by decide +kernel), List.mem_of_getElem? (i := 1022) (by decide +kernel)⟩
theorem lw_p51 : lw_okq (⟨"MarkScriptsModel", "leastOf", "()I"⟩, 31) := ⟨⟨by decide +kernel, by decide +kernel⟩, List.mem_of_getElem? (i := 746) (by decide +kernel), List.mem_of_getElem? (i := 1025) (by decide +kernel), List.mem_of_getElem? (i := 1026) (by decide +kernel)⟩
theorem lw_p52 : lw_okq (⟨"MarkScriptsModel", "laysPrices", "()V"⟩, 31) := ⟨⟨by decide +kernel, by decide +kernel⟩, List.mem_of_getElem? (i := 746) (by decide +kernel), List.mem_of_getElem? (i := 1029) (by decide +kernel), List.mem_of_getElem? (i := 1030) (by decide +kernel)⟩
theorem lw_p53 : lw_okq (⟨"MarkScriptsModel", "changeOf", "(II)I"⟩, 31) := ⟨⟨by decide +kernel, by decide +kernel⟩, List.mem_of_getElem? (i := 746) (by decide +kernel), List.mem_of_getElem? (i := 1033) (by decide +kernel), List.mem_of_getElem? (i := 1034) (by decide +kernel)⟩
theorem lw_p54 : lw_okq (⟨"MarkScriptsModel", "laysCosts", "()I"⟩, 31) := ⟨⟨by decide +kernel, by decide +kernel⟩, List.mem_of_getElem? (i := 746) (by decide +kernel), List.mem_of_getElem? (i := 1037) (by decide +kernel), List.mem_of_getElem? (i := 1038) (by decide +kernel)⟩
theorem lw_p55 : lw_okq (⟨"MarkScriptsModel", "laysForest", "(II)V"⟩, 31) := ⟨⟨by decide +kernel, by decide +kernel⟩, List.mem_of_getElem? (i := 746) (by decide +kernel), List.mem_of_getElem? (i := 1041) (by decide +kernel), List.mem_of_getElem? (i := 1042) (by decide +kernel)⟩
theorem lw_p56 : lw_okq (⟨"MarkScriptsModel", "laysWay", "()V"⟩, 31) := ⟨⟨by decide +kernel, by decide +kernel⟩, List.mem_of_getElem? (i := 746) (by decide +kernel), List.mem_of_getElem? (i := 1056) (by decide +kernel), List.mem_of_getElem? (i := 1057) (by decide +kernel)⟩
theorem lw_p57 : lw_okq (⟨"MarkScriptsModel", "laysKnown", "(I)V"⟩, 31) := ⟨⟨by decide +kernel, by decide +kernel⟩, List.mem_of_getElem? (i := 746) (by decide +kernel), List.mem_of_getElem? (i := 1060) (by decide +kernel), List.mem_of_getElem? (i := 1061) (by decide +kernel)⟩
theorem lw_p58 : lw_okq (⟨"MarkScriptsModel", "shuts", "(II)V"⟩, 31) := ⟨⟨by decide +kernel, by decide +kernel⟩, List.mem_of_getElem? (i := 746) (by decide +kernel), List.mem_of_getElem? (i := 1064) (by decide +kernel), List.mem_of_getElem? (i := 1065) (by decide +kernel)⟩
theorem lw_p59 : lw_okq (⟨"MarkScriptsModel", "laysSteps", "()V"⟩, 31) := ⟨⟨by decide +kernel, by decide +kernel⟩, List.mem_of_getElem? (i := 746) (by decide +kernel), List.mem_of_getElem? (i := 1073) (by decide +kernel), List.mem_of_getElem? (i := 1074) (by decide +kernel)⟩
theorem lw_p60 : lw_okq (⟨"MarkScriptsModel", "steps", "(III)V"⟩, 31) := ⟨⟨by decide +kernel, by decide +kernel⟩, List.mem_of_getElem? (i := 746) (by decide +kernel), List.mem_of_getElem? (i := 1077) (by decide +kernel), List.mem_of_getElem? (i := 1078) (by decide +kernel)⟩
theorem lw_p61 : lw_okq (⟨"MarkScriptsModel", "keys", "(II)I"⟩, 31) := ⟨⟨by decide +kernel, by decide +kernel⟩, List.mem_of_getElem? (i := 746) (by decide +kernel), List.mem_of_getElem? (i := 1089) (by decide +kernel), List.mem_of_getElem? (i := 1090) (by decide +kernel)⟩
theorem lw_p62 : lw_okq (⟨"MarkScriptsModel", "keySizes", "(II)I"⟩, 31) := ⟨⟨by decide +kernel, by decide +kernel⟩, List.mem_of_getElem? (i := 746) (by decide +kernel), List.mem_of_getElem? (i := 1093) (by decide +kernel), List.mem_of_getElem? (i := 1094) (by decide +kernel)⟩
theorem lw_p63 : lw_okq (⟨"MarkScriptsModel", "notes", "()V"⟩, 31) := ⟨⟨by decide +kernel, by decide +kernel⟩, List.mem_of_getElem? (i := 746) (by decide +kernel), List.mem_of_getElem? (i := 1109) (by decide +kernel), List.mem_of_getElem? (i := 1110) (by decide +kernel)⟩
def lw_privs_4 : List (MethodName × Nat) := [(⟨"MarkScriptsModel", "alikeIn", "(II)I"⟩, 31), (⟨"MarkScriptsModel", "deepOf", "(II)I"⟩, 31), (⟨"MarkScriptsModel", "areBoth", "()Z"⟩, 31), (⟨"MarkScriptsModel", "leastOf", "()I"⟩, 31), (⟨"MarkScriptsModel", "laysPrices", "()V"⟩, 31), (⟨"MarkScriptsModel", "changeOf", "(II)I"⟩, 31), (⟨"MarkScriptsModel", "laysCosts", "()I"⟩, 31), (⟨"MarkScriptsModel", "laysForest", "(II)V"⟩, 31), (⟨"MarkScriptsModel", "laysWay", "()V"⟩, 31), (⟨"MarkScriptsModel", "laysKnown", "(I)V"⟩, 31), (⟨"MarkScriptsModel", "shuts", "(II)V"⟩, 31), (⟨"MarkScriptsModel", "laysSteps", "()V"⟩, 31), (⟨"MarkScriptsModel", "steps", "(III)V"⟩, 31), (⟨"MarkScriptsModel", "keys", "(II)I"⟩, 31), (⟨"MarkScriptsModel", "keySizes", "(II)I"⟩, 31), (⟨"MarkScriptsModel", "notes", "()V"⟩, 31)]
theorem lw_r4 : ∀ q ∈ lw_privs_4, lw_okq q := List.forall_mem_cons.mpr ⟨lw_p48, List.forall_mem_cons.mpr ⟨lw_p49, List.forall_mem_cons.mpr ⟨lw_p50, List.forall_mem_cons.mpr ⟨lw_p51, List.forall_mem_cons.mpr ⟨lw_p52, List.forall_mem_cons.mpr ⟨lw_p53, List.forall_mem_cons.mpr ⟨lw_p54, List.forall_mem_cons.mpr ⟨lw_p55, List.forall_mem_cons.mpr ⟨lw_p56, List.forall_mem_cons.mpr ⟨lw_p57, List.forall_mem_cons.mpr ⟨lw_p58, List.forall_mem_cons.mpr ⟨lw_p59, List.forall_mem_cons.mpr ⟨lw_p60, List.forall_mem_cons.mpr ⟨lw_p61, List.forall_mem_cons.mpr ⟨lw_p62, List.forall_mem_cons.mpr ⟨lw_p63, fun _ h => absurd h List.not_mem_nil⟩⟩⟩⟩⟩⟩⟩⟩⟩⟩⟩⟩⟩⟩⟩⟩
theorem lw_p64 : lw_okq (⟨"MarkScriptsModel", "mayCut", "(II)Z"⟩, 31) := ⟨⟨by decide +kernel, by decide +kernel⟩, List.mem_of_getElem? (i := 746) (by decide +kernel), List.mem_of_getElem? (i := 1117) (by decide +kernel), List.mem_of_getElem? (i := 1118) (by decide +kernel)⟩
theorem lw_p65 : lw_okq (⟨"MarkScriptsModel", "cuts", "(II)V"⟩, 31) := ⟨⟨by decide +kernel, by decide +kernel⟩, List.mem_of_getElem? (i := 746) (by decide +kernel), List.mem_of_getElem? (i := 1121) (by decide +kernel), List.mem_of_getElem? (i := 1122) (by decide +kernel)⟩
theorem lw_p66 : lw_okq (⟨"MarkScriptsModel", "adds", "(IIIII)I"⟩, 31) := ⟨⟨by decide +kernel, by decide +kernel⟩, List.mem_of_getElem? (i := 746) (by decide +kernel), List.mem_of_getElem? (i := 1129) (by decide +kernel), List.mem_of_getElem? (i := 1130) (by decide +kernel)⟩
theorem lw_p67 : lw_okq (⟨"MarkScriptsModel", "childOf", "(III)I"⟩, 31) := ⟨⟨by decide +kernel, by decide +kernel⟩, List.mem_of_getElem? (i := 746) (by decide +kernel), List.mem_of_getElem? (i := 1133) (by decide +kernel), List.mem_of_getElem? (i := 1134) (by decide +kernel)⟩
theorem lw_p68 : lw_okq (⟨"MarkScriptsModel", "isBeneath", "(III)Z"⟩, 31) := ⟨⟨by decide +kernel, by decide +kernel⟩, List.mem_of_getElem? (i := 746) (by decide +kernel), List.mem_of_getElem? (i := 1137) (by decide +kernel), List.mem_of_getElem? (i := 1138) (by decide +kernel)⟩
theorem lw_p69 : lw_okq (⟨"MarkScriptsModel", "turns", "()V"⟩, 31) := ⟨⟨by decide +kernel, by decide +kernel⟩, List.mem_of_getElem? (i := 746) (by decide +kernel), List.mem_of_getElem? (i := 1149) (by decide +kernel), List.mem_of_getElem? (i := 1150) (by decide +kernel)⟩
theorem lw_p70 : lw_okq (⟨"MarkScriptsModel", "does", "(I)V"⟩, 31) := ⟨⟨by decide +kernel, by decide +kernel⟩, List.mem_of_getElem? (i := 746) (by decide +kernel), List.mem_of_getElem? (i := 1172) (by decide +kernel), List.mem_of_getElem? (i := 1173) (by decide +kernel)⟩
theorem lw_p71 : lw_okq (⟨"MarkScriptsModel", "stepsOf", "()I"⟩, 31) := ⟨⟨by decide +kernel, by decide +kernel⟩, List.mem_of_getElem? (i := 746) (by decide +kernel), List.mem_of_getElem? (i := 1184) (by decide +kernel), List.mem_of_getElem? (i := 1185) (by decide +kernel)⟩
theorem lw_p72 : lw_okq (⟨"MarkScriptsModel", "pairs", "()I"⟩, 31) := ⟨⟨by decide +kernel, by decide +kernel⟩, List.mem_of_getElem? (i := 746) (by decide +kernel), List.mem_of_getElem? (i := 1188) (by decide +kernel), List.mem_of_getElem? (i := 1189) (by decide +kernel)⟩
theorem lw_p73 : lw_okq (⟨"MarkScriptsModel", "keptMany", "()I"⟩, 31) := ⟨⟨by decide +kernel, by decide +kernel⟩, List.mem_of_getElem? (i := 746) (by decide +kernel), List.mem_of_getElem? (i := 1195) (by decide +kernel), List.mem_of_getElem? (i := 1196) (by decide +kernel)⟩
theorem lw_p74 : lw_okq (⟨"MarkScriptsModel", "partnerTold", "(II)I"⟩, 31) := ⟨⟨by decide +kernel, by decide +kernel⟩, List.mem_of_getElem? (i := 746) (by decide +kernel), List.mem_of_getElem? (i := 1214) (by decide +kernel), List.mem_of_getElem? (i := 1215) (by decide +kernel)⟩
def lw_privs_5 : List (MethodName × Nat) := [(⟨"MarkScriptsModel", "mayCut", "(II)Z"⟩, 31), (⟨"MarkScriptsModel", "cuts", "(II)V"⟩, 31), (⟨"MarkScriptsModel", "adds", "(IIIII)I"⟩, 31), (⟨"MarkScriptsModel", "childOf", "(III)I"⟩, 31), (⟨"MarkScriptsModel", "isBeneath", "(III)Z"⟩, 31), (⟨"MarkScriptsModel", "turns", "()V"⟩, 31), (⟨"MarkScriptsModel", "does", "(I)V"⟩, 31), (⟨"MarkScriptsModel", "stepsOf", "()I"⟩, 31), (⟨"MarkScriptsModel", "pairs", "()I"⟩, 31), (⟨"MarkScriptsModel", "keptMany", "()I"⟩, 31), (⟨"MarkScriptsModel", "partnerTold", "(II)I"⟩, 31)]
theorem lw_r5 : ∀ q ∈ lw_privs_5, lw_okq q := List.forall_mem_cons.mpr ⟨lw_p64, List.forall_mem_cons.mpr ⟨lw_p65, List.forall_mem_cons.mpr ⟨lw_p66, List.forall_mem_cons.mpr ⟨lw_p67, List.forall_mem_cons.mpr ⟨lw_p68, List.forall_mem_cons.mpr ⟨lw_p69, List.forall_mem_cons.mpr ⟨lw_p70, List.forall_mem_cons.mpr ⟨lw_p71, List.forall_mem_cons.mpr ⟨lw_p72, List.forall_mem_cons.mpr ⟨lw_p73, List.forall_mem_cons.mpr ⟨lw_p74, fun _ h => absurd h List.not_mem_nil⟩⟩⟩⟩⟩⟩⟩⟩⟩⟩⟩
def lw_privs : List (MethodName × Nat) := lw_privs_1 ++ (lw_privs_2 ++ (lw_privs_3 ++ (lw_privs_4 ++ (lw_privs_5))))
def lw_tbl : List Cond := k2_sels lw_privs ++ tables_1
theorem lw_privs_ok : ∀ q ∈ lw_privs, lw_okq q := by
  show ∀ q ∈ lw_privs_1 ++ (lw_privs_2 ++ (lw_privs_3 ++ (lw_privs_4 ++ (lw_privs_5)))), lw_okq q
  exact List.forall_mem_append.mpr ⟨lw_r1, List.forall_mem_append.mpr ⟨lw_r2, List.forall_mem_append.mpr ⟨lw_r3, List.forall_mem_append.mpr ⟨lw_r4, lw_r5⟩⟩⟩⟩

/-! ===== BEGIN words of one list among another's, by their places ===== -/
theorem goodIn_r {big : List Cond} (ws : List Cond) (ps : List Nat) (hp : ws = ps.filterMap (fun i => big[i]?)) (h : ws.all goodWord = true) : GoodIn big ws := by
  intro w hw
  have h1 := List.all_eq_true.mp h w hw
  rw [hp] at hw
  obtain ⟨i, -, hi⟩ := List.mem_filterMap.mp hw
  have hm : w ∈ big := by first | exact List.mem_of_getElem? hi | exact List.getElem?_mem hi
  exact ⟨hm, good_of_word h1⟩
theorem goodIn_app {big a b : List Cond} (ha : GoodIn big a) (hb : GoodIn big b) : GoodIn big (a ++ b) := fun w h => (List.mem_append.mp h).elim (ha w) (hb w)
theorem goodIn_ca {big a b : List Cond} {c : Cond} (ha : GoodIn big (c :: a)) (hb : GoodIn big b) : GoodIn big (c :: (a ++ b)) := fun w h => (List.mem_cons.mp h).elim (fun e => ha w (List.mem_cons.mpr (Or.inl e))) (fun h => (List.mem_append.mp h).elim (fun h => ha w (List.mem_cons.mpr (Or.inr h))) (hb w))
theorem goodIn_sub {big ws : List Cond} (hm : ∀ w ∈ ws, w ∈ big) (h : ws.all goodWord = true) : GoodIn big ws := fun w hw => ⟨hm w hw, good_of_word (List.all_eq_true.mp h w hw)⟩
/-! ===== END ===== -/



/-! ===== BEGIN printed: names, fields, word lists, decode rows ===== -/
def RX0 : String := "MarkScripts$Log"
def TX0 : u_T := fun k => match k with
  | 0 => ("MarkScripts$Log", "count", "I", false)
  | _ => ("MarkScripts$Log", "states", "[I", true)
def tyX0 : Nat → FieldType := fun k => match k with
  | 0 => .int
  | _ => .array .int
abbrev wsX00 : List Cond := u_ws RX0 TX0 2
theorem nmX0 : ∀ a, a < 2 → ∀ b, b < 2 → a ≠ b → (TX0 a).2.1 ≠ (TX0 b).2.1 := by decide +kernel
theorem tyX0_ok : ∀ k, k < 2 → parseFieldDescriptor (TX0 k).2.2.1 = some (tyX0 k) := by decide +kernel
abbrev cX0_init : ByteArray := prog_2_method_1_code
def yX0_init : MethodName := ⟨RX0, "<init>", "(I)V"⟩
abbrev cX0_hold : ByteArray := prog_2_method_2_code
def yX0_hold : MethodName := ⟨RX0, "hold", "(LMarkScripts$State;)V"⟩
abbrev cX0_give : ByteArray := prog_2_method_3_code
def yX0_give : MethodName := ⟨RX0, "give", "(LMarkScripts$State;)V"⟩
abbrev cX0_take : ByteArray := prog_2_method_4_code
def yX0_take : MethodName := ⟨RX0, "take", "(LMarkScripts$Log;)V"⟩
def RX1 : String := "MarkScripts$Reader"
def TX1 : u_T := fun k => match k with
  | 0 => ("MarkScripts$Reader", "tree", "LMarkScripts$Tree;", true)
  | 1 => ("MarkScripts$Reader", "openCodes", "[I", true)
  | 2 => ("MarkScripts$Reader", "openStarts", "[I", true)
  | 3 => ("MarkScripts$Reader", "depth", "I", false)
  | 4 => ("MarkScripts$Reader", "labels", "I", false)
  | _ => ("MarkScripts$Reader", "last", "I", false)
def tyX1 : Nat → FieldType := fun k => match k with
  | 0 => .object "MarkScripts$Tree"
  | 1 => .array .int
  | 2 => .array .int
  | 3 => .int
  | 4 => .int
  | _ => .int
abbrev wsX10 : List Cond := u_ws RX1 TX1 6
theorem nmX1 : ∀ a, a < 6 → ∀ b, b < 6 → a ≠ b → (TX1 a).2.1 ≠ (TX1 b).2.1 := by decide +kernel
theorem tyX1_ok : ∀ k, k < 6 → parseFieldDescriptor (TX1 k).2.2.1 = some (tyX1 k) := by decide +kernel
abbrev cX1_init : ByteArray := prog_3_method_1_code
def yX1_init : MethodName := ⟨RX1, "<init>", "()V"⟩
abbrev cX1_read : ByteArray := prog_3_method_2_code
def yX1_read : MethodName := ⟨RX1, "read", "(LMarkScripts$Text;)I"⟩
abbrev cX1_accepts : ByteArray := prog_3_method_3_code
def yX1_accepts : MethodName := ⟨RX1, "accepts", "(I)Z"⟩
abbrev cX1_begins : ByteArray := prog_3_method_4_code
def yX1_begins : MethodName := ⟨RX1, "begins", "(I)Z"⟩
abbrev cX1_opens : ByteArray := prog_3_method_5_code
def yX1_opens : MethodName := ⟨RX1, "opens", "()Z"⟩
abbrev cX1_closes : ByteArray := prog_3_method_6_code
def yX1_closes : MethodName := ⟨RX1, "closes", "()Z"⟩
def RX2 : String := "MarkScripts$Row"
def TX2 : u_T := fun k => match k with
  | 0 => ("MarkScripts$Row", "length", "I", false)
  | _ => ("MarkScripts$Row", "items", "[I", true)
def tyX2 : Nat → FieldType := fun k => match k with
  | 0 => .int
  | _ => .array .int
abbrev wsX20 : List Cond := u_ws RX2 TX2 2
theorem nmX2 : ∀ a, a < 2 → ∀ b, b < 2 → a ≠ b → (TX2 a).2.1 ≠ (TX2 b).2.1 := by decide +kernel
theorem tyX2_ok : ∀ k, k < 2 → parseFieldDescriptor (TX2 k).2.2.1 = some (tyX2 k) := by decide +kernel
abbrev cX2_init : ByteArray := prog_4_method_1_code
def yX2_init : MethodName := ⟨RX2, "<init>", "()V"⟩
abbrev cX2_begin : ByteArray := prog_4_method_2_code
def yX2_begin : MethodName := ⟨RX2, "begin", "(I)V"⟩
abbrev cX2_lacks : ByteArray := prog_4_method_3_code
def yX2_lacks : MethodName := ⟨RX2, "lacks", "(II)Z"⟩
abbrev cX2_sum : ByteArray := prog_4_method_4_code
def yX2_sum : MethodName := ⟨RX2, "sum", "()J"⟩
abbrev cX2_digestAfter : ByteArray := prog_4_method_5_code
def yX2_digestAfter : MethodName := ⟨RX2, "digestAfter", "(J)J"⟩
def RX3 : String := "MarkScripts$State"
def TX3 : u_T := fun k => match k with
  | 0 => ("MarkScripts$State", "from", "LMarkScripts$Tree;", true)
  | 1 => ("MarkScripts$State", "to", "LMarkScripts$Tree;", true)
  | _ => ("MarkScripts$State", "prices", "[I", true)
def tyX3 : Nat → FieldType := fun k => match k with
  | 0 => .object "MarkScripts$Tree"
  | 1 => .object "MarkScripts$Tree"
  | _ => .array .int
abbrev wsX30 : List Cond := u_ws RX3 TX3 3
theorem nmX3 : ∀ a, a < 3 → ∀ b, b < 3 → a ≠ b → (TX3 a).2.1 ≠ (TX3 b).2.1 := by decide +kernel
theorem tyX3_ok : ∀ k, k < 3 → parseFieldDescriptor (TX3 k).2.2.1 = some (tyX3 k) := by decide +kernel
abbrev cX3_init : ByteArray := prog_5_method_1_code
def yX3_init : MethodName := ⟨RX3, "<init>", "()V"⟩
abbrev cX3_tree : ByteArray := prog_5_method_2_code
def yX3_tree : MethodName := ⟨RX3, "tree", "(I)LMarkScripts$Tree;"⟩
abbrev cX3_isWhole : ByteArray := prog_5_method_3_code
def yX3_isWhole : MethodName := ⟨RX3, "isWhole", "()Z"⟩
abbrev cX3_insertion : ByteArray := prog_5_method_4_code
def yX3_insertion : MethodName := ⟨RX3, "insertion", "(I)I"⟩
abbrev cX3_deletion : ByteArray := prog_5_method_5_code
def yX3_deletion : MethodName := ⟨RX3, "deletion", "(I)I"⟩
abbrev cX3_relabelling : ByteArray := prog_5_method_6_code
def yX3_relabelling : MethodName := ⟨RX3, "relabelling", "(II)I"⟩
abbrev cX3_pack : ByteArray := prog_5_method_7_code
def yX3_pack : MethodName := ⟨RX3, "pack", "([II)V"⟩
abbrev cX3_unpack : ByteArray := prog_5_method_8_code
def yX3_unpack : MethodName := ⟨RX3, "unpack", "([II)V"⟩
abbrev cX3_packTree : ByteArray := prog_5_method_9_code
def yX3_packTree : MethodName := ⟨RX3, "packTree", "(LMarkScripts$Tree;[II)V"⟩
abbrev cX3_unpackTree : ByteArray := prog_5_method_10_code
def yX3_unpackTree : MethodName := ⟨RX3, "unpackTree", "(LMarkScripts$Tree;[II)V"⟩
def RX4 : String := "MarkScripts$Steps"
def TX4 : u_T := fun k => match k with
  | 0 => ("MarkScripts$Steps", "count", "I", false)
  | 1 => ("MarkScripts$Steps", "sorts", "[I", true)
  | 2 => ("MarkScripts$Steps", "nodes", "[I", true)
  | _ => ("MarkScripts$Steps", "costs", "[I", true)
def tyX4 : Nat → FieldType := fun k => match k with
  | 0 => .int
  | 1 => .array .int
  | 2 => .array .int
  | _ => .array .int
abbrev wsX40 : List Cond := u_ws RX4 TX4 4
theorem nmX4 : ∀ a, a < 4 → ∀ b, b < 4 → a ≠ b → (TX4 a).2.1 ≠ (TX4 b).2.1 := by decide +kernel
theorem tyX4_ok : ∀ k, k < 4 → parseFieldDescriptor (TX4 k).2.2.1 = some (tyX4 k) := by decide +kernel
abbrev cX4_init : ByteArray := prog_6_method_1_code
def yX4_init : MethodName := ⟨RX4, "<init>", "()V"⟩
abbrev cX4_append : ByteArray := prog_6_method_2_code
def yX4_append : MethodName := ⟨RX4, "append", "(III)V"⟩
def RX5 : String := "MarkScripts$Text"
def TX5 : u_T := fun k => match k with
  | 0 => ("MarkScripts$Text", "length", "I", false)
  | _ => ("MarkScripts$Text", "bytes", "[B", true)
def tyX5 : Nat → FieldType := fun k => match k with
  | 0 => .int
  | _ => .array .byte
abbrev wsX50 : List Cond := u_ws RX5 TX5 2
theorem nmX5 : ∀ a, a < 2 → ∀ b, b < 2 → a ≠ b → (TX5 a).2.1 ≠ (TX5 b).2.1 := by decide +kernel
theorem tyX5_ok : ∀ k, k < 2 → parseFieldDescriptor (TX5 k).2.2.1 = some (tyX5 k) := by decide +kernel
abbrev cX5_init : ByteArray := prog_7_method_1_code
def yX5_init : MethodName := ⟨RX5, "<init>", "()V"⟩
abbrev cX5_begin : ByteArray := prog_7_method_2_code
def yX5_begin : MethodName := ⟨RX5, "begin", "(I)V"⟩
abbrev cX5_print : ByteArray := prog_7_method_3_code
def yX5_print : MethodName := ⟨RX5, "print", "(LMarkScripts$Tree;)I"⟩
abbrev cX5_printDownTo : ByteArray := prog_7_method_4_code
def yX5_printDownTo : MethodName := ⟨RX5, "printDownTo", "(ILMarkScripts$Tree;)V"⟩
abbrev cX5_append : ByteArray := prog_7_method_5_code
def yX5_append : MethodName := ⟨RX5, "append", "(I)V"⟩
abbrev cX5_digestAfter : ByteArray := prog_7_method_6_code
def yX5_digestAfter : MethodName := ⟨RX5, "digestAfter", "(J)J"⟩
def RX6 : String := "MarkScripts$Tree"
def TX6 : u_T := fun k => match k with
  | 0 => ("MarkScripts$Tree", "size", "I", false)
  | 1 => ("MarkScripts$Tree", "codes", "[I", true)
  | _ => ("MarkScripts$Tree", "spans", "[I", true)
def tyX6 : Nat → FieldType := fun k => match k with
  | 0 => .int
  | 1 => .array .int
  | _ => .array .int
abbrev wsX60 : List Cond := u_ws RX6 TX6 3
theorem nmX6 : ∀ a, a < 3 → ∀ b, b < 3 → a ≠ b → (TX6 a).2.1 ≠ (TX6 b).2.1 := by decide +kernel
theorem tyX6_ok : ∀ k, k < 3 → parseFieldDescriptor (TX6 k).2.2.1 = some (tyX6 k) := by decide +kernel
abbrev cX6_init : ByteArray := prog_8_method_1_code
def yX6_init : MethodName := ⟨RX6, "<init>", "()V"⟩
abbrev cX6_has : ByteArray := prog_8_method_2_code
def yX6_has : MethodName := ⟨RX6, "has", "(I)Z"⟩
abbrev cX6_leftmost : ByteArray := prog_8_method_3_code
def yX6_leftmost : MethodName := ⟨RX6, "leftmost", "(I)I"⟩
abbrev cX6_parent : ByteArray := prog_8_method_4_code
def yX6_parent : MethodName := ⟨RX6, "parent", "(I)I"⟩
abbrev cX6_children : ByteArray := prog_8_method_5_code
def yX6_children : MethodName := ⟨RX6, "children", "(I)I"⟩
abbrev cX6_ancestors : ByteArray := prog_8_method_6_code
def yX6_ancestors : MethodName := ⟨RX6, "ancestors", "(I)I"⟩
abbrev cX6_headsBelow : ByteArray := prog_8_method_7_code
def yX6_headsBelow : MethodName := ⟨RX6, "headsBelow", "(I)I"⟩
abbrev cX6_nodesWith : ByteArray := prog_8_method_8_code
def yX6_nodesWith : MethodName := ⟨RX6, "nodesWith", "(I)I"⟩
abbrev cX6_isKey : ByteArray := prog_8_method_9_code
def yX6_isKey : MethodName := ⟨RX6, "isKey", "(II)Z"⟩
abbrev cX6_keys : ByteArray := prog_8_method_10_code
def yX6_keys : MethodName := ⟨RX6, "keys", "(I)I"⟩
abbrev cX6_keySizes : ByteArray := prog_8_method_11_code
def yX6_keySizes : MethodName := ⟨RX6, "keySizes", "(I)I"⟩
abbrev cX6_take : ByteArray := prog_8_method_12_code
def yX6_take : MethodName := ⟨RX6, "take", "(LMarkScripts$Tree;)V"⟩
abbrev cX6_append : ByteArray := prog_8_method_13_code
def yX6_append : MethodName := ⟨RX6, "append", "(II)V"⟩
abbrev cX6_canLose : ByteArray := prog_8_method_14_code
def yX6_canLose : MethodName := ⟨RX6, "canLose", "(I)Z"⟩
abbrev cX6_remove : ByteArray := prog_8_method_15_code
def yX6_remove : MethodName := ⟨RX6, "remove", "(I)V"⟩
abbrev cX6_insert : ByteArray := prog_8_method_16_code
def yX6_insert : MethodName := ⟨RX6, "insert", "(IIII)I"⟩
abbrev cX6_endOfChildren : ByteArray := prog_8_method_17_code
def yX6_endOfChildren : MethodName := ⟨RX6, "endOfChildren", "(II)I"⟩
def RX7 : String := "MarkScripts$Ways"
def TX7 : u_T := fun k => match k with
  | 0 => ("MarkScripts$Ways", "state", "LMarkScripts$State;", true)
  | 1 => ("MarkScripts$Ways", "stale", "Z", false)
  | 2 => ("MarkScripts$Ways", "pairs", "I", false)
  | 3 => ("MarkScripts$Ways", "steps", "LMarkScripts$Steps;", true)
  | 4 => ("MarkScripts$Ways", "apart", "[[I", true)
  | 5 => ("MarkScripts$Ways", "swaps", "[[I", true)
  | 6 => ("MarkScripts$Ways", "from", "LMarkScripts$Tree;", true)
  | 7 => ("MarkScripts$Ways", "to", "LMarkScripts$Tree;", true)
  | 8 => ("MarkScripts$Ways", "drops", "[I", true)
  | 9 => ("MarkScripts$Ways", "gains", "[I", true)
  | 10 => ("MarkScripts$Ways", "joined", "[[I", true)
  | 11 => ("MarkScripts$Ways", "forest", "[[I", true)
  | 12 => ("MarkScripts$Ways", "partners", "[I", true)
  | _ => ("MarkScripts$Ways", "origins", "[I", true)
def tyX7 : Nat → FieldType := fun k => match k with
  | 0 => .object "MarkScripts$State"
  | 1 => .boolean
  | 2 => .int
  | 3 => .object "MarkScripts$Steps"
  | 4 => .array (.array .int)
  | 5 => .array (.array .int)
  | 6 => .object "MarkScripts$Tree"
  | 7 => .object "MarkScripts$Tree"
  | 8 => .array .int
  | 9 => .array .int
  | 10 => .array (.array .int)
  | 11 => .array (.array .int)
  | 12 => .array .int
  | _ => .array .int
abbrev wsX70 : List Cond := u_ws RX7 TX7 14
theorem nmX7 : ∀ a, a < 14 → ∀ b, b < 14 → a ≠ b → (TX7 a).2.1 ≠ (TX7 b).2.1 := by decide +kernel
theorem tyX7_ok : ∀ k, k < 14 → parseFieldDescriptor (TX7 k).2.2.1 = some (tyX7 k) := by decide +kernel
abbrev cX7_init : ByteArray := prog_9_method_1_code
def yX7_init : MethodName := ⟨RX7, "<init>", "()V"⟩
abbrev cX7_refresh : ByteArray := prog_9_method_2_code
def yX7_refresh : MethodName := ⟨RX7, "refresh", "()V"⟩
abbrev cX7_distance : ByteArray := prog_9_method_3_code
def yX7_distance : MethodName := ⟨RX7, "distance", "()I"⟩
abbrev cX7_between : ByteArray := prog_9_method_4_code
def yX7_between : MethodName := ⟨RX7, "between", "(III)I"⟩
abbrev cX7_partnerOf : ByteArray := prog_9_method_5_code
def yX7_partnerOf : MethodName := ⟨RX7, "partnerOf", "(II)I"⟩
abbrev cX7_measure : ByteArray := prog_9_method_6_code
def yX7_measure : MethodName := ⟨RX7, "measure", "()V"⟩
abbrev cX7_setPrices : ByteArray := prog_9_method_7_code
def yX7_setPrices : MethodName := ⟨RX7, "setPrices", "()V"⟩
abbrev cX7_fill : ByteArray := prog_9_method_8_code
def yX7_fill : MethodName := ⟨RX7, "fill", "(IIII)V"⟩
abbrev cX7_pairUp : ByteArray := prog_9_method_9_code
def yX7_pairUp : MethodName := ⟨RX7, "pairUp", "()V"⟩
abbrev cX7_pairForests : ByteArray := prog_9_method_10_code
def yX7_pairForests : MethodName := ⟨RX7, "pairForests", "(IIII)V"⟩
abbrev cX7_greatestPartner : ByteArray := prog_9_method_11_code
def yX7_greatestPartner : MethodName := ⟨RX7, "greatestPartner", "(III)I"⟩
abbrev cX7_listSteps : ByteArray := prog_9_method_12_code
def yX7_listSteps : MethodName := ⟨RX7, "listSteps", "()V"⟩
abbrev cX7_grow : ByteArray := prog_9_method_13_code
def yX7_grow : MethodName := ⟨RX7, "grow", "(ILMarkScripts$Tree;)V"⟩
abbrev cX7_relabelUpTo : ByteArray := prog_9_method_14_code
def yX7_relabelUpTo : MethodName := ⟨RX7, "relabelUpTo", "(ILMarkScripts$Tree;)V"⟩
abbrev cX7_removeStep : ByteArray := prog_9_method_15_code
def yX7_removeStep : MethodName := ⟨RX7, "removeStep", "(IILMarkScripts$Tree;)V"⟩
def RX8 : String := "MarkScripts"
def TX8 : u_T := fun k => match k with
  | 0 => ("MarkScripts", "rows", "[LMarkScripts$Row;", true)
  | 1 => ("MarkScripts", "texts", "[LMarkScripts$Text;", true)
  | 2 => ("MarkScripts", "ways", "LMarkScripts$Ways;", true)
  | 3 => ("MarkScripts", "state", "LMarkScripts$State;", true)
  | 4 => ("MarkScripts", "log", "LMarkScripts$Log;", true)
  | 5 => ("MarkScripts", "places", "[LMarkScripts$Log;", true)
  | 6 => ("MarkScripts", "reader", "LMarkScripts$Reader;", true)
  | 7 => ("MarkScripts", "draft", "LMarkScripts$Tree;", true)
  | 8 => ("MarkScripts", "tally", "[I", true)
  | 9 => ("MarkScripts", "latest", "I", false)
  | _ => ("MarkScripts", "told", "I", false)
def tyX8 : Nat → FieldType := fun k => match k with
  | 0 => .array (.object "MarkScripts$Row")
  | 1 => .array (.object "MarkScripts$Text")
  | 2 => .object "MarkScripts$Ways"
  | 3 => .object "MarkScripts$State"
  | 4 => .object "MarkScripts$Log"
  | 5 => .array (.object "MarkScripts$Log")
  | 6 => .object "MarkScripts$Reader"
  | 7 => .object "MarkScripts$Tree"
  | 8 => .array .int
  | 9 => .int
  | _ => .int
abbrev wsX80 : List Cond := u_ws RX8 TX8 11
theorem nmX8 : ∀ a, a < 11 → ∀ b, b < 11 → a ≠ b → (TX8 a).2.1 ≠ (TX8 b).2.1 := by decide +kernel
theorem tyX8_ok : ∀ k, k < 11 → parseFieldDescriptor (TX8 k).2.2.1 = some (tyX8 k) := by decide +kernel
abbrev cX8_init : ByteArray := prog_1_method_1_code
def yX8_init : MethodName := ⟨RX8, "<init>", "()V"⟩
abbrev cX8_row : ByteArray := prog_1_method_2_code
def yX8_row : MethodName := ⟨RX8, "row", "(II)I"⟩
abbrev cX8_lay : ByteArray := prog_1_method_3_code
def yX8_lay : MethodName := ⟨RX8, "lay", "(III)I"⟩
abbrev cX8_at : ByteArray := prog_1_method_4_code
def yX8_at : MethodName := ⟨RX8, "at", "(II)I"⟩
abbrev cX8_tear : ByteArray := prog_1_method_5_code
def yX8_tear : MethodName := ⟨RX8, "tear", "(I)I"⟩
abbrev cX8_copy : ByteArray := prog_1_method_6_code
def yX8_copy : MethodName := ⟨RX8, "copy", "(IIIII)I"⟩
abbrev cX8_mean : ByteArray := prog_1_method_7_code
def yX8_mean : MethodName := ⟨RX8, "mean", "(I)I"⟩
abbrev cX8_text : ByteArray := prog_1_method_8_code
def yX8_text : MethodName := ⟨RX8, "text", "(II)I"⟩
abbrev cX8_put : ByteArray := prog_1_method_9_code
def yX8_put : MethodName := ⟨RX8, "put", "(III)I"⟩
abbrev cX8_fault : ByteArray := prog_1_method_10_code
def yX8_fault : MethodName := ⟨RX8, "fault", "(I)I"⟩
abbrev cX8_document : ByteArray := prog_1_method_11_code
def yX8_document : MethodName := ⟨RX8, "document", "(II)I"⟩
abbrev cX8_write : ByteArray := prog_1_method_12_code
def yX8_write : MethodName := ⟨RX8, "write", "(II)I"⟩
abbrev cX8_node : ByteArray := prog_1_method_13_code
def yX8_node : MethodName := ⟨RX8, "node", "(III)I"⟩
abbrev cX8_mark : ByteArray := prog_1_method_14_code
def yX8_mark : MethodName := ⟨RX8, "mark", "(III)I"⟩
abbrev cX8_least : ByteArray := prog_1_method_15_code
def yX8_least : MethodName := ⟨RX8, "least", "()I"⟩
abbrev cX8_cost : ByteArray := prog_1_method_16_code
def yX8_cost : MethodName := ⟨RX8, "cost", "(II)I"⟩
abbrev cX8_partner : ByteArray := prog_1_method_17_code
def yX8_partner : MethodName := ⟨RX8, "partner", "(II)I"⟩
abbrev cX8_step : ByteArray := prog_1_method_18_code
def yX8_step : MethodName := ⟨RX8, "step", "(II)I"⟩
abbrev cX8_behind : ByteArray := prog_1_method_19_code
def yX8_behind : MethodName := ⟨RX8, "behind", "(II)I"⟩
abbrev cX8_work : ByteArray := prog_1_method_20_code
def yX8_work : MethodName := ⟨RX8, "work", "(I)I"⟩
abbrev cX8_nearest : ByteArray := prog_1_method_21_code
def yX8_nearest : MethodName := ⟨RX8, "nearest", "(II)I"⟩
abbrev cX8_would : ByteArray := prog_1_method_22_code
def yX8_would : MethodName := ⟨RX8, "would", "(III)I"⟩
abbrev cX8_change : ByteArray := prog_1_method_23_code
def yX8_change : MethodName := ⟨RX8, "change", "(III)I"⟩
abbrev cX8_cut : ByteArray := prog_1_method_24_code
def yX8_cut : MethodName := ⟨RX8, "cut", "(II)I"⟩
abbrev cX8_add : ByteArray := prog_1_method_25_code
def yX8_add : MethodName := ⟨RX8, "add", "(IIIII)I"⟩
abbrev cX8_price : ByteArray := prog_1_method_26_code
def yX8_price : MethodName := ⟨RX8, "price", "(II)I"⟩
abbrev cX8_turn : ByteArray := prog_1_method_27_code
def yX8_turn : MethodName := ⟨RX8, "turn", "()I"⟩
abbrev cX8_undo : ByteArray := prog_1_method_28_code
def yX8_undo : MethodName := ⟨RX8, "undo", "(I)I"⟩
abbrev cX8_keep : ByteArray := prog_1_method_29_code
def yX8_keep : MethodName := ⟨RX8, "keep", "(I)I"⟩
abbrev cX8_on : ByteArray := prog_1_method_30_code
def yX8_on : MethodName := ⟨RX8, "on", "(I)I"⟩
abbrev cX8_lots : ByteArray := prog_1_method_31_code
def yX8_lots : MethodName := ⟨RX8, "lots", "(II)I"⟩
abbrev cX8_asked : ByteArray := prog_1_method_32_code
def yX8_asked : MethodName := ⟨RX8, "asked", "()I"⟩
abbrev cX8_count : ByteArray := prog_1_method_33_code
def yX8_count : MethodName := ⟨RX8, "count", "(I)I"⟩
abbrev cX8_finding : ByteArray := prog_1_method_34_code
def yX8_finding : MethodName := ⟨RX8, "finding", "()I"⟩
abbrev cX8_findings : ByteArray := prog_1_method_35_code
def yX8_findings : MethodName := ⟨RX8, "findings", "(I)I"⟩
abbrev cX8_digest : ByteArray := prog_1_method_36_code
def yX8_digest : MethodName := ⟨RX8, "digest", "()J"⟩
abbrev cX8_noRow : ByteArray := prog_1_method_37_code
def yX8_noRow : MethodName := ⟨RX8, "noRow", "(I)Z"⟩
abbrev cX8_noText : ByteArray := prog_1_method_38_code
def yX8_noText : MethodName := ⟨RX8, "noText", "(I)Z"⟩
abbrev cX8_noDocument : ByteArray := prog_1_method_39_code
def yX8_noDocument : MethodName := ⟨RX8, "noDocument", "(I)Z"⟩
abbrev cX8_noPlace : ByteArray := prog_1_method_40_code
def yX8_noPlace : MethodName := ⟨RX8, "noPlace", "(I)Z"⟩
abbrev cX8_noNode : ByteArray := prog_1_method_41_code
def yX8_noNode : MethodName := ⟨RX8, "noNode", "(II)Z"⟩
abbrev cX8_tell : ByteArray := prog_1_method_42_code
def yX8_tell : MethodName := ⟨RX8, "tell", "(I)I"⟩
abbrev cX8_found : ByteArray := prog_1_method_43_code
def yX8_found : MethodName := ⟨RX8, "found", "(I)I"⟩
abbrev cX8_record : ByteArray := prog_1_method_44_code
def yX8_record : MethodName := ⟨RX8, "record", "()V"⟩
abbrev cX8_restore : ByteArray := prog_1_method_45_code
def yX8_restore : MethodName := ⟨RX8, "restore", "()V"⟩
abbrev cX8_exchange : ByteArray := prog_1_method_46_code
def yX8_exchange : MethodName := ⟨RX8, "exchange", "()V"⟩
abbrev cX8_shake : ByteArray := prog_1_method_47_code
def yX8_shake : MethodName := ⟨RX8, "shake", "(I)V"⟩
abbrev cX8_property : ByteArray := prog_1_method_48_code
def yX8_property : MethodName := ⟨RX8, "property", "(LMarkScripts$Tree;II)I"⟩
abbrev cX8_number : ByteArray := prog_1_method_49_code
def yX8_number : MethodName := ⟨RX8, "number", "(I)I"⟩
abbrev cX8_rowsThere : ByteArray := prog_1_method_50_code
def yX8_rowsThere : MethodName := ⟨RX8, "rowsThere", "()I"⟩
abbrev cX8_textsThere : ByteArray := prog_1_method_51_code
def yX8_textsThere : MethodName := ⟨RX8, "textsThere", "()I"⟩
abbrev cX8_placesTaken : ByteArray := prog_1_method_52_code
def yX8_placesTaken : MethodName := ⟨RX8, "placesTaken", "()I"⟩
abbrev cX8_digestOfTree : ByteArray := prog_1_method_53_code
def yX8_digestOfTree : MethodName := ⟨RX8, "digestOfTree", "(JI)J"⟩
abbrev cX8_kindOf : ByteArray := prog_1_method_54_code
def yX8_kindOf : MethodName := ⟨RX8, "kindOf", "(I)I"⟩
abbrev cX8_isOf : ByteArray := prog_1_method_55_code
def yX8_isOf : MethodName := ⟨RX8, "isOf", "(II)Z"⟩
abbrev cX8_weightOf : ByteArray := prog_1_method_56_code
def yX8_weightOf : MethodName := ⟨RX8, "weightOf", "(I)I"⟩
def RX9 : String := "MarkScriptsModel"
def TX9 : u_T := fun k => match k with
  | 0 => ("MarkScriptsModel", "rowSize", "[I", true)
  | 1 => ("MarkScriptsModel", "rows", "[I", true)
  | 2 => ("MarkScriptsModel", "textSize", "[I", true)
  | 3 => ("MarkScriptsModel", "texts", "[I", true)
  | 4 => ("MarkScriptsModel", "st", "[I", true)
  | 5 => ("MarkScriptsModel", "book", "[I", true)
  | 6 => ("MarkScriptsModel", "deeds", "I", false)
  | 7 => ("MarkScriptsModel", "kept", "[I", true)
  | 8 => ("MarkScriptsModel", "isKept", "[Z", true)
  | 9 => ("MarkScriptsModel", "asked", "I", false)
  | 10 => ("MarkScriptsModel", "finding", "I", false)
  | 11 => ("MarkScriptsModel", "findings", "[I", true)
  | 12 => ("MarkScriptsModel", "place", "I", false)
  | 13 => ("MarkScriptsModel", "readMany", "I", false)
  | 14 => ("MarkScriptsModel", "readCode", "[I", true)
  | 15 => ("MarkScriptsModel", "readLeft", "[I", true)
  | 16 => ("MarkScriptsModel", "openCode", "[I", true)
  | 17 => ("MarkScriptsModel", "openLeft", "[I", true)
  | 18 => ("MarkScriptsModel", "written", "[I", true)
  | 19 => ("MarkScriptsModel", "writtenMany", "I", false)
  | 20 => ("MarkScriptsModel", "shown", "[I", true)
  | 21 => ("MarkScriptsModel", "until", "[I", true)
  | 22 => ("MarkScriptsModel", "cutting", "[I", true)
  | 23 => ("MarkScriptsModel", "adding", "[I", true)
  | 24 => ("MarkScriptsModel", "changing", "[I", true)
  | 25 => ("MarkScriptsModel", "costs", "[I", true)
  | 26 => ("MarkScriptsModel", "forest", "[I", true)
  | 27 => ("MarkScriptsModel", "partners", "[I", true)
  | 28 => ("MarkScriptsModel", "others", "[I", true)
  | 29 => ("MarkScriptsModel", "steps", "[I", true)
  | _ => ("MarkScriptsModel", "stepsMany", "I", false)
def tyX9 : Nat → FieldType := fun k => match k with
  | 0 => .array .int
  | 1 => .array .int
  | 2 => .array .int
  | 3 => .array .int
  | 4 => .array .int
  | 5 => .array .int
  | 6 => .int
  | 7 => .array .int
  | 8 => .array .boolean
  | 9 => .int
  | 10 => .int
  | 11 => .array .int
  | 12 => .int
  | 13 => .int
  | 14 => .array .int
  | 15 => .array .int
  | 16 => .array .int
  | 17 => .array .int
  | 18 => .array .int
  | 19 => .int
  | 20 => .array .int
  | 21 => .array .int
  | 22 => .array .int
  | 23 => .array .int
  | 24 => .array .int
  | 25 => .array .int
  | 26 => .array .int
  | 27 => .array .int
  | 28 => .array .int
  | 29 => .array .int
  | _ => .int
abbrev wsX90 : List Cond := u_ws RX9 TX9 31
theorem nmX9 : ∀ a, a < 31 → ∀ b, b < 31 → a ≠ b → (TX9 a).2.1 ≠ (TX9 b).2.1 := by decide +kernel
theorem tyX9_ok : ∀ k, k < 31 → parseFieldDescriptor (TX9 k).2.2.1 = some (tyX9 k) := by decide +kernel
abbrev cX9_init : ByteArray := prog_11_method_1_code
def yX9_init : MethodName := ⟨RX9, "<init>", "()V"⟩
abbrev cX9_in : ByteArray := prog_11_method_3_code
def yX9_in : MethodName := ⟨RX9, "in", "(III)Z"⟩
abbrev cX9_bring : ByteArray := prog_11_method_4_code
def yX9_bring : MethodName := ⟨RX9, "bring", "([II[III)V"⟩
abbrev cX9_found : ByteArray := prog_11_method_5_code
def yX9_found : MethodName := ⟨RX9, "found", "(I)I"⟩
abbrev cX9_tells : ByteArray := prog_11_method_6_code
def yX9_tells : MethodName := ⟨RX9, "tells", "(II)I"⟩
abbrev cX9_isRow : ByteArray := prog_11_method_7_code
def yX9_isRow : MethodName := ⟨RX9, "isRow", "(I)Z"⟩
abbrev cX9_isText : ByteArray := prog_11_method_8_code
def yX9_isText : MethodName := ⟨RX9, "isText", "(I)Z"⟩
abbrev cX9_makesRow : ByteArray := prog_11_method_9_code
def yX9_makesRow : MethodName := ⟨RX9, "makesRow", "(II)V"⟩
abbrev cX9_row : ByteArray := prog_11_method_10_code
def yX9_row : MethodName := ⟨RX9, "row", "(II)I"⟩
abbrev cX9_placeOf : ByteArray := prog_11_method_11_code
def yX9_placeOf : MethodName := ⟨RX9, "placeOf", "(II)I"⟩
abbrev cX9_lay : ByteArray := prog_11_method_12_code
def yX9_lay : MethodName := ⟨RX9, "lay", "(III)I"⟩
abbrev cX9_at : ByteArray := prog_11_method_13_code
def yX9_at : MethodName := ⟨RX9, "at", "(II)I"⟩
abbrev cX9_tear : ByteArray := prog_11_method_14_code
def yX9_tear : MethodName := ⟨RX9, "tear", "(I)I"⟩
abbrev cX9_copy : ByteArray := prog_11_method_15_code
def yX9_copy : MethodName := ⟨RX9, "copy", "(IIIII)I"⟩
abbrev cX9_mean : ByteArray := prog_11_method_16_code
def yX9_mean : MethodName := ⟨RX9, "mean", "(I)I"⟩
abbrev cX9_text : ByteArray := prog_11_method_17_code
def yX9_text : MethodName := ⟨RX9, "text", "(II)I"⟩
abbrev cX9_put : ByteArray := prog_11_method_18_code
def yX9_put : MethodName := ⟨RX9, "put", "(III)I"⟩
abbrev cX9_isDocument : ByteArray := prog_11_method_19_code
def yX9_isDocument : MethodName := ⟨RX9, "isDocument", "(I)Z"⟩
abbrev cX9_many : ByteArray := prog_11_method_20_code
def yX9_many : MethodName := ⟨RX9, "many", "(I)I"⟩
abbrev cX9_isNode : ByteArray := prog_11_method_21_code
def yX9_isNode : MethodName := ⟨RX9, "isNode", "(II)Z"⟩
abbrev cX9_codeOf : ByteArray := prog_11_method_22_code
def yX9_codeOf : MethodName := ⟨RX9, "codeOf", "(II)I"⟩
abbrev cX9_leftOf : ByteArray := prog_11_method_23_code
def yX9_leftOf : MethodName := ⟨RX9, "leftOf", "(II)I"⟩
abbrev cX9_isMark : ByteArray := prog_11_method_24_code
def yX9_isMark : MethodName := ⟨RX9, "isMark", "(I)Z"⟩
abbrev cX9_kindOf : ByteArray := prog_11_method_25_code
def yX9_kindOf : MethodName := ⟨RX9, "kindOf", "(I)I"⟩
abbrev cX9_isA : ByteArray := prog_11_method_26_code
def yX9_isA : MethodName := ⟨RX9, "isA", "(II)Z"⟩
abbrev cX9_here : ByteArray := prog_11_method_27_code
def yX9_here : MethodName := ⟨RX9, "here", "(I)I"⟩
abbrev cX9_closes : ByteArray := prog_11_method_28_code
def yX9_closes : MethodName := ⟨RX9, "closes", "(II)V"⟩
abbrev cX9_reading : ByteArray := prog_11_method_29_code
def yX9_reading : MethodName := ⟨RX9, "reading", "(I)I"⟩
abbrev cX9_fault : ByteArray := prog_11_method_30_code
def yX9_fault : MethodName := ⟨RX9, "fault", "(I)I"⟩
abbrev cX9_document : ByteArray := prog_11_method_31_code
def yX9_document : MethodName := ⟨RX9, "document", "(II)I"⟩
abbrev cX9_writes : ByteArray := prog_11_method_32_code
def yX9_writes : MethodName := ⟨RX9, "writes", "(I)V"⟩
abbrev cX9_has : ByteArray := prog_11_method_33_code
def yX9_has : MethodName := ⟨RX9, "has", "(II)Z"⟩
abbrev cX9_firstFrom : ByteArray := prog_11_method_34_code
def yX9_firstFrom : MethodName := ⟨RX9, "firstFrom", "(IIII)I"⟩
abbrev cX9_writesAll : ByteArray := prog_11_method_35_code
def yX9_writesAll : MethodName := ⟨RX9, "writesAll", "(II)V"⟩
abbrev cX9_beneath : ByteArray := prog_11_method_36_code
def yX9_beneath : MethodName := ⟨RX9, "beneath", "(III)I"⟩
abbrev cX9_toText : ByteArray := prog_11_method_37_code
def yX9_toText : MethodName := ⟨RX9, "toText", "(I)I"⟩
abbrev cX9_write : ByteArray := prog_11_method_38_code
def yX9_write : MethodName := ⟨RX9, "write", "(II)I"⟩
abbrev cX9_above : ByteArray := prog_11_method_39_code
def yX9_above : MethodName := ⟨RX9, "above", "(II)I"⟩
abbrev cX9_rightBeneath : ByteArray := prog_11_method_40_code
def yX9_rightBeneath : MethodName := ⟨RX9, "rightBeneath", "(II)I"⟩
abbrev cX9_isKey : ByteArray := prog_11_method_41_code
def yX9_isKey : MethodName := ⟨RX9, "isKey", "(III)Z"⟩
abbrev cX9_weight : ByteArray := prog_11_method_42_code
def yX9_weight : MethodName := ⟨RX9, "weight", "(I)I"⟩
abbrev cX9_node : ByteArray := prog_11_method_43_code
def yX9_node : MethodName := ⟨RX9, "node", "(III)I"⟩
abbrev cX9_headsBeneath : ByteArray := prog_11_method_44_code
def yX9_headsBeneath : MethodName := ⟨RX9, "headsBeneath", "(II)I"⟩
abbrev cX9_alikeIn : ByteArray := prog_11_method_45_code
def yX9_alikeIn : MethodName := ⟨RX9, "alikeIn", "(II)I"⟩
abbrev cX9_deepOf : ByteArray := prog_11_method_46_code
def yX9_deepOf : MethodName := ⟨RX9, "deepOf", "(II)I"⟩
abbrev cX9_mark : ByteArray := prog_11_method_47_code
def yX9_mark : MethodName := ⟨RX9, "mark", "(III)I"⟩
abbrev cX9_changeOf : ByteArray := prog_11_method_48_code
def yX9_changeOf : MethodName := ⟨RX9, "changeOf", "(II)I"⟩
abbrev cX9_laysPrices : ByteArray := prog_11_method_49_code
def yX9_laysPrices : MethodName := ⟨RX9, "laysPrices", "()V"⟩
abbrev cX9_lesser : ByteArray := prog_11_method_50_code
def yX9_lesser : MethodName := ⟨RX9, "lesser", "(II)I"⟩
abbrev cX9_laysForest : ByteArray := prog_11_method_51_code
def yX9_laysForest : MethodName := ⟨RX9, "laysForest", "(II)V"⟩
abbrev cX9_laysCosts : ByteArray := prog_11_method_52_code
def yX9_laysCosts : MethodName := ⟨RX9, "laysCosts", "()I"⟩
abbrev cX9_areBoth : ByteArray := prog_11_method_53_code
def yX9_areBoth : MethodName := ⟨RX9, "areBoth", "()Z"⟩
abbrev cX9_leastOf : ByteArray := prog_11_method_54_code
def yX9_leastOf : MethodName := ⟨RX9, "leastOf", "()I"⟩
abbrev cX9_least : ByteArray := prog_11_method_55_code
def yX9_least : MethodName := ⟨RX9, "least", "()I"⟩
abbrev cX9_cost : ByteArray := prog_11_method_56_code
def yX9_cost : MethodName := ⟨RX9, "cost", "(II)I"⟩
abbrev cX9_shuts : ByteArray := prog_11_method_57_code
def yX9_shuts : MethodName := ⟨RX9, "shuts", "(II)V"⟩
abbrev cX9_laysKnown : ByteArray := prog_11_method_58_code
def yX9_laysKnown : MethodName := ⟨RX9, "laysKnown", "(I)V"⟩
abbrev cX9_laysWay : ByteArray := prog_11_method_59_code
def yX9_laysWay : MethodName := ⟨RX9, "laysWay", "()V"⟩
abbrev cX9_partner : ByteArray := prog_11_method_60_code
def yX9_partner : MethodName := ⟨RX9, "partner", "(II)I"⟩
abbrev cX9_steps : ByteArray := prog_11_method_61_code
def yX9_steps : MethodName := ⟨RX9, "steps", "(III)V"⟩
abbrev cX9_laysSteps : ByteArray := prog_11_method_62_code
def yX9_laysSteps : MethodName := ⟨RX9, "laysSteps", "()V"⟩
abbrev cX9_step : ByteArray := prog_11_method_63_code
def yX9_step : MethodName := ⟨RX9, "step", "(II)I"⟩
abbrev cX9_behind : ByteArray := prog_11_method_64_code
def yX9_behind : MethodName := ⟨RX9, "behind", "(II)I"⟩
abbrev cX9_keys : ByteArray := prog_11_method_65_code
def yX9_keys : MethodName := ⟨RX9, "keys", "(II)I"⟩
abbrev cX9_keySizes : ByteArray := prog_11_method_66_code
def yX9_keySizes : MethodName := ⟨RX9, "keySizes", "(II)I"⟩
abbrev cX9_work : ByteArray := prog_11_method_67_code
def yX9_work : MethodName := ⟨RX9, "work", "(I)I"⟩
abbrev cX9_nearest : ByteArray := prog_11_method_68_code
def yX9_nearest : MethodName := ⟨RX9, "nearest", "(II)I"⟩
abbrev cX9_would : ByteArray := prog_11_method_69_code
def yX9_would : MethodName := ⟨RX9, "would", "(III)I"⟩
abbrev cX9_notes : ByteArray := prog_11_method_70_code
def yX9_notes : MethodName := ⟨RX9, "notes", "()V"⟩
abbrev cX9_change : ByteArray := prog_11_method_71_code
def yX9_change : MethodName := ⟨RX9, "change", "(III)I"⟩
abbrev cX9_mayCut : ByteArray := prog_11_method_72_code
def yX9_mayCut : MethodName := ⟨RX9, "mayCut", "(II)Z"⟩
abbrev cX9_cuts : ByteArray := prog_11_method_73_code
def yX9_cuts : MethodName := ⟨RX9, "cuts", "(II)V"⟩
abbrev cX9_cut : ByteArray := prog_11_method_74_code
def yX9_cut : MethodName := ⟨RX9, "cut", "(II)I"⟩
abbrev cX9_childOf : ByteArray := prog_11_method_75_code
def yX9_childOf : MethodName := ⟨RX9, "childOf", "(III)I"⟩
abbrev cX9_isBeneath : ByteArray := prog_11_method_76_code
def yX9_isBeneath : MethodName := ⟨RX9, "isBeneath", "(III)Z"⟩
abbrev cX9_adds : ByteArray := prog_11_method_77_code
def yX9_adds : MethodName := ⟨RX9, "adds", "(IIIII)I"⟩
abbrev cX9_add : ByteArray := prog_11_method_78_code
def yX9_add : MethodName := ⟨RX9, "add", "(IIIII)I"⟩
abbrev cX9_price : ByteArray := prog_11_method_79_code
def yX9_price : MethodName := ⟨RX9, "price", "(II)I"⟩
abbrev cX9_turns : ByteArray := prog_11_method_80_code
def yX9_turns : MethodName := ⟨RX9, "turns", "()V"⟩
abbrev cX9_turn : ByteArray := prog_11_method_81_code
def yX9_turn : MethodName := ⟨RX9, "turn", "()I"⟩
abbrev cX9_undo : ByteArray := prog_11_method_82_code
def yX9_undo : MethodName := ⟨RX9, "undo", "(I)I"⟩
abbrev cX9_keep : ByteArray := prog_11_method_83_code
def yX9_keep : MethodName := ⟨RX9, "keep", "(I)I"⟩
abbrev cX9_on : ByteArray := prog_11_method_84_code
def yX9_on : MethodName := ⟨RX9, "on", "(I)I"⟩
abbrev cX9_does : ByteArray := prog_11_method_85_code
def yX9_does : MethodName := ⟨RX9, "does", "(I)V"⟩
abbrev cX9_lots : ByteArray := prog_11_method_86_code
def yX9_lots : MethodName := ⟨RX9, "lots", "(II)I"⟩
abbrev cX9_asked : ByteArray := prog_11_method_87_code
def yX9_asked : MethodName := ⟨RX9, "asked", "()I"⟩
abbrev cX9_there : ByteArray := prog_11_method_88_code
def yX9_there : MethodName := ⟨RX9, "there", "([I)I"⟩
abbrev cX9_pairs : ByteArray := prog_11_method_89_code
def yX9_pairs : MethodName := ⟨RX9, "pairs", "()I"⟩
abbrev cX9_stepsOf : ByteArray := prog_11_method_90_code
def yX9_stepsOf : MethodName := ⟨RX9, "stepsOf", "()I"⟩
abbrev cX9_keptMany : ByteArray := prog_11_method_91_code
def yX9_keptMany : MethodName := ⟨RX9, "keptMany", "()I"⟩
abbrev cX9_count : ByteArray := prog_11_method_92_code
def yX9_count : MethodName := ⟨RX9, "count", "(I)I"⟩
abbrev cX9_finding : ByteArray := prog_11_method_93_code
def yX9_finding : MethodName := ⟨RX9, "finding", "()I"⟩
abbrev cX9_findings : ByteArray := prog_11_method_94_code
def yX9_findings : MethodName := ⟨RX9, "findings", "(I)I"⟩
abbrev cX9_partnerTold : ByteArray := prog_11_method_95_code
def yX9_partnerTold : MethodName := ⟨RX9, "partnerTold", "(II)I"⟩
abbrev cX9_digest : ByteArray := prog_11_method_96_code
def yX9_digest : MethodName := ⟨RX9, "digest", "()J"⟩
def RJ9 : String := "java/lang/Math"
def TJ9 : u_T := fun k => match k with
  | _ => ("", "", "", false)
def tyJ9 : Nat → FieldType := fun k => match k with
  | _ => .int
abbrev wsJ90 : List Cond := u_ws RJ9 TJ9 0
theorem nmJ9 : ∀ a, a < 0 → ∀ b, b < 0 → a ≠ b → (TJ9 a).2.1 ≠ (TJ9 b).2.1 := by decide +kernel
theorem tyJ9_ok : ∀ k, k < 0 → parseFieldDescriptor (TJ9 k).2.2.1 = some (tyJ9 k) := by decide +kernel
abbrev cJ9_abs_0f7a4 : ByteArray := prog_12_method_59_code
def yJ9_abs_0f7a4 : MethodName := ⟨RJ9, "abs", "(I)I"⟩
abbrev cJ9_min_7cf53 : ByteArray := prog_12_method_69_code
def yJ9_min_7cf53 : MethodName := ⟨RJ9, "min", "(II)I"⟩
def RJ10 : String := "java/lang/System"
def TJ10 : u_T := fun k => match k with
  | _ => ("", "", "", false)
def tyJ10 : Nat → FieldType := fun k => match k with
  | _ => .int
abbrev wsJ100 : List Cond := u_ws RJ10 TJ10 0
theorem nmJ10 : ∀ a, a < 0 → ∀ b, b < 0 → a ≠ b → (TJ10 a).2.1 ≠ (TJ10 b).2.1 := by decide +kernel
theorem tyJ10_ok : ∀ k, k < 0 → parseFieldDescriptor (TJ10 k).2.2.1 = some (tyJ10 k) := by decide +kernel
def RL : String := "MarkScriptsLaw"
abbrev cL_law : ByteArray := code
def yL_law : MethodName := ⟨RL, "law", "([I)Z"⟩
abbrev vwCl : List vw_C := [(RX0, TX0, 2), (RX1, TX1, 6), (RX2, TX2, 2), (RX3, TX3, 3), (RX4, TX4, 4), (RX5, TX5, 2), (RX6, TX6, 3), (RX7, TX7, 14), (RX8, TX8, 11), (RX9, TX9, 31)]
/-! ===== END printed: names ===== -/

def wsL_law : List Cond := lw_tbl.filter goodWord
