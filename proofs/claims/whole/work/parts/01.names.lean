-- ===== PART A: goes FIRST, ahead of the names: the tables' words, and 'selects' of the private methods out of them =====
/-- a private method of a class that the tables say can be made, by its rows of tables_1 -/
def lw_okq (q : MethodName × Nat) : Prop := (q.1.cls ≠ "java/lang/invoke/MethodHandle" ∧ q.1.cls ≠ "java/lang/invoke/VarHandle") ∧ Cond.instantiable q.1.cls q.2 ∈ tables_1 ∧ Cond.privateMethod q.1 ∈ tables_1 ∧ Cond.instanceMethod q.1 ∈ tables_1
theorem lw_p0 : lw_okq (⟨"RadixPages$Node", "reset", "()V"⟩, 13) := ⟨⟨by decide +kernel, by decide +kernel⟩, List.mem_of_getElem? (i := 53) (by decide +kernel), List.mem_of_getElem? (i := 59) (by decide +kernel), List.mem_of_getElem? (i := 60) (by decide +kernel)⟩
theorem lw_p1 : lw_okq (⟨"RadixPages$Tree", "storeFirst", "(LRadixPages$Tape;J)I"⟩, 8) := ⟨⟨by decide +kernel, by decide +kernel⟩, List.mem_of_getElem? (i := 46) (by decide +kernel), List.mem_of_getElem? (i := 262) (by decide +kernel), List.mem_of_getElem? (i := 263) (by decide +kernel)⟩
theorem lw_p2 : lw_okq (⟨"RadixPages$Node", "setPrefixAt", "(II)V"⟩, 13) := ⟨⟨by decide +kernel, by decide +kernel⟩, List.mem_of_getElem? (i := 53) (by decide +kernel), List.mem_of_getElem? (i := 271) (by decide +kernel), List.mem_of_getElem? (i := 272) (by decide +kernel)⟩
theorem lw_p3 : lw_okq (⟨"RadixPages$Tree", "storeHere", "(J)I"⟩, 8) := ⟨⟨by decide +kernel, by decide +kernel⟩, List.mem_of_getElem? (i := 46) (by decide +kernel), List.mem_of_getElem? (i := 275) (by decide +kernel), List.mem_of_getElem? (i := 276) (by decide +kernel)⟩
theorem lw_p4 : lw_okq (⟨"RadixPages$Tree", "seek", "(LRadixPages$Tape;)V"⟩, 8) := ⟨⟨by decide +kernel, by decide +kernel⟩, List.mem_of_getElem? (i := 46) (by decide +kernel), List.mem_of_getElem? (i := 287) (by decide +kernel), List.mem_of_getElem? (i := 288) (by decide +kernel)⟩
theorem lw_p5 : lw_okq (⟨"RadixPages$Tree", "stepFrom", "(LRadixPages$Node;LRadixPages$Tape;)LRadixPages$Node;"⟩, 8) := ⟨⟨by decide +kernel, by decide +kernel⟩, List.mem_of_getElem? (i := 46) (by decide +kernel), List.mem_of_getElem? (i := 300) (by decide +kernel), List.mem_of_getElem? (i := 301) (by decide +kernel)⟩
theorem lw_p6 : lw_okq (⟨"RadixPages$Tree", "storeByCut", "(LRadixPages$Tape;J)I"⟩, 8) := ⟨⟨by decide +kernel, by decide +kernel⟩, List.mem_of_getElem? (i := 46) (by decide +kernel), List.mem_of_getElem? (i := 312) (by decide +kernel), List.mem_of_getElem? (i := 313) (by decide +kernel)⟩
theorem lw_p7 : lw_okq (⟨"RadixPages$Tree", "insertAbove", "(LRadixPages$Node;LRadixPages$Node;)V"⟩, 8) := ⟨⟨by decide +kernel, by decide +kernel⟩, List.mem_of_getElem? (i := 46) (by decide +kernel), List.mem_of_getElem? (i := 320) (by decide +kernel), List.mem_of_getElem? (i := 321) (by decide +kernel)⟩
theorem lw_p8 : lw_okq (⟨"RadixPages$Tree", "putInPlace", "(LRadixPages$Node;LRadixPages$Node;)V"⟩, 8) := ⟨⟨by decide +kernel, by decide +kernel⟩, List.mem_of_getElem? (i := 46) (by decide +kernel), List.mem_of_getElem? (i := 325) (by decide +kernel), List.mem_of_getElem? (i := 326) (by decide +kernel)⟩
theorem lw_p9 : lw_okq (⟨"RadixPages$Node", "lastBelow", "(I)LRadixPages$Node;"⟩, 13) := ⟨⟨by decide +kernel, by decide +kernel⟩, List.mem_of_getElem? (i := 53) (by decide +kernel), List.mem_of_getElem? (i := 333) (by decide +kernel), List.mem_of_getElem? (i := 334) (by decide +kernel)⟩
theorem lw_p10 : lw_okq (⟨"RadixPages$Node", "setNextOf", "(LRadixPages$Node;LRadixPages$Node;)V"⟩, 13) := ⟨⟨by decide +kernel, by decide +kernel⟩, List.mem_of_getElem? (i := 53) (by decide +kernel), List.mem_of_getElem? (i := 337) (by decide +kernel), List.mem_of_getElem? (i := 338) (by decide +kernel)⟩
theorem lw_p11 : lw_okq (⟨"RadixPages$Tree", "hang", "(LRadixPages$Node;LRadixPages$Node;LRadixPages$Tape;J)V"⟩, 8) := ⟨⟨by decide +kernel, by decide +kernel⟩, List.mem_of_getElem? (i := 46) (by decide +kernel), List.mem_of_getElem? (i := 360) (by decide +kernel), List.mem_of_getElem? (i := 361) (by decide +kernel)⟩
theorem lw_p12 : lw_okq (⟨"RadixPages$Tree", "storeByChild", "(LRadixPages$Tape;J)I"⟩, 8) := ⟨⟨by decide +kernel, by decide +kernel⟩, List.mem_of_getElem? (i := 46) (by decide +kernel), List.mem_of_getElem? (i := 364) (by decide +kernel), List.mem_of_getElem? (i := 365) (by decide +kernel)⟩
theorem lw_p13 : lw_okq (⟨"RadixPages$Tree", "join", "(LRadixPages$Node;)V"⟩, 8) := ⟨⟨by decide +kernel, by decide +kernel⟩, List.mem_of_getElem? (i := 46) (by decide +kernel), List.mem_of_getElem? (i := 384) (by decide +kernel), List.mem_of_getElem? (i := 385) (by decide +kernel)⟩
theorem lw_p14 : lw_okq (⟨"RadixPages$Tree", "release", "(LRadixPages$Node;)V"⟩, 8) := ⟨⟨by decide +kernel, by decide +kernel⟩, List.mem_of_getElem? (i := 46) (by decide +kernel), List.mem_of_getElem? (i := 395) (by decide +kernel), List.mem_of_getElem? (i := 396) (by decide +kernel)⟩
theorem lw_p15 : lw_okq (⟨"RadixPages$Tree", "detach", "(LRadixPages$Node;LRadixPages$Node;)V"⟩, 8) := ⟨⟨by decide +kernel, by decide +kernel⟩, List.mem_of_getElem? (i := 46) (by decide +kernel), List.mem_of_getElem? (i := 399) (by decide +kernel), List.mem_of_getElem? (i := 400) (by decide +kernel)⟩
def lw_privs_1 : List (MethodName × Nat) := [(⟨"RadixPages$Node", "reset", "()V"⟩, 13), (⟨"RadixPages$Tree", "storeFirst", "(LRadixPages$Tape;J)I"⟩, 8), (⟨"RadixPages$Node", "setPrefixAt", "(II)V"⟩, 13), (⟨"RadixPages$Tree", "storeHere", "(J)I"⟩, 8), (⟨"RadixPages$Tree", "seek", "(LRadixPages$Tape;)V"⟩, 8), (⟨"RadixPages$Tree", "stepFrom", "(LRadixPages$Node;LRadixPages$Tape;)LRadixPages$Node;"⟩, 8), (⟨"RadixPages$Tree", "storeByCut", "(LRadixPages$Tape;J)I"⟩, 8), (⟨"RadixPages$Tree", "insertAbove", "(LRadixPages$Node;LRadixPages$Node;)V"⟩, 8), (⟨"RadixPages$Tree", "putInPlace", "(LRadixPages$Node;LRadixPages$Node;)V"⟩, 8), (⟨"RadixPages$Node", "lastBelow", "(I)LRadixPages$Node;"⟩, 13), (⟨"RadixPages$Node", "setNextOf", "(LRadixPages$Node;LRadixPages$Node;)V"⟩, 13), (⟨"RadixPages$Tree", "hang", "(LRadixPages$Node;LRadixPages$Node;LRadixPages$Tape;J)V"⟩, 8), (⟨"RadixPages$Tree", "storeByChild", "(LRadixPages$Tape;J)I"⟩, 8), (⟨"RadixPages$Tree", "join", "(LRadixPages$Node;)V"⟩, 8), (⟨"RadixPages$Tree", "release", "(LRadixPages$Node;)V"⟩, 8), (⟨"RadixPages$Tree", "detach", "(LRadixPages$Node;LRadixPages$Node;)V"⟩, 8)]
theorem lw_r1 : ∀ q ∈ lw_privs_1, lw_okq q := List.forall_mem_cons.mpr ⟨lw_p0, List.forall_mem_cons.mpr ⟨lw_p1, List.forall_mem_cons.mpr ⟨lw_p2, List.forall_mem_cons.mpr ⟨lw_p3, List.forall_mem_cons.mpr ⟨lw_p4, List.forall_mem_cons.mpr ⟨lw_p5, List.forall_mem_cons.mpr ⟨lw_p6, List.forall_mem_cons.mpr ⟨lw_p7, List.forall_mem_cons.mpr ⟨lw_p8, List.forall_mem_cons.mpr ⟨lw_p9, List.forall_mem_cons.mpr ⟨lw_p10, List.forall_mem_cons.mpr ⟨lw_p11, List.forall_mem_cons.mpr ⟨lw_p12, List.forall_mem_cons.mpr ⟨lw_p13, List.forall_mem_cons.mpr ⟨lw_p14, List.forall_mem_cons.mpr ⟨lw_p15, fun _ h => absurd h List.not_mem_nil⟩⟩⟩⟩⟩⟩⟩⟩⟩⟩⟩⟩⟩⟩⟩⟩
theorem lw_p16 : lw_okq (⟨"RadixPages$Tree", "firstNotAhead", "(LRadixPages$Tape;)LRadixPages$Node;"⟩, 8) := ⟨⟨by decide +kernel, by decide +kernel⟩, List.mem_of_getElem? (i := 46) (by decide +kernel), List.mem_of_getElem? (i := 445) (by decide +kernel), List.mem_of_getElem? (i := 446) (by decide +kernel)⟩
theorem lw_p17 : lw_okq (⟨"RadixPages", "freePages", "()I"⟩, 6) := ⟨⟨by decide +kernel, by decide +kernel⟩, List.mem_of_getElem? (i := 21) (by decide +kernel), List.mem_of_getElem? (i := 478) (by decide +kernel), List.mem_of_getElem? (i := 479) (by decide +kernel)⟩
theorem lw_p18 : lw_okq (⟨"RadixPages$Store", "markPagesOf", "(LRadixPages$Tree;)V"⟩, 4) := ⟨⟨by decide +kernel, by decide +kernel⟩, List.mem_of_getElem? (i := 172) (by decide +kernel), List.mem_of_getElem? (i := 490) (by decide +kernel), List.mem_of_getElem? (i := 491) (by decide +kernel)⟩
theorem lw_p19 : lw_okq (⟨"RadixPages$Store", "freeAllPages", "()V"⟩, 4) := ⟨⟨by decide +kernel, by decide +kernel⟩, List.mem_of_getElem? (i := 172) (by decide +kernel), List.mem_of_getElem? (i := 494) (by decide +kernel), List.mem_of_getElem? (i := 495) (by decide +kernel)⟩
theorem lw_p20 : lw_okq (⟨"RadixPages$Store", "takePage", "(I)Z"⟩, 4) := ⟨⟨by decide +kernel, by decide +kernel⟩, List.mem_of_getElem? (i := 172) (by decide +kernel), List.mem_of_getElem? (i := 498) (by decide +kernel), List.mem_of_getElem? (i := 499) (by decide +kernel)⟩
theorem lw_p21 : lw_okq (⟨"RadixPages$Store", "saveNode", "(LRadixPages$Node;)Z"⟩, 4) := ⟨⟨by decide +kernel, by decide +kernel⟩, List.mem_of_getElem? (i := 172) (by decide +kernel), List.mem_of_getElem? (i := 507) (by decide +kernel), List.mem_of_getElem? (i := 508) (by decide +kernel)⟩
theorem lw_p22 : lw_okq (⟨"RadixPages$Store", "takeLeastPage", "()I"⟩, 4) := ⟨⟨by decide +kernel, by decide +kernel⟩, List.mem_of_getElem? (i := 172) (by decide +kernel), List.mem_of_getElem? (i := 511) (by decide +kernel), List.mem_of_getElem? (i := 512) (by decide +kernel)⟩
theorem lw_p23 : lw_okq (⟨"RadixPages$Store", "rightSequence", "(I)I"⟩, 4) := ⟨⟨by decide +kernel, by decide +kernel⟩, List.mem_of_getElem? (i := 172) (by decide +kernel), List.mem_of_getElem? (i := 628) (by decide +kernel), List.mem_of_getElem? (i := 629) (by decide +kernel)⟩
theorem lw_p24 : lw_okq (⟨"RadixPages$Store", "loadBy", "(ILRadixPages$Tree;)Z"⟩, 4) := ⟨⟨by decide +kernel, by decide +kernel⟩, List.mem_of_getElem? (i := 172) (by decide +kernel), List.mem_of_getElem? (i := 661) (by decide +kernel), List.mem_of_getElem? (i := 662) (by decide +kernel)⟩
theorem lw_p25 : lw_okq (⟨"RadixPages$Store", "loadNode", "(LRadixPages$Node;LRadixPages$Tree;)Z"⟩, 4) := ⟨⟨by decide +kernel, by decide +kernel⟩, List.mem_of_getElem? (i := 172) (by decide +kernel), List.mem_of_getElem? (i := 666) (by decide +kernel), List.mem_of_getElem? (i := 667) (by decide +kernel)⟩
theorem lw_p26 : lw_okq (⟨"RadixPages$Store", "hangListed", "(LRadixPages$Node;LRadixPages$Tree;I)Z"⟩, 4) := ⟨⟨by decide +kernel, by decide +kernel⟩, List.mem_of_getElem? (i := 172) (by decide +kernel), List.mem_of_getElem? (i := 679) (by decide +kernel), List.mem_of_getElem? (i := 680) (by decide +kernel)⟩
theorem lw_p27 : lw_okq (⟨"RadixPages$Store", "hangBehind", "(LRadixPages$Node;LRadixPages$Node;LRadixPages$Node;II)Z"⟩, 4) := ⟨⟨by decide +kernel, by decide +kernel⟩, List.mem_of_getElem? (i := 172) (by decide +kernel), List.mem_of_getElem? (i := 684) (by decide +kernel), List.mem_of_getElem? (i := 685) (by decide +kernel)⟩
theorem lw_p28 : lw_okq (⟨"RadixPages$Store", "hangMapped", "(LRadixPages$Node;LRadixPages$Tree;)Z"⟩, 4) := ⟨⟨by decide +kernel, by decide +kernel⟩, List.mem_of_getElem? (i := 172) (by decide +kernel), List.mem_of_getElem? (i := 689) (by decide +kernel), List.mem_of_getElem? (i := 690) (by decide +kernel)⟩
theorem lw_p29 : lw_okq (⟨"java/lang/Throwable", "fillInStackTrace", "(I)Ljava/lang/Throwable;"⟩, 6) := ⟨⟨by decide +kernel, by decide +kernel⟩, List.mem_of_getElem? (i := 750) (by decide +kernel), List.mem_of_getElem? (i := 748) (by decide +kernel), List.mem_of_getElem? (i := 749) (by decide +kernel)⟩
theorem lw_p30 : lw_okq (⟨"RadixPagesModel", "clear", "()V"⟩, 27) := ⟨⟨by decide +kernel, by decide +kernel⟩, List.mem_of_getElem? (i := 845) (by decide +kernel), List.mem_of_getElem? (i := 852) (by decide +kernel), List.mem_of_getElem? (i := 853) (by decide +kernel)⟩
theorem lw_p31 : lw_okq (⟨"RadixPagesModel", "newNode", "(II)I"⟩, 27) := ⟨⟨by decide +kernel, by decide +kernel⟩, List.mem_of_getElem? (i := 845) (by decide +kernel), List.mem_of_getElem? (i := 856) (by decide +kernel), List.mem_of_getElem? (i := 857) (by decide +kernel)⟩
def lw_privs_2 : List (MethodName × Nat) := [(⟨"RadixPages$Tree", "firstNotAhead", "(LRadixPages$Tape;)LRadixPages$Node;"⟩, 8), (⟨"RadixPages", "freePages", "()I"⟩, 6), (⟨"RadixPages$Store", "markPagesOf", "(LRadixPages$Tree;)V"⟩, 4), (⟨"RadixPages$Store", "freeAllPages", "()V"⟩, 4), (⟨"RadixPages$Store", "takePage", "(I)Z"⟩, 4), (⟨"RadixPages$Store", "saveNode", "(LRadixPages$Node;)Z"⟩, 4), (⟨"RadixPages$Store", "takeLeastPage", "()I"⟩, 4), (⟨"RadixPages$Store", "rightSequence", "(I)I"⟩, 4), (⟨"RadixPages$Store", "loadBy", "(ILRadixPages$Tree;)Z"⟩, 4), (⟨"RadixPages$Store", "loadNode", "(LRadixPages$Node;LRadixPages$Tree;)Z"⟩, 4), (⟨"RadixPages$Store", "hangListed", "(LRadixPages$Node;LRadixPages$Tree;I)Z"⟩, 4), (⟨"RadixPages$Store", "hangBehind", "(LRadixPages$Node;LRadixPages$Node;LRadixPages$Node;II)Z"⟩, 4), (⟨"RadixPages$Store", "hangMapped", "(LRadixPages$Node;LRadixPages$Tree;)Z"⟩, 4), (⟨"java/lang/Throwable", "fillInStackTrace", "(I)Ljava/lang/Throwable;"⟩, 6), (⟨"RadixPagesModel", "clear", "()V"⟩, 27), (⟨"RadixPagesModel", "newNode", "(II)I"⟩, 27)]
theorem lw_r2 : ∀ q ∈ lw_privs_2, lw_okq q := List.forall_mem_cons.mpr ⟨lw_p16, List.forall_mem_cons.mpr ⟨lw_p17, List.forall_mem_cons.mpr ⟨lw_p18, List.forall_mem_cons.mpr ⟨lw_p19, List.forall_mem_cons.mpr ⟨lw_p20, List.forall_mem_cons.mpr ⟨lw_p21, List.forall_mem_cons.mpr ⟨lw_p22, List.forall_mem_cons.mpr ⟨lw_p23, List.forall_mem_cons.mpr ⟨lw_p24, List.forall_mem_cons.mpr ⟨lw_p25, List.forall_mem_cons.mpr ⟨lw_p26, List.forall_mem_cons.mpr ⟨lw_p27, List.forall_mem_cons.mpr ⟨lw_p28, List.forall_mem_cons.mpr ⟨lw_p29, List.forall_mem_cons.mpr ⟨lw_p30, List.forall_mem_cons.mpr ⟨lw_p31, fun _ h => absurd h List.not_mem_nil⟩⟩⟩⟩⟩⟩⟩⟩⟩⟩⟩⟩⟩⟩⟩⟩
theorem lw_p32 : lw_okq (⟨"RadixPagesModel", "keep", "()V"⟩, 27) := ⟨⟨by decide +kernel, by decide +kernel⟩, List.mem_of_getElem? (i := 845) (by decide +kernel), List.mem_of_getElem? (i := 860) (by decide +kernel), List.mem_of_getElem? (i := 861) (by decide +kernel)⟩
theorem lw_p33 : lw_okq (⟨"RadixPagesModel", "copy", "(II)V"⟩, 27) := ⟨⟨by decide +kernel, by decide +kernel⟩, List.mem_of_getElem? (i := 845) (by decide +kernel), List.mem_of_getElem? (i := 864) (by decide +kernel), List.mem_of_getElem? (i := 865) (by decide +kernel)⟩
theorem lw_p34 : lw_okq (⟨"RadixPagesModel", "isKey", "()Z"⟩, 27) := ⟨⟨by decide +kernel, by decide +kernel⟩, List.mem_of_getElem? (i := 845) (by decide +kernel), List.mem_of_getElem? (i := 976) (by decide +kernel), List.mem_of_getElem? (i := 977) (by decide +kernel)⟩
theorem lw_p35 : lw_okq (⟨"RadixPagesModel", "isFound", "()Z"⟩, 27) := ⟨⟨by decide +kernel, by decide +kernel⟩, List.mem_of_getElem? (i := 845) (by decide +kernel), List.mem_of_getElem? (i := 981) (by decide +kernel), List.mem_of_getElem? (i := 982) (by decide +kernel)⟩
theorem lw_p36 : lw_okq (⟨"RadixPagesModel", "seek", "()V"⟩, 27) := ⟨⟨by decide +kernel, by decide +kernel⟩, List.mem_of_getElem? (i := 845) (by decide +kernel), List.mem_of_getElem? (i := 985) (by decide +kernel), List.mem_of_getElem? (i := 986) (by decide +kernel)⟩
theorem lw_p37 : lw_okq (⟨"RadixPagesModel", "child", "(II)I"⟩, 27) := ⟨⟨by decide +kernel, by decide +kernel⟩, List.mem_of_getElem? (i := 845) (by decide +kernel), List.mem_of_getElem? (i := 989) (by decide +kernel), List.mem_of_getElem? (i := 990) (by decide +kernel)⟩
theorem lw_p38 : lw_okq (⟨"RadixPagesModel", "childFrom", "(II)I"⟩, 27) := ⟨⟨by decide +kernel, by decide +kernel⟩, List.mem_of_getElem? (i := 845) (by decide +kernel), List.mem_of_getElem? (i := 993) (by decide +kernel), List.mem_of_getElem? (i := 994) (by decide +kernel)⟩
theorem lw_p39 : lw_okq (⟨"RadixPagesModel", "freshen", "(I)V"⟩, 27) := ⟨⟨by decide +kernel, by decide +kernel⟩, List.mem_of_getElem? (i := 845) (by decide +kernel), List.mem_of_getElem? (i := 997) (by decide +kernel), List.mem_of_getElem? (i := 998) (by decide +kernel)⟩
theorem lw_p40 : lw_okq (⟨"RadixPagesModel", "children", "(I)I"⟩, 27) := ⟨⟨by decide +kernel, by decide +kernel⟩, List.mem_of_getElem? (i := 845) (by decide +kernel), List.mem_of_getElem? (i := 1001) (by decide +kernel), List.mem_of_getElem? (i := 1002) (by decide +kernel)⟩
theorem lw_p41 : lw_okq (⟨"RadixPagesModel", "setPrefix", "(II)V"⟩, 27) := ⟨⟨by decide +kernel, by decide +kernel⟩, List.mem_of_getElem? (i := 845) (by decide +kernel), List.mem_of_getElem? (i := 1005) (by decide +kernel), List.mem_of_getElem? (i := 1006) (by decide +kernel)⟩
theorem lw_p42 : lw_okq (⟨"RadixPagesModel", "give", "(IJ)V"⟩, 27) := ⟨⟨by decide +kernel, by decide +kernel⟩, List.mem_of_getElem? (i := 845) (by decide +kernel), List.mem_of_getElem? (i := 1009) (by decide +kernel), List.mem_of_getElem? (i := 1010) (by decide +kernel)⟩
theorem lw_p43 : lw_okq (⟨"RadixPagesModel", "nodes", "()I"⟩, 27) := ⟨⟨by decide +kernel, by decide +kernel⟩, List.mem_of_getElem? (i := 845) (by decide +kernel), List.mem_of_getElem? (i := 1013) (by decide +kernel), List.mem_of_getElem? (i := 1014) (by decide +kernel)⟩
theorem lw_p44 : lw_okq (⟨"RadixPagesModel", "cutInTwo", "()V"⟩, 27) := ⟨⟨by decide +kernel, by decide +kernel⟩, List.mem_of_getElem? (i := 845) (by decide +kernel), List.mem_of_getElem? (i := 1017) (by decide +kernel), List.mem_of_getElem? (i := 1018) (by decide +kernel)⟩
theorem lw_p45 : lw_okq (⟨"RadixPagesModel", "putTogether", "(I)V"⟩, 27) := ⟨⟨by decide +kernel, by decide +kernel⟩, List.mem_of_getElem? (i := 845) (by decide +kernel), List.mem_of_getElem? (i := 1028) (by decide +kernel), List.mem_of_getElem? (i := 1029) (by decide +kernel)⟩
theorem lw_p46 : lw_okq (⟨"RadixPagesModel", "countKeys", "(Z)I"⟩, 27) := ⟨⟨by decide +kernel, by decide +kernel⟩, List.mem_of_getElem? (i := 845) (by decide +kernel), List.mem_of_getElem? (i := 1040) (by decide +kernel), List.mem_of_getElem? (i := 1041) (by decide +kernel)⟩
theorem lw_p47 : lw_okq (⟨"RadixPagesModel", "tell", "(I)V"⟩, 27) := ⟨⟨by decide +kernel, by decide +kernel⟩, List.mem_of_getElem? (i := 845) (by decide +kernel), List.mem_of_getElem? (i := 1044) (by decide +kernel), List.mem_of_getElem? (i := 1045) (by decide +kernel)⟩
def lw_privs_3 : List (MethodName × Nat) := [(⟨"RadixPagesModel", "keep", "()V"⟩, 27), (⟨"RadixPagesModel", "copy", "(II)V"⟩, 27), (⟨"RadixPagesModel", "isKey", "()Z"⟩, 27), (⟨"RadixPagesModel", "isFound", "()Z"⟩, 27), (⟨"RadixPagesModel", "seek", "()V"⟩, 27), (⟨"RadixPagesModel", "child", "(II)I"⟩, 27), (⟨"RadixPagesModel", "childFrom", "(II)I"⟩, 27), (⟨"RadixPagesModel", "freshen", "(I)V"⟩, 27), (⟨"RadixPagesModel", "children", "(I)I"⟩, 27), (⟨"RadixPagesModel", "setPrefix", "(II)V"⟩, 27), (⟨"RadixPagesModel", "give", "(IJ)V"⟩, 27), (⟨"RadixPagesModel", "nodes", "()I"⟩, 27), (⟨"RadixPagesModel", "cutInTwo", "()V"⟩, 27), (⟨"RadixPagesModel", "putTogether", "(I)V"⟩, 27), (⟨"RadixPagesModel", "countKeys", "(Z)I"⟩, 27), (⟨"RadixPagesModel", "tell", "(I)V"⟩, 27)]
theorem lw_r3 : ∀ q ∈ lw_privs_3, lw_okq q := List.forall_mem_cons.mpr ⟨lw_p32, List.forall_mem_cons.mpr ⟨lw_p33, List.forall_mem_cons.mpr ⟨lw_p34, List.forall_mem_cons.mpr ⟨lw_p35, List.forall_mem_cons.mpr ⟨lw_p36, List.forall_mem_cons.mpr ⟨lw_p37, List.forall_mem_cons.mpr ⟨lw_p38, List.forall_mem_cons.mpr ⟨lw_p39, List.forall_mem_cons.mpr ⟨lw_p40, List.forall_mem_cons.mpr ⟨lw_p41, List.forall_mem_cons.mpr ⟨lw_p42, List.forall_mem_cons.mpr ⟨lw_p43, List.forall_mem_cons.mpr ⟨lw_p44, List.forall_mem_cons.mpr ⟨lw_p45, List.forall_mem_cons.mpr ⟨lw_p46, List.forall_mem_cons.mpr ⟨lw_p47, fun _ h => absurd h List.not_mem_nil⟩⟩⟩⟩⟩⟩⟩⟩⟩⟩⟩⟩⟩⟩⟩⟩
theorem lw_p48 : lw_okq (⟨"RadixPagesModel", "lead", "(I)I"⟩, 27) := ⟨⟨by decide +kernel, by decide +kernel⟩, List.mem_of_getElem? (i := 845) (by decide +kernel), List.mem_of_getElem? (i := 1048) (by decide +kernel), List.mem_of_getElem? (i := 1049) (by decide +kernel)⟩
theorem lw_p49 : lw_okq (⟨"RadixPagesModel", "begins", "()Z"⟩, 27) := ⟨⟨by decide +kernel, by decide +kernel⟩, List.mem_of_getElem? (i := 845) (by decide +kernel), List.mem_of_getElem? (i := 1052) (by decide +kernel), List.mem_of_getElem? (i := 1053) (by decide +kernel)⟩
theorem lw_p50 : lw_okq (⟨"RadixPagesModel", "isBefore", "()Z"⟩, 27) := ⟨⟨by decide +kernel, by decide +kernel⟩, List.mem_of_getElem? (i := 845) (by decide +kernel), List.mem_of_getElem? (i := 1056) (by decide +kernel), List.mem_of_getElem? (i := 1057) (by decide +kernel)⟩
theorem lw_p51 : lw_okq (⟨"RadixPagesModel", "next", "(I)I"⟩, 27) := ⟨⟨by decide +kernel, by decide +kernel⟩, List.mem_of_getElem? (i := 845) (by decide +kernel), List.mem_of_getElem? (i := 1060) (by decide +kernel), List.mem_of_getElem? (i := 1061) (by decide +kernel)⟩
theorem lw_p52 : lw_okq (⟨"RadixPagesModel", "keys", "()I"⟩, 27) := ⟨⟨by decide +kernel, by decide +kernel⟩, List.mem_of_getElem? (i := 845) (by decide +kernel), List.mem_of_getElem? (i := 1072) (by decide +kernel), List.mem_of_getElem? (i := 1073) (by decide +kernel)⟩
theorem lw_p53 : lw_okq (⟨"RadixPagesModel", "freshMany", "()I"⟩, 27) := ⟨⟨by decide +kernel, by decide +kernel⟩, List.mem_of_getElem? (i := 845) (by decide +kernel), List.mem_of_getElem? (i := 1080) (by decide +kernel), List.mem_of_getElem? (i := 1081) (by decide +kernel)⟩
theorem lw_p54 : lw_okq (⟨"RadixPagesModel", "findTaken", "()I"⟩, 27) := ⟨⟨by decide +kernel, by decide +kernel⟩, List.mem_of_getElem? (i := 845) (by decide +kernel), List.mem_of_getElem? (i := 1084) (by decide +kernel), List.mem_of_getElem? (i := 1085) (by decide +kernel)⟩
theorem lw_p55 : lw_okq (⟨"RadixPagesModel", "deepest", "(I)I"⟩, 27) := ⟨⟨by decide +kernel, by decide +kernel⟩, List.mem_of_getElem? (i := 845) (by decide +kernel), List.mem_of_getElem? (i := 1088) (by decide +kernel), List.mem_of_getElem? (i := 1089) (by decide +kernel)⟩
theorem lw_p56 : lw_okq (⟨"RadixPagesModel", "writeNode", "(I)Z"⟩, 27) := ⟨⟨by decide +kernel, by decide +kernel⟩, List.mem_of_getElem? (i := 845) (by decide +kernel), List.mem_of_getElem? (i := 1092) (by decide +kernel), List.mem_of_getElem? (i := 1093) (by decide +kernel)⟩
theorem lw_p57 : lw_okq (⟨"RadixPagesModel", "beginSheet", "()V"⟩, 27) := ⟨⟨by decide +kernel, by decide +kernel⟩, List.mem_of_getElem? (i := 845) (by decide +kernel), List.mem_of_getElem? (i := 1096) (by decide +kernel), List.mem_of_getElem? (i := 1097) (by decide +kernel)⟩
theorem lw_p58 : lw_okq (⟨"RadixPagesModel", "number", "(IIJ)V"⟩, 27) := ⟨⟨by decide +kernel, by decide +kernel⟩, List.mem_of_getElem? (i := 845) (by decide +kernel), List.mem_of_getElem? (i := 1100) (by decide +kernel), List.mem_of_getElem? (i := 1101) (by decide +kernel)⟩
theorem lw_p59 : lw_okq (⟨"RadixPagesModel", "write", "(I)Z"⟩, 27) := ⟨⟨by decide +kernel, by decide +kernel⟩, List.mem_of_getElem? (i := 845) (by decide +kernel), List.mem_of_getElem? (i := 1104) (by decide +kernel), List.mem_of_getElem? (i := 1105) (by decide +kernel)⟩
theorem lw_p60 : lw_okq (⟨"RadixPagesModel", "depth", "()I"⟩, 27) := ⟨⟨by decide +kernel, by decide +kernel⟩, List.mem_of_getElem? (i := 845) (by decide +kernel), List.mem_of_getElem? (i := 1121) (by decide +kernel), List.mem_of_getElem? (i := 1122) (by decide +kernel)⟩
theorem lw_p61 : lw_okq (⟨"RadixPagesModel", "ofNode", "(II)I"⟩, 27) := ⟨⟨by decide +kernel, by decide +kernel⟩, List.mem_of_getElem? (i := 845) (by decide +kernel), List.mem_of_getElem? (i := 1130) (by decide +kernel), List.mem_of_getElem? (i := 1131) (by decide +kernel)⟩
theorem lw_p62 : lw_okq (⟨"RadixPagesModel", "headOf", "(I)J"⟩, 27) := ⟨⟨by decide +kernel, by decide +kernel⟩, List.mem_of_getElem? (i := 845) (by decide +kernel), List.mem_of_getElem? (i := 1149) (by decide +kernel), List.mem_of_getElem? (i := 1150) (by decide +kernel)⟩
theorem lw_p63 : lw_okq (⟨"RadixPagesModel", "readTree", "(IJ)Z"⟩, 27) := ⟨⟨by decide +kernel, by decide +kernel⟩, List.mem_of_getElem? (i := 845) (by decide +kernel), List.mem_of_getElem? (i := 1157) (by decide +kernel), List.mem_of_getElem? (i := 1158) (by decide +kernel)⟩
def lw_privs_4 : List (MethodName × Nat) := [(⟨"RadixPagesModel", "lead", "(I)I"⟩, 27), (⟨"RadixPagesModel", "begins", "()Z"⟩, 27), (⟨"RadixPagesModel", "isBefore", "()Z"⟩, 27), (⟨"RadixPagesModel", "next", "(I)I"⟩, 27), (⟨"RadixPagesModel", "keys", "()I"⟩, 27), (⟨"RadixPagesModel", "freshMany", "()I"⟩, 27), (⟨"RadixPagesModel", "findTaken", "()I"⟩, 27), (⟨"RadixPagesModel", "deepest", "(I)I"⟩, 27), (⟨"RadixPagesModel", "writeNode", "(I)Z"⟩, 27), (⟨"RadixPagesModel", "beginSheet", "()V"⟩, 27), (⟨"RadixPagesModel", "number", "(IIJ)V"⟩, 27), (⟨"RadixPagesModel", "write", "(I)Z"⟩, 27), (⟨"RadixPagesModel", "depth", "()I"⟩, 27), (⟨"RadixPagesModel", "ofNode", "(II)I"⟩, 27), (⟨"RadixPagesModel", "headOf", "(I)J"⟩, 27), (⟨"RadixPagesModel", "readTree", "(IJ)Z"⟩, 27)]
theorem lw_r4 : ∀ q ∈ lw_privs_4, lw_okq q := List.forall_mem_cons.mpr ⟨lw_p48, List.forall_mem_cons.mpr ⟨lw_p49, List.forall_mem_cons.mpr ⟨lw_p50, List.forall_mem_cons.mpr ⟨lw_p51, List.forall_mem_cons.mpr ⟨lw_p52, List.forall_mem_cons.mpr ⟨lw_p53, List.forall_mem_cons.mpr ⟨lw_p54, List.forall_mem_cons.mpr ⟨lw_p55, List.forall_mem_cons.mpr ⟨lw_p56, List.forall_mem_cons.mpr ⟨lw_p57, List.forall_mem_cons.mpr ⟨lw_p58, List.forall_mem_cons.mpr ⟨lw_p59, List.forall_mem_cons.mpr ⟨lw_p60, List.forall_mem_cons.mpr ⟨lw_p61, List.forall_mem_cons.mpr ⟨lw_p62, List.forall_mem_cons.mpr ⟨lw_p63, fun _ h => absurd h List.not_mem_nil⟩⟩⟩⟩⟩⟩⟩⟩⟩⟩⟩⟩⟩⟩⟩⟩
theorem lw_p64 : lw_okq (⟨"RadixPagesModel", "readNode", "(I)Z"⟩, 27) := ⟨⟨by decide +kernel, by decide +kernel⟩, List.mem_of_getElem? (i := 845) (by decide +kernel), List.mem_of_getElem? (i := 1161) (by decide +kernel), List.mem_of_getElem? (i := 1162) (by decide +kernel)⟩
theorem lw_p65 : lw_okq (⟨"RadixPagesModel", "readChildren", "(IIII)Z"⟩, 27) := ⟨⟨by decide +kernel, by decide +kernel⟩, List.mem_of_getElem? (i := 845) (by decide +kernel), List.mem_of_getElem? (i := 1166) (by decide +kernel), List.mem_of_getElem? (i := 1167) (by decide +kernel)⟩
def lw_privs_5 : List (MethodName × Nat) := [(⟨"RadixPagesModel", "readNode", "(I)Z"⟩, 27), (⟨"RadixPagesModel", "readChildren", "(IIII)Z"⟩, 27)]
theorem lw_r5 : ∀ q ∈ lw_privs_5, lw_okq q := List.forall_mem_cons.mpr ⟨lw_p64, List.forall_mem_cons.mpr ⟨lw_p65, fun _ h => absurd h List.not_mem_nil⟩⟩
def lw_privs : List (MethodName × Nat) := lw_privs_1 ++ (lw_privs_2 ++ (lw_privs_3 ++ (lw_privs_4 ++ (lw_privs_5))))
def lw_tbl : List Cond := k2_sels lw_privs ++ tables_1
theorem lw_privs_ok : ∀ q ∈ lw_privs, lw_okq q := by
  show ∀ q ∈ lw_privs_1 ++ (lw_privs_2 ++ (lw_privs_3 ++ (lw_privs_4 ++ (lw_privs_5)))), lw_okq q
  exact List.forall_mem_append.mpr ⟨lw_r1, List.forall_mem_append.mpr ⟨lw_r2, List.forall_mem_append.mpr ⟨lw_r3, List.forall_mem_append.mpr ⟨lw_r4, lw_r5⟩⟩⟩⟩
def RX0 : String := "RadixPages$Disk"
def TX0 : u_T := fun k => match k with
  | 0 => ("RadixPages$Disk", "bytes", "[B", true)
  | 1 => ("RadixPages$Disk", "writesLeft", "I", false)
  | _ => ("RadixPages$Disk", "tear", "I", false)
def tyX0 : Nat → FieldType := fun k => match k with
  | 0 => .array .byte
  | 1 => .int
  | _ => .int
abbrev wsX00 : List Cond := u_ws RX0 TX0 3
theorem nmX0 : ∀ a, a < 3 → ∀ b, b < 3 → a ≠ b → (TX0 a).2.1 ≠ (TX0 b).2.1 := by decide +kernel
theorem tyX0_ok : ∀ k, k < 3 → parseFieldDescriptor (TX0 k).2.2.1 = some (tyX0 k) := by decide +kernel
abbrev cX0_init : ByteArray := prog_2_method_1_code
def yX0_init : MethodName := ⟨RX0, "<init>", "()V"⟩
abbrev cX0_has : ByteArray := prog_2_method_2_code
def yX0_has : MethodName := ⟨RX0, "has", "(II)Z"⟩
abbrev cX0_byteAt : ByteArray := prog_2_method_3_code
def yX0_byteAt : MethodName := ⟨RX0, "byteAt", "(II)I"⟩
abbrev cX0_setByte : ByteArray := prog_2_method_4_code
def yX0_setByte : MethodName := ⟨RX0, "setByte", "(III)V"⟩
abbrev cX0_setPower : ByteArray := prog_2_method_5_code
def yX0_setPower : MethodName := ⟨RX0, "setPower", "(II)V"⟩
abbrev cX0_read : ByteArray := prog_2_method_6_code
def yX0_read : MethodName := ⟨RX0, "read", "(ILRadixPages$Row;)V"⟩
abbrev cX0_write : ByteArray := prog_2_method_7_code
def yX0_write : MethodName := ⟨RX0, "write", "(ILRadixPages$Row;)Z"⟩
def RX1 : String := "RadixPages$Format"
def TX1 : u_T := fun k => match k with
  | _ => ("", "", "", false)
def tyX1 : Nat → FieldType := fun k => match k with
  | _ => .int
abbrev wsX10 : List Cond := u_ws RX1 TX1 0
theorem nmX1 : ∀ a, a < 0 → ∀ b, b < 0 → a ≠ b → (TX1 a).2.1 ≠ (TX1 b).2.1 := by decide +kernel
theorem tyX1_ok : ∀ k, k < 0 → parseFieldDescriptor (TX1 k).2.2.1 = some (tyX1 k) := by decide +kernel
abbrev cX1_is : ByteArray := prog_3_method_2_code
def yX1_is : MethodName := ⟨RX1, "is", "(I)Z"⟩
abbrev cX1_mostChildren : ByteArray := prog_3_method_3_code
def yX1_mostChildren : MethodName := ⟨RX1, "mostChildren", "(I)I"⟩
abbrev cX1_grown : ByteArray := prog_3_method_4_code
def yX1_grown : MethodName := ⟨RX1, "grown", "(II)I"⟩
abbrev cX1_shrunk : ByteArray := prog_3_method_5_code
def yX1_shrunk : MethodName := ⟨RX1, "shrunk", "(II)I"⟩
def RX2 : String := "RadixPages$HeadPage"
def TX2 : u_T := fun k => match k with
  | _ => ("", "", "", false)
def tyX2 : Nat → FieldType := fun k => match k with
  | _ => .int
abbrev wsX20 : List Cond := u_ws RX2 TX2 0
theorem nmX2 : ∀ a, a < 0 → ∀ b, b < 0 → a ≠ b → (TX2 a).2.1 ≠ (TX2 b).2.1 := by decide +kernel
theorem tyX2_ok : ∀ k, k < 0 → parseFieldDescriptor (TX2 k).2.2.1 = some (tyX2 k) := by decide +kernel
abbrev cX2_fill : ByteArray := prog_4_method_2_code
def yX2_fill : MethodName := ⟨RX2, "fill", "(LRadixPages$Row;JII)V"⟩
abbrev cX2_sequence : ByteArray := prog_4_method_3_code
def yX2_sequence : MethodName := ⟨RX2, "sequence", "(LRadixPages$Row;)J"⟩
abbrev cX2_rootPage : ByteArray := prog_4_method_4_code
def yX2_rootPage : MethodName := ⟨RX2, "rootPage", "(LRadixPages$Row;)I"⟩
abbrev cX2_keys : ByteArray := prog_4_method_5_code
def yX2_keys : MethodName := ⟨RX2, "keys", "(LRadixPages$Row;)I"⟩
def RX3 : String := "RadixPages$Node"
def TX3 : u_T := fun k => match k with
  | 0 => ("RadixPages$Node", "prefix", "[I", true)
  | 1 => ("RadixPages$Node", "prefixLength", "I", false)
  | 2 => ("RadixPages$Node", "format", "I", false)
  | 3 => ("RadixPages$Node", "hasValue", "Z", false)
  | 4 => ("RadixPages$Node", "value", "J", false)
  | 5 => ("RadixPages$Node", "children", "I", false)
  | 6 => ("RadixPages$Node", "edge", "I", false)
  | 7 => ("RadixPages$Node", "page", "I", false)
  | 8 => ("RadixPages$Node", "fresh", "Z", false)
  | 9 => ("RadixPages$Node", "parent", "LRadixPages$Node;", false)
  | 10 => ("RadixPages$Node", "first", "LRadixPages$Node;", false)
  | 11 => ("RadixPages$Node", "next", "LRadixPages$Node;", false)
  | _ => ("RadixPages$Node", "twin", "LRadixPages$Node;", false)
def tyX3 : Nat → FieldType := fun k => match k with
  | 0 => .array .int
  | 1 => .int
  | 2 => .int
  | 3 => .boolean
  | 4 => .long
  | 5 => .int
  | 6 => .int
  | 7 => .int
  | 8 => .boolean
  | 9 => .object "RadixPages$Node"
  | 10 => .object "RadixPages$Node"
  | 11 => .object "RadixPages$Node"
  | _ => .object "RadixPages$Node"
abbrev wsX30 : List Cond := u_ws RX3 TX3 13
theorem nmX3 : ∀ a, a < 13 → ∀ b, b < 13 → a ≠ b → (TX3 a).2.1 ≠ (TX3 b).2.1 := by decide +kernel
theorem tyX3_ok : ∀ k, k < 13 → parseFieldDescriptor (TX3 k).2.2.1 = some (tyX3 k) := by decide +kernel
abbrev cX3_init : ByteArray := prog_5_method_1_code
def yX3_init : MethodName := ⟨RX3, "<init>", "()V"⟩
abbrev cX3_reset : ByteArray := prog_5_method_2_code
def yX3_reset : MethodName := ⟨RX3, "reset", "()V"⟩
abbrev cX3_prefixAt : ByteArray := prog_5_method_3_code
def yX3_prefixAt : MethodName := ⟨RX3, "prefixAt", "(I)I"⟩
abbrev cX3_setPrefixAt : ByteArray := prog_5_method_4_code
def yX3_setPrefixAt : MethodName := ⟨RX3, "setPrefixAt", "(II)V"⟩
abbrev cX3_appendToPrefix : ByteArray := prog_5_method_5_code
def yX3_appendToPrefix : MethodName := ⟨RX3, "appendToPrefix", "(I)V"⟩
abbrev cX3_dropFromPrefix : ByteArray := prog_5_method_6_code
def yX3_dropFromPrefix : MethodName := ⟨RX3, "dropFromPrefix", "(I)V"⟩
abbrev cX3_takePrefixOfParent : ByteArray := prog_5_method_7_code
def yX3_takePrefixOfParent : MethodName := ⟨RX3, "takePrefixOfParent", "(LRadixPages$Node;)V"⟩
abbrev cX3_matching : ByteArray := prog_5_method_8_code
def yX3_matching : MethodName := ⟨RX3, "matching", "(LRadixPages$Tape;I)I"⟩
abbrev cX3_setValue : ByteArray := prog_5_method_9_code
def yX3_setValue : MethodName := ⟨RX3, "setValue", "(J)V"⟩
abbrev cX3_loseValue : ByteArray := prog_5_method_10_code
def yX3_loseValue : MethodName := ⟨RX3, "loseValue", "()V"⟩
abbrev cX3_lastBelow : ByteArray := prog_5_method_11_code
def yX3_lastBelow : MethodName := ⟨RX3, "lastBelow", "(I)LRadixPages$Node;"⟩
abbrev cX3_firstFrom : ByteArray := prog_5_method_12_code
def yX3_firstFrom : MethodName := ⟨RX3, "firstFrom", "(I)LRadixPages$Node;"⟩
abbrev cX3_childBy : ByteArray := prog_5_method_13_code
def yX3_childBy : MethodName := ⟨RX3, "childBy", "(I)LRadixPages$Node;"⟩
abbrev cX3_setNextOf : ByteArray := prog_5_method_14_code
def yX3_setNextOf : MethodName := ⟨RX3, "setNextOf", "(LRadixPages$Node;LRadixPages$Node;)V"⟩
abbrev cX3_gain : ByteArray := prog_5_method_15_code
def yX3_gain : MethodName := ⟨RX3, "gain", "(LRadixPages$Node;)V"⟩
abbrev cX3_lose : ByteArray := prog_5_method_16_code
def yX3_lose : MethodName := ⟨RX3, "lose", "(LRadixPages$Node;)V"⟩
abbrev cX3_yieldTo : ByteArray := prog_5_method_17_code
def yX3_yieldTo : MethodName := ⟨RX3, "yieldTo", "(LRadixPages$Node;)V"⟩
abbrev cX3_freshen : ByteArray := prog_5_method_18_code
def yX3_freshen : MethodName := ⟨RX3, "freshen", "()V"⟩
abbrev cX3_following : ByteArray := prog_5_method_19_code
def yX3_following : MethodName := ⟨RX3, "following", "()LRadixPages$Node;"⟩
abbrev cX3_behind : ByteArray := prog_5_method_20_code
def yX3_behind : MethodName := ⟨RX3, "behind", "()LRadixPages$Node;"⟩
abbrev cX3_lowest : ByteArray := prog_5_method_21_code
def yX3_lowest : MethodName := ⟨RX3, "lowest", "()LRadixPages$Node;"⟩
abbrev cX3_above : ByteArray := prog_5_method_22_code
def yX3_above : MethodName := ⟨RX3, "above", "()LRadixPages$Node;"⟩
abbrev cX3_lead : ByteArray := prog_5_method_23_code
def yX3_lead : MethodName := ⟨RX3, "lead", "()I"⟩
abbrev cX3_level : ByteArray := prog_5_method_24_code
def yX3_level : MethodName := ⟨RX3, "level", "()I"⟩
abbrev cX3_spell : ByteArray := prog_5_method_25_code
def yX3_spell : MethodName := ⟨RX3, "spell", "(LRadixPages$Tape;)V"⟩
abbrev cX3_hasReason : ByteArray := prog_5_method_26_code
def yX3_hasReason : MethodName := ⟨RX3, "hasReason", "()Z"⟩
abbrev cX3_twinOf : ByteArray := prog_5_method_27_code
def yX3_twinOf : MethodName := ⟨RX3, "twinOf", "(LRadixPages$Node;)LRadixPages$Node;"⟩
abbrev cX3_mirror : ByteArray := prog_5_method_28_code
def yX3_mirror : MethodName := ⟨RX3, "mirror", "(LRadixPages$Node;)V"⟩
def RX4 : String := "RadixPages$NodePage"
def TX4 : u_T := fun k => match k with
  | _ => ("", "", "", false)
def tyX4 : Nat → FieldType := fun k => match k with
  | _ => .int
abbrev wsX40 : List Cond := u_ws RX4 TX4 0
theorem nmX4 : ∀ a, a < 0 → ∀ b, b < 0 → a ≠ b → (TX4 a).2.1 ≠ (TX4 b).2.1 := by decide +kernel
theorem tyX4_ok : ∀ k, k < 0 → parseFieldDescriptor (TX4 k).2.2.1 = some (tyX4 k) := by decide +kernel
abbrev cX4_fill : ByteArray := prog_6_method_2_code
def yX4_fill : MethodName := ⟨RX4, "fill", "(LRadixPages$Row;LRadixPages$Node;)V"⟩
abbrev cX4_fillTable : ByteArray := prog_6_method_3_code
def yX4_fillTable : MethodName := ⟨RX4, "fillTable", "(LRadixPages$Row;LRadixPages$Node;)V"⟩
def RX5 : String := "RadixPages$Row"
def TX5 : u_T := fun k => match k with
  | _ => ("RadixPages$Row", "bytes", "[B", true)
def tyX5 : Nat → FieldType := fun k => match k with
  | _ => .array .byte
abbrev wsX50 : List Cond := u_ws RX5 TX5 1
theorem nmX5 : ∀ a, a < 1 → ∀ b, b < 1 → a ≠ b → (TX5 a).2.1 ≠ (TX5 b).2.1 := by decide +kernel
theorem tyX5_ok : ∀ k, k < 1 → parseFieldDescriptor (TX5 k).2.2.1 = some (tyX5 k) := by decide +kernel
abbrev cX5_init : ByteArray := prog_7_method_1_code
def yX5_init : MethodName := ⟨RX5, "<init>", "()V"⟩
abbrev cX5_at : ByteArray := prog_7_method_2_code
def yX5_at : MethodName := ⟨RX5, "at", "(I)I"⟩
abbrev cX5_set : ByteArray := prog_7_method_3_code
def yX5_set : MethodName := ⟨RX5, "set", "(II)V"⟩
abbrev cX5_longAt : ByteArray := prog_7_method_4_code
def yX5_longAt : MethodName := ⟨RX5, "longAt", "(I)J"⟩
abbrev cX5_setLong : ByteArray := prog_7_method_5_code
def yX5_setLong : MethodName := ⟨RX5, "setLong", "(IJ)V"⟩
abbrev cX5_wipe : ByteArray := prog_7_method_6_code
def yX5_wipe : MethodName := ⟨RX5, "wipe", "()V"⟩
abbrev cX5_seal : ByteArray := prog_7_method_7_code
def yX5_seal : MethodName := ⟨RX5, "seal", "()V"⟩
abbrev cX5_same : ByteArray := prog_7_method_8_code
def yX5_same : MethodName := ⟨RX5, "same", "(LRadixPages$Row;)Z"⟩
def RX6 : String := "RadixPages$Store"
def TX6 : u_T := fun k => match k with
  | 0 => ("RadixPages$Store", "disk", "LRadixPages$Disk;", true)
  | 1 => ("RadixPages$Store", "row", "LRadixPages$Row;", true)
  | 2 => ("RadixPages$Store", "again", "LRadixPages$Row;", true)
  | _ => ("RadixPages$Store", "taken", "[Z", true)
def tyX6 : Nat → FieldType := fun k => match k with
  | 0 => .object "RadixPages$Disk"
  | 1 => .object "RadixPages$Row"
  | 2 => .object "RadixPages$Row"
  | _ => .array .boolean
abbrev wsX60 : List Cond := u_ws RX6 TX6 4
theorem nmX6 : ∀ a, a < 4 → ∀ b, b < 4 → a ≠ b → (TX6 a).2.1 ≠ (TX6 b).2.1 := by decide +kernel
theorem tyX6_ok : ∀ k, k < 4 → parseFieldDescriptor (TX6 k).2.2.1 = some (tyX6 k) := by decide +kernel
abbrev cX6_init : ByteArray := prog_8_method_1_code
def yX6_init : MethodName := ⟨RX6, "<init>", "()V"⟩
abbrev cX6_save : ByteArray := prog_8_method_2_code
def yX6_save : MethodName := ⟨RX6, "save", "(LRadixPages$Tree;LRadixPages$Tree;I)Z"⟩
abbrev cX6_saveNode : ByteArray := prog_8_method_3_code
def yX6_saveNode : MethodName := ⟨RX6, "saveNode", "(LRadixPages$Node;)Z"⟩
abbrev cX6_freeAllPages : ByteArray := prog_8_method_4_code
def yX6_freeAllPages : MethodName := ⟨RX6, "freeAllPages", "()V"⟩
abbrev cX6_markPagesOf : ByteArray := prog_8_method_5_code
def yX6_markPagesOf : MethodName := ⟨RX6, "markPagesOf", "(LRadixPages$Tree;)V"⟩
abbrev cX6_takePage : ByteArray := prog_8_method_6_code
def yX6_takePage : MethodName := ⟨RX6, "takePage", "(I)Z"⟩
abbrev cX6_takeLeastPage : ByteArray := prog_8_method_7_code
def yX6_takeLeastPage : MethodName := ⟨RX6, "takeLeastPage", "()I"⟩
abbrev cX6_load : ByteArray := prog_8_method_8_code
def yX6_load : MethodName := ⟨RX6, "load", "(LRadixPages$Tree;)I"⟩
abbrev cX6_rightSequence : ByteArray := prog_8_method_9_code
def yX6_rightSequence : MethodName := ⟨RX6, "rightSequence", "(I)I"⟩
abbrev cX6_loadBy : ByteArray := prog_8_method_10_code
def yX6_loadBy : MethodName := ⟨RX6, "loadBy", "(ILRadixPages$Tree;)Z"⟩
abbrev cX6_loadNode : ByteArray := prog_8_method_11_code
def yX6_loadNode : MethodName := ⟨RX6, "loadNode", "(LRadixPages$Node;LRadixPages$Tree;)Z"⟩
abbrev cX6_hangListed : ByteArray := prog_8_method_12_code
def yX6_hangListed : MethodName := ⟨RX6, "hangListed", "(LRadixPages$Node;LRadixPages$Tree;I)Z"⟩
abbrev cX6_hangMapped : ByteArray := prog_8_method_13_code
def yX6_hangMapped : MethodName := ⟨RX6, "hangMapped", "(LRadixPages$Node;LRadixPages$Tree;)Z"⟩
abbrev cX6_hangBehind : ByteArray := prog_8_method_14_code
def yX6_hangBehind : MethodName := ⟨RX6, "hangBehind", "(LRadixPages$Node;LRadixPages$Node;LRadixPages$Node;II)Z"⟩
def RX7 : String := "RadixPages$Tape"
def TX7 : u_T := fun k => match k with
  | 0 => ("RadixPages$Tape", "bytes", "[I", true)
  | _ => ("RadixPages$Tape", "length", "I", false)
def tyX7 : Nat → FieldType := fun k => match k with
  | 0 => .array .int
  | _ => .int
abbrev wsX70 : List Cond := u_ws RX7 TX7 2
theorem nmX7 : ∀ a, a < 2 → ∀ b, b < 2 → a ≠ b → (TX7 a).2.1 ≠ (TX7 b).2.1 := by decide +kernel
theorem tyX7_ok : ∀ k, k < 2 → parseFieldDescriptor (TX7 k).2.2.1 = some (tyX7 k) := by decide +kernel
abbrev cX7_init : ByteArray := prog_9_method_1_code
def yX7_init : MethodName := ⟨RX7, "<init>", "()V"⟩
abbrev cX7_isKey : ByteArray := prog_9_method_2_code
def yX7_isKey : MethodName := ⟨RX7, "isKey", "()Z"⟩
abbrev cX7_byteAt : ByteArray := prog_9_method_3_code
def yX7_byteAt : MethodName := ⟨RX7, "byteAt", "(I)I"⟩
abbrev cX7_setByte : ByteArray := prog_9_method_4_code
def yX7_setByte : MethodName := ⟨RX7, "setByte", "(II)V"⟩
abbrev cX7_append : ByteArray := prog_9_method_5_code
def yX7_append : MethodName := ⟨RX7, "append", "(I)V"⟩
def RX8 : String := "RadixPages$Tree"
def TX8 : u_T := fun k => match k with
  | 0 => ("RadixPages$Tree", "stock", "[LRadixPages$Node;", true)
  | 1 => ("RadixPages$Tree", "spare", "LRadixPages$Node;", false)
  | 2 => ("RadixPages$Tree", "root", "LRadixPages$Node;", false)
  | 3 => ("RadixPages$Tree", "nodes", "I", false)
  | 4 => ("RadixPages$Tree", "keys", "I", false)
  | 5 => ("RadixPages$Tree", "spot", "LRadixPages$Node;", false)
  | 6 => ("RadixPages$Tree", "matched", "I", false)
  | _ => ("RadixPages$Tree", "used", "I", false)
def tyX8 : Nat → FieldType := fun k => match k with
  | 0 => .array (.object "RadixPages$Node")
  | 1 => .object "RadixPages$Node"
  | 2 => .object "RadixPages$Node"
  | 3 => .int
  | 4 => .int
  | 5 => .object "RadixPages$Node"
  | 6 => .int
  | _ => .int
abbrev wsX80 : List Cond := u_ws RX8 TX8 8
theorem nmX8 : ∀ a, a < 8 → ∀ b, b < 8 → a ≠ b → (TX8 a).2.1 ≠ (TX8 b).2.1 := by decide +kernel
theorem tyX8_ok : ∀ k, k < 8 → parseFieldDescriptor (TX8 k).2.2.1 = some (tyX8 k) := by decide +kernel
abbrev cX8_init : ByteArray := prog_10_method_1_code
def yX8_init : MethodName := ⟨RX8, "<init>", "()V"⟩
abbrev cX8_clear : ByteArray := prog_10_method_2_code
def yX8_clear : MethodName := ⟨RX8, "clear", "()V"⟩
abbrev cX8_take : ByteArray := prog_10_method_3_code
def yX8_take : MethodName := ⟨RX8, "take", "()LRadixPages$Node;"⟩
abbrev cX8_release : ByteArray := prog_10_method_4_code
def yX8_release : MethodName := ⟨RX8, "release", "(LRadixPages$Node;)V"⟩
abbrev cX8_seek : ByteArray := prog_10_method_5_code
def yX8_seek : MethodName := ⟨RX8, "seek", "(LRadixPages$Tape;)V"⟩
abbrev cX8_stepFrom : ByteArray := prog_10_method_6_code
def yX8_stepFrom : MethodName := ⟨RX8, "stepFrom", "(LRadixPages$Node;LRadixPages$Tape;)LRadixPages$Node;"⟩
abbrev cX8_nodeOf : ByteArray := prog_10_method_7_code
def yX8_nodeOf : MethodName := ⟨RX8, "nodeOf", "(LRadixPages$Tape;)LRadixPages$Node;"⟩
abbrev cX8_store : ByteArray := prog_10_method_8_code
def yX8_store : MethodName := ⟨RX8, "store", "(LRadixPages$Tape;J)I"⟩
abbrev cX8_storeFirst : ByteArray := prog_10_method_9_code
def yX8_storeFirst : MethodName := ⟨RX8, "storeFirst", "(LRadixPages$Tape;J)I"⟩
abbrev cX8_storeHere : ByteArray := prog_10_method_10_code
def yX8_storeHere : MethodName := ⟨RX8, "storeHere", "(J)I"⟩
abbrev cX8_storeByChild : ByteArray := prog_10_method_11_code
def yX8_storeByChild : MethodName := ⟨RX8, "storeByChild", "(LRadixPages$Tape;J)I"⟩
abbrev cX8_storeByCut : ByteArray := prog_10_method_12_code
def yX8_storeByCut : MethodName := ⟨RX8, "storeByCut", "(LRadixPages$Tape;J)I"⟩
abbrev cX8_hang : ByteArray := prog_10_method_13_code
def yX8_hang : MethodName := ⟨RX8, "hang", "(LRadixPages$Node;LRadixPages$Node;LRadixPages$Tape;J)V"⟩
abbrev cX8_insertAbove : ByteArray := prog_10_method_14_code
def yX8_insertAbove : MethodName := ⟨RX8, "insertAbove", "(LRadixPages$Node;LRadixPages$Node;)V"⟩
abbrev cX8_putInPlace : ByteArray := prog_10_method_15_code
def yX8_putInPlace : MethodName := ⟨RX8, "putInPlace", "(LRadixPages$Node;LRadixPages$Node;)V"⟩
abbrev cX8_drop : ByteArray := prog_10_method_16_code
def yX8_drop : MethodName := ⟨RX8, "drop", "(LRadixPages$Tape;)I"⟩
abbrev cX8_detach : ByteArray := prog_10_method_17_code
def yX8_detach : MethodName := ⟨RX8, "detach", "(LRadixPages$Node;LRadixPages$Node;)V"⟩
abbrev cX8_join : ByteArray := prog_10_method_18_code
def yX8_join : MethodName := ⟨RX8, "join", "(LRadixPages$Node;)V"⟩
abbrev cX8_keysBetween : ByteArray := prog_10_method_19_code
def yX8_keysBetween : MethodName := ⟨RX8, "keysBetween", "(LRadixPages$Node;LRadixPages$Node;)I"⟩
abbrev cX8_keysUnder : ByteArray := prog_10_method_20_code
def yX8_keysUnder : MethodName := ⟨RX8, "keysUnder", "(LRadixPages$Tape;)I"⟩
abbrev cX8_keysAhead : ByteArray := prog_10_method_21_code
def yX8_keysAhead : MethodName := ⟨RX8, "keysAhead", "(LRadixPages$Tape;)I"⟩
abbrev cX8_firstNotAhead : ByteArray := prog_10_method_22_code
def yX8_firstNotAhead : MethodName := ⟨RX8, "firstNotAhead", "(LRadixPages$Tape;)LRadixPages$Node;"⟩
abbrev cX8_keyNumber : ByteArray := prog_10_method_23_code
def yX8_keyNumber : MethodName := ⟨RX8, "keyNumber", "(I)LRadixPages$Node;"⟩
abbrev cX8_nodeNumber : ByteArray := prog_10_method_24_code
def yX8_nodeNumber : MethodName := ⟨RX8, "nodeNumber", "(I)LRadixPages$Node;"⟩
abbrev cX8_nodesOfFormat : ByteArray := prog_10_method_25_code
def yX8_nodesOfFormat : MethodName := ⟨RX8, "nodesOfFormat", "(I)I"⟩
abbrev cX8_freshNodes : ByteArray := prog_10_method_26_code
def yX8_freshNodes : MethodName := ⟨RX8, "freshNodes", "()I"⟩
abbrev cX8_nodesOnPages : ByteArray := prog_10_method_27_code
def yX8_nodesOnPages : MethodName := ⟨RX8, "nodesOnPages", "()I"⟩
abbrev cX8_depth : ByteArray := prog_10_method_28_code
def yX8_depth : MethodName := ⟨RX8, "depth", "()I"⟩
abbrev cX8_settle : ByteArray := prog_10_method_29_code
def yX8_settle : MethodName := ⟨RX8, "settle", "()V"⟩
abbrev cX8_become : ByteArray := prog_10_method_30_code
def yX8_become : MethodName := ⟨RX8, "become", "(LRadixPages$Tree;)V"⟩
def RX9 : String := "RadixPages"
def TX9 : u_T := fun k => match k with
  | 0 => ("RadixPages", "tape", "LRadixPages$Tape;", true)
  | 1 => ("RadixPages", "tree", "LRadixPages$Tree;", true)
  | 2 => ("RadixPages", "committed", "LRadixPages$Tree;", true)
  | 3 => ("RadixPages", "store", "LRadixPages$Store;", true)
  | 4 => ("RadixPages", "sequence", "I", false)
  | _ => ("RadixPages", "down", "Z", false)
def tyX9 : Nat → FieldType := fun k => match k with
  | 0 => .object "RadixPages$Tape"
  | 1 => .object "RadixPages$Tree"
  | 2 => .object "RadixPages$Tree"
  | 3 => .object "RadixPages$Store"
  | 4 => .int
  | _ => .boolean
abbrev wsX90 : List Cond := u_ws RX9 TX9 6
theorem nmX9 : ∀ a, a < 6 → ∀ b, b < 6 → a ≠ b → (TX9 a).2.1 ≠ (TX9 b).2.1 := by decide +kernel
theorem tyX9_ok : ∀ k, k < 6 → parseFieldDescriptor (TX9 k).2.2.1 = some (tyX9 k) := by decide +kernel
abbrev cX9_init : ByteArray := prog_1_method_1_code
def yX9_init : MethodName := ⟨RX9, "<init>", "()V"⟩
abbrev cX9_type : ByteArray := prog_1_method_2_code
def yX9_type : MethodName := ⟨RX9, "type", "(JI)I"⟩
abbrev cX9_cut : ByteArray := prog_1_method_3_code
def yX9_cut : MethodName := ⟨RX9, "cut", "(I)I"⟩
abbrev cX9_tapeAt : ByteArray := prog_1_method_4_code
def yX9_tapeAt : MethodName := ⟨RX9, "tapeAt", "(I)I"⟩
abbrev cX9_put : ByteArray := prog_1_method_5_code
def yX9_put : MethodName := ⟨RX9, "put", "(J)I"⟩
abbrev cX9_remove : ByteArray := prog_1_method_6_code
def yX9_remove : MethodName := ⟨RX9, "remove", "()I"⟩
abbrev cX9_get : ByteArray := prog_1_method_7_code
def yX9_get : MethodName := ⟨RX9, "get", "()J"⟩
abbrev cX9_with : ByteArray := prog_1_method_8_code
def yX9_with : MethodName := ⟨RX9, "with", "()I"⟩
abbrev cX9_before : ByteArray := prog_1_method_9_code
def yX9_before : MethodName := ⟨RX9, "before", "()I"⟩
abbrev cX9_nth : ByteArray := prog_1_method_10_code
def yX9_nth : MethodName := ⟨RX9, "nth", "(I)I"⟩
abbrev cX9_commit : ByteArray := prog_1_method_11_code
def yX9_commit : MethodName := ⟨RX9, "commit", "()I"⟩
abbrev cX9_back : ByteArray := prog_1_method_12_code
def yX9_back : MethodName := ⟨RX9, "back", "()I"⟩
abbrev cX9_count : ByteArray := prog_1_method_13_code
def yX9_count : MethodName := ⟨RX9, "count", "(I)I"⟩
abbrev cX9_node : ByteArray := prog_1_method_14_code
def yX9_node : MethodName := ⟨RX9, "node", "(II)I"⟩
abbrev cX9_power : ByteArray := prog_1_method_15_code
def yX9_power : MethodName := ⟨RX9, "power", "(II)I"⟩
abbrev cX9_start : ByteArray := prog_1_method_16_code
def yX9_start : MethodName := ⟨RX9, "start", "()I"⟩
abbrev cX9_halt : ByteArray := prog_1_method_17_code
def yX9_halt : MethodName := ⟨RX9, "halt", "()I"⟩
abbrev cX9_octet : ByteArray := prog_1_method_18_code
def yX9_octet : MethodName := ⟨RX9, "octet", "(II)I"⟩
abbrev cX9_poke : ByteArray := prog_1_method_19_code
def yX9_poke : MethodName := ⟨RX9, "poke", "(III)I"⟩
abbrev cX9_freePages : ByteArray := prog_1_method_20_code
def yX9_freePages : MethodName := ⟨RX9, "freePages", "()I"⟩
def RX10 : String := "RadixPagesModel"
def TX10 : u_T := fun k => match k with
  | 0 => ("RadixPagesModel", "thrown", "I", false)
  | 1 => ("RadixPagesModel", "tape", "[I", true)
  | 2 => ("RadixPagesModel", "size", "I", false)
  | 3 => ("RadixPagesModel", "down", "Z", false)
  | 4 => ("RadixPagesModel", "used", "[Z", true)
  | 5 => ("RadixPagesModel", "up", "[I", true)
  | 6 => ("RadixPagesModel", "by", "[I", true)
  | 7 => ("RadixPagesModel", "prefix", "[I", true)
  | 8 => ("RadixPagesModel", "wide", "[I", true)
  | 9 => ("RadixPagesModel", "valued", "[Z", true)
  | 10 => ("RadixPagesModel", "value", "[J", true)
  | 11 => ("RadixPagesModel", "format", "[I", true)
  | 12 => ("RadixPagesModel", "page", "[I", true)
  | 13 => ("RadixPagesModel", "fresh", "[Z", true)
  | 14 => ("RadixPagesModel", "root", "I", false)
  | 15 => ("RadixPagesModel", "keptRoot", "I", false)
  | 16 => ("RadixPagesModel", "sequence", "J", false)
  | 17 => ("RadixPagesModel", "disk", "[I", true)
  | 18 => ("RadixPagesModel", "powerAt", "I", false)
  | 19 => ("RadixPagesModel", "tear", "I", false)
  | 20 => ("RadixPagesModel", "atNode", "I", false)
  | 21 => ("RadixPagesModel", "alike", "I", false)
  | 22 => ("RadixPagesModel", "place", "I", false)
  | 23 => ("RadixPagesModel", "row", "[I", true)
  | 24 => ("RadixPagesModel", "rowSize", "I", false)
  | 25 => ("RadixPagesModel", "sheet", "[I", true)
  | _ => ("RadixPagesModel", "taken", "[Z", true)
def tyX10 : Nat → FieldType := fun k => match k with
  | 0 => .int
  | 1 => .array .int
  | 2 => .int
  | 3 => .boolean
  | 4 => .array .boolean
  | 5 => .array .int
  | 6 => .array .int
  | 7 => .array .int
  | 8 => .array .int
  | 9 => .array .boolean
  | 10 => .array .long
  | 11 => .array .int
  | 12 => .array .int
  | 13 => .array .boolean
  | 14 => .int
  | 15 => .int
  | 16 => .long
  | 17 => .array .int
  | 18 => .int
  | 19 => .int
  | 20 => .int
  | 21 => .int
  | 22 => .int
  | 23 => .array .int
  | 24 => .int
  | 25 => .array .int
  | _ => .array .boolean
abbrev wsX100 : List Cond := u_ws RX10 TX10 27
theorem nmX10 : ∀ a, a < 27 → ∀ b, b < 27 → a ≠ b → (TX10 a).2.1 ≠ (TX10 b).2.1 := by decide +kernel
theorem tyX10_ok : ∀ k, k < 27 → parseFieldDescriptor (TX10 k).2.2.1 = some (tyX10 k) := by decide +kernel
abbrev cX10_init : ByteArray := prog_12_method_1_code
def yX10_init : MethodName := ⟨RX10, "<init>", "()V"⟩
abbrev cX10_thrown : ByteArray := prog_12_method_2_code
def yX10_thrown : MethodName := ⟨RX10, "thrown", "()I"⟩
abbrev cX10_in : ByteArray := prog_12_method_3_code
def yX10_in : MethodName := ⟨RX10, "in", "(JJJ)Z"⟩
abbrev cX10_clear : ByteArray := prog_12_method_4_code
def yX10_clear : MethodName := ⟨RX10, "clear", "()V"⟩
abbrev cX10_copy : ByteArray := prog_12_method_5_code
def yX10_copy : MethodName := ⟨RX10, "copy", "(II)V"⟩
abbrev cX10_keep : ByteArray := prog_12_method_6_code
def yX10_keep : MethodName := ⟨RX10, "keep", "()V"⟩
abbrev cX10_type : ByteArray := prog_12_method_7_code
def yX10_type : MethodName := ⟨RX10, "type", "(JI)I"⟩
abbrev cX10_cut : ByteArray := prog_12_method_8_code
def yX10_cut : MethodName := ⟨RX10, "cut", "(I)I"⟩
abbrev cX10_tapeAt : ByteArray := prog_12_method_9_code
def yX10_tapeAt : MethodName := ⟨RX10, "tapeAt", "(I)I"⟩
abbrev cX10_newNode : ByteArray := prog_12_method_10_code
def yX10_newNode : MethodName := ⟨RX10, "newNode", "(II)I"⟩
abbrev cX10_nodes : ByteArray := prog_12_method_11_code
def yX10_nodes : MethodName := ⟨RX10, "nodes", "()I"⟩
abbrev cX10_childFrom : ByteArray := prog_12_method_12_code
def yX10_childFrom : MethodName := ⟨RX10, "childFrom", "(II)I"⟩
abbrev cX10_child : ByteArray := prog_12_method_13_code
def yX10_child : MethodName := ⟨RX10, "child", "(II)I"⟩
abbrev cX10_children : ByteArray := prog_12_method_14_code
def yX10_children : MethodName := ⟨RX10, "children", "(I)I"⟩
abbrev cX10_room : ByteArray := prog_12_method_15_code
def yX10_room : MethodName := ⟨RX10, "room", "(I)I"⟩
abbrev cX10_next : ByteArray := prog_12_method_16_code
def yX10_next : MethodName := ⟨RX10, "next", "(I)I"⟩
abbrev cX10_freshen : ByteArray := prog_12_method_17_code
def yX10_freshen : MethodName := ⟨RX10, "freshen", "(I)V"⟩
abbrev cX10_lead : ByteArray := prog_12_method_18_code
def yX10_lead : MethodName := ⟨RX10, "lead", "(I)I"⟩
abbrev cX10_seek : ByteArray := prog_12_method_19_code
def yX10_seek : MethodName := ⟨RX10, "seek", "()V"⟩
abbrev cX10_isFound : ByteArray := prog_12_method_20_code
def yX10_isFound : MethodName := ⟨RX10, "isFound", "()Z"⟩
abbrev cX10_setPrefix : ByteArray := prog_12_method_21_code
def yX10_setPrefix : MethodName := ⟨RX10, "setPrefix", "(II)V"⟩
abbrev cX10_give : ByteArray := prog_12_method_22_code
def yX10_give : MethodName := ⟨RX10, "give", "(IJ)V"⟩
abbrev cX10_isKey : ByteArray := prog_12_method_23_code
def yX10_isKey : MethodName := ⟨RX10, "isKey", "()Z"⟩
abbrev cX10_put : ByteArray := prog_12_method_24_code
def yX10_put : MethodName := ⟨RX10, "put", "(J)I"⟩
abbrev cX10_cutInTwo : ByteArray := prog_12_method_25_code
def yX10_cutInTwo : MethodName := ⟨RX10, "cutInTwo", "()V"⟩
abbrev cX10_remove : ByteArray := prog_12_method_26_code
def yX10_remove : MethodName := ⟨RX10, "remove", "()I"⟩
abbrev cX10_putTogether : ByteArray := prog_12_method_27_code
def yX10_putTogether : MethodName := ⟨RX10, "putTogether", "(I)V"⟩
abbrev cX10_get : ByteArray := prog_12_method_28_code
def yX10_get : MethodName := ⟨RX10, "get", "()J"⟩
abbrev cX10_tell : ByteArray := prog_12_method_29_code
def yX10_tell : MethodName := ⟨RX10, "tell", "(I)V"⟩
abbrev cX10_begins : ByteArray := prog_12_method_30_code
def yX10_begins : MethodName := ⟨RX10, "begins", "()Z"⟩
abbrev cX10_isBefore : ByteArray := prog_12_method_31_code
def yX10_isBefore : MethodName := ⟨RX10, "isBefore", "()Z"⟩
abbrev cX10_with : ByteArray := prog_12_method_32_code
def yX10_with : MethodName := ⟨RX10, "with", "()I"⟩
abbrev cX10_countKeys : ByteArray := prog_12_method_33_code
def yX10_countKeys : MethodName := ⟨RX10, "countKeys", "(Z)I"⟩
abbrev cX10_before : ByteArray := prog_12_method_34_code
def yX10_before : MethodName := ⟨RX10, "before", "()I"⟩
abbrev cX10_keys : ByteArray := prog_12_method_35_code
def yX10_keys : MethodName := ⟨RX10, "keys", "()I"⟩
abbrev cX10_nth : ByteArray := prog_12_method_36_code
def yX10_nth : MethodName := ⟨RX10, "nth", "(I)I"⟩
abbrev cX10_sum : ByteArray := prog_12_method_37_code
def yX10_sum : MethodName := ⟨RX10, "sum", "([II)J"⟩
abbrev cX10_number : ByteArray := prog_12_method_38_code
def yX10_number : MethodName := ⟨RX10, "number", "(IIJ)V"⟩
abbrev cX10_write : ByteArray := prog_12_method_39_code
def yX10_write : MethodName := ⟨RX10, "write", "(I)Z"⟩
abbrev cX10_beginSheet : ByteArray := prog_12_method_40_code
def yX10_beginSheet : MethodName := ⟨RX10, "beginSheet", "()V"⟩
abbrev cX10_writeNode : ByteArray := prog_12_method_41_code
def yX10_writeNode : MethodName := ⟨RX10, "writeNode", "(I)Z"⟩
abbrev cX10_deepest : ByteArray := prog_12_method_42_code
def yX10_deepest : MethodName := ⟨RX10, "deepest", "(I)I"⟩
abbrev cX10_freshMany : ByteArray := prog_12_method_43_code
def yX10_freshMany : MethodName := ⟨RX10, "freshMany", "()I"⟩
abbrev cX10_findTaken : ByteArray := prog_12_method_44_code
def yX10_findTaken : MethodName := ⟨RX10, "findTaken", "()I"⟩
abbrev cX10_commit : ByteArray := prog_12_method_45_code
def yX10_commit : MethodName := ⟨RX10, "commit", "()I"⟩
abbrev cX10_back : ByteArray := prog_12_method_46_code
def yX10_back : MethodName := ⟨RX10, "back", "()I"⟩
abbrev cX10_depth : ByteArray := prog_12_method_47_code
def yX10_depth : MethodName := ⟨RX10, "depth", "()I"⟩
abbrev cX10_count : ByteArray := prog_12_method_48_code
def yX10_count : MethodName := ⟨RX10, "count", "(I)I"⟩
abbrev cX10_node : ByteArray := prog_12_method_49_code
def yX10_node : MethodName := ⟨RX10, "node", "(II)I"⟩
abbrev cX10_ofNode : ByteArray := prog_12_method_50_code
def yX10_ofNode : MethodName := ⟨RX10, "ofNode", "(II)I"⟩
abbrev cX10_power : ByteArray := prog_12_method_51_code
def yX10_power : MethodName := ⟨RX10, "power", "(II)I"⟩
abbrev cX10_halt : ByteArray := prog_12_method_52_code
def yX10_halt : MethodName := ⟨RX10, "halt", "()I"⟩
abbrev cX10_numberAt : ByteArray := prog_12_method_53_code
def yX10_numberAt : MethodName := ⟨RX10, "numberAt", "([III)J"⟩
abbrev cX10_headOf : ByteArray := prog_12_method_54_code
def yX10_headOf : MethodName := ⟨RX10, "headOf", "(I)J"⟩
abbrev cX10_readNode : ByteArray := prog_12_method_55_code
def yX10_readNode : MethodName := ⟨RX10, "readNode", "(I)Z"⟩
abbrev cX10_readChildren : ByteArray := prog_12_method_56_code
def yX10_readChildren : MethodName := ⟨RX10, "readChildren", "(IIII)Z"⟩
abbrev cX10_readTree : ByteArray := prog_12_method_57_code
def yX10_readTree : MethodName := ⟨RX10, "readTree", "(IJ)Z"⟩
abbrev cX10_start : ByteArray := prog_12_method_58_code
def yX10_start : MethodName := ⟨RX10, "start", "()I"⟩
abbrev cX10_octet : ByteArray := prog_12_method_59_code
def yX10_octet : MethodName := ⟨RX10, "octet", "(II)I"⟩
abbrev cX10_poke : ByteArray := prog_12_method_60_code
def yX10_poke : MethodName := ⟨RX10, "poke", "(III)I"⟩
def RL : String := "RadixPagesLaw"
abbrev cL_type : ByteArray := method_3_code
def yL_type : MethodName := ⟨RL, "type", "(LRadixPages;JI[J)I"⟩
abbrev cL_cut : ByteArray := method_4_code
def yL_cut : MethodName := ⟨RL, "cut", "(LRadixPages;I[J)I"⟩
abbrev cL_octet : ByteArray := method_5_code
def yL_octet : MethodName := ⟨RL, "octet", "(LRadixPages;II[J)I"⟩
abbrev cL_poke : ByteArray := method_6_code
def yL_poke : MethodName := ⟨RL, "poke", "(LRadixPages;III[J)I"⟩
abbrev cL_law : ByteArray := code
def yL_law : MethodName := ⟨RL, "law", "([I)Z"⟩
abbrev vwCl : List vw_C := [(RX0, TX0, 3), (RX3, TX3, 13), (RX5, TX5, 1), (RX6, TX6, 4), (RX7, TX7, 2), (RX8, TX8, 8), (RX9, TX9, 6), (RX10, TX10, 27)]
