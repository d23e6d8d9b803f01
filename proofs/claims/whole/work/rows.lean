section
-- ===== PART A: goes FIRST, ahead of the names: the tables' words, and 'selects' of the private methods out of them =====
/-- a private method of a class that the tables say can be made, by its rows of tables_1 -/
def lw_okq (q : MethodName × Nat) : Prop := (q.1.cls ≠ "java/lang/invoke/MethodHandle" ∧ q.1.cls ≠ "java/lang/invoke/VarHandle") ∧ Cond.instantiable q.1.cls q.2 ∈ tables_1 ∧ Cond.privateMethod q.1 ∈ tables_1 ∧ Cond.instanceMethod q.1 ∈ tables_1
theorem lw_p0 : lw_okq (⟨"RadixPages$Node", "reset", "()V"⟩, 13) := ⟨⟨by decide +kernel, by decide +kernel⟩, List.mem_of_getElem? (i := 53) (by decide +kernel), List.mem_of_getElem? (i := 59) (by decide +kernel), List.mem_of_getElem? (i := 60) (by decide +kernel)⟩
theorem lw_p1 : lw_okq (⟨"RadixPages$Tree", "storeFirst", "(LRadixPages$Tape;J)I"⟩, 8) := ⟨⟨by decide +kernel, by decide +kernel⟩, List.mem_of_getElem? (i := 46) (by decide +kernel), List.mem_of_getElem? (i := 262) (by decide +kernel), List.mem_of_getElem? (i := 263) (by decide +kernel)⟩
theorem lw_p2 : lw_okq (⟨"RadixPages$Node", "setPrefixAt", "(II)V"⟩, 13) := ⟨⟨by decide +kernel, by decide +kernel⟩, List.mem_of_getElem? (i := 53) (by decide +kernel), List.mem_of_getElem? (i := 271) (by decide +kernel), List.mem_of_getElem? (i := 272) (by decide +kernel)⟩
theorem lw_p3 : lw_okq (⟨"RadixPages$Tree", "storeHere", "(J)I"⟩, 8) := ⟨⟨by decide +kernel, by decide +kernel⟩, List.mem_of_getElem? (i := 46) (by decide +kernel), List.mem_of_getElem? (i := 275) (by decide +kernel), List.mem_of_getElem? (i := 276) (by decide +kernel)⟩
theorem lw_p4 : lw_okq (⟨"RadixPages$Tree", "seek", "(LRadixPages$Tape;)V"⟩, 8) := ⟨⟨by decide +kernel, by decide +kernel⟩, List.mem_of_getElem? (i := 46) (by decide +kernel), List.mem_of_getElem? (i := 287) (by decide +kernel), List.mem_of_getElem? (i := 288) (by decide +kernel)⟩
theorem lw_p5 : lw_okq (⟨"RadixPages$Tree", "stepFrom", "(LRadixPages$Node;LRadixPages$Tape;)LRadixPages$Node;"⟩, 8) := ⟨⟨by decide +kernel, by decide +kernel⟩, List.mem_of_getElem? (i := 46) (by decide +kernel), List.mem_of_getElem? (i := 300) (by decide +kernel), List.mem_of_getElem? (i := 301) (by decide +kernel)⟩
theorem lw_p6 : lw_okq (⟨"RadixPages$Tree", "storeByCut", "(LRadixPages$Tape;J)I"⟩, 8) := ⟨⟨by decide +kernel, by decide +kernel⟩, List.mem_of_getElem? (i := 46) (by decide +kernel), List.mem_of_getElem? (i := 312) (by decide +kernel), List.mem_of_getElem? (i := 313) (by decide +kernel)⟩
theorem lw_p7 : lw_okq (⟨"RadixPages$Tree", "insertAbove", "(LRadixPages$Node;LRadixPages$Node;)V"⟩, 8) := ⟨⟨by decide +kernel, by decide +kernel⟩, List.mem_of_getElem? (i := 46) (by decide +kernel), List.mem_of_getElem? (i := 320) (by decide +kernel), List.mem_of_getElem? (i := 321) (by decide +kernel)⟩
theorem lw_p8 : lw_okq (⟨"RadixPages$Tree", "putInPlace", "(LRadixPages$Node;LRadixPages$Node;)V"⟩, 8) := ⟨⟨by decide +kernel, by decide +kernel⟩, List.mem_of_getElem? (i := 46) (by decide +kernel), List.mem_of_getElem? (i := 325) (by decide +kernel), List.mem_of_getElem? (i := 326) (by decide +kernel)⟩
theorem lw_p9 : lw_okq (⟨"RadixPages$Node", "lastBelow", "(I)LRadixPages$Node;"⟩, 13) := ⟨⟨by decide +kernel, by decide +kernel⟩, List.mem_of_getElem? (i := 53) (by decide +kernel), List.mem_of_getElem? (i := 333) (by decide +kernel), List.mem_of_getElem? (i := 334) (by decide +kernel)⟩
theorem lw_p10 : lw_okq (⟨"RadixPages$Node", "setNextOf", "(LRadixPages$Node;LRadixPages$Node;)V"⟩, 13) := ⟨⟨by decide +kernel, by decide +kernel⟩, List.mem_of_getElem? (i := 53) (by decide +kernel), List.mem_of_getElem? (i := 337) (by decide +kernel), List.mem_of_getElem? (i := 338) (by decide +kernel)⟩
theorem lw_p11 : lw_okq (⟨"RadixPages$Tree", "hang", "(LRadixPages$Node;LRadixPages$Node;LRadixPages$Tape;J)V"⟩, 8) := ⟨⟨by decide +kernel, by decide +kernel⟩, List.mem_of_getElem? (i := 46) (by decide +kernel), List.mem_of_getElem? (i := 360) (by decide +kernel), List.mem_of_getElem? (i := 361) (by decide +kernel)⟩
theorem lw_p12 : lw_okq (⟨"RadixPages$Tree", "storeByChild", "(LRadixPages$Tape;J)I"⟩, 8) := ⟨⟨by decide +kernel, by decide +kernel⟩, List.mem_of_getElem? (i := 46) (by decide +kernel), List.mem_of_getElem? (i := 364) (by decide +kernel), List.mem_of_getElem? (i := 365) (by decide +kernel)⟩
theorem lw_p13 : lw_okq (⟨"RadixPages$Tree", "join", "(LRadixPages$Node;)V"⟩, 8) := ⟨⟨by decide +kernel, by decide +kernel⟩, List.mem_of_getElem? (i := 46) (by decide +kernel), List.mem_of_getElem? (i := 384) (by decide +kernel), List.mem_of_getElem? (i := 385) (by decide +kernel)⟩
theorem lw_p14 : lw_okq (⟨"RadixPages$Tree", "release", "(LRadixPages$Node;)V"⟩, 8) := ⟨⟨by decide +kernel, by decide +kernel⟩, List.mem_of_getElem? (i := 46) (by decide +kernel), List.mem_of_getElem? (i := 395) (by decide +kernel), List.mem_of_getElem? (i := 396) (by decide +kernel)⟩
theorem lw_p15 : lw_okq (⟨"RadixPages$Tree", "detach", "(LRadixPages$Node;LRadixPages$Node;)V"⟩, 8) := ⟨⟨by decide +kernel, by decide +kernel⟩, List.mem_of_getElem? (i := 46) (by decide +kernel), List.mem_of_getElem? (i := 399) (by decide +kernel), List.mem_of_getElem? (i := 400) (by decide +kernel)⟩
def lw_privs_1 : List (MethodName × Nat) := [(⟨"RadixPages$Node", "reset", "()V"⟩, 13), (⟨"RadixPages$Tree", "storeFirst", "(LRadixPages$Tape;J)I"⟩, 8), (⟨"RadixPages$Node", "setPrefixAt", "(II)V"⟩, 13), (⟨"RadixPages$Tree", "storeHere", "(J)I"⟩, 8), (⟨"RadixPages$Tree", "seek", "(LRadixPages$Tape;)V"⟩, 8), (⟨"RadixPages$Tree", "stepFrom", "(LRadixPages$Node;LRadixPages$Tape;)LRadixPages$Node;"⟩, 8), (⟨"RadixPages$Tree", "storeByCut", "(LRadixPages$Tape;J)I"⟩, 8), (⟨"RadixPages$Tree", "insertAbove", "(LRadixPages$Node;LRadixPages$Node;)V"⟩, 8), (⟨"RadixPages$Tree", "putInPlace", "(LRadixPages$Node;LRadixPages$Node;)V"⟩, 8), (⟨"RadixPages$Node", "lastBelow", "(I)LRadixPages$Node;"⟩, 13), (⟨"RadixPages$Node", "setNextOf", "(LRadixPages$Node;LRadixPages$Node;)V"⟩, 13), (⟨"RadixPages$Tree", "hang", "(LRadixPages$Node;LRadixPages$Node;LRadixPages$Tape;J)V"⟩, 8), (⟨"RadixPages$Tree", "storeByChild", "(LRadixPages$Tape;J)I"⟩, 8), (⟨"RadixPages$Tree", "join", "(LRadixPages$Node;)V"⟩, 8), (⟨"RadixPages$Tree", "release", "(LRadixPages$Node;)V"⟩, 8), (⟨"RadixPages$Tree", "detach", "(LRadixPages$Node;LRadixPages$Node;)V"⟩, 8)]
theorem lw_r1 : ∀ q ∈ lw_privs_1, lw_okq q := List.forall_mem_cons.mpr ⟨lw_p0, List.forall_mem_cons.mpr ⟨lw_p1, List.forall_mem_cons.mpr ⟨lw_p2, List.forall_mem_cons.mpr ⟨lw_p3, List.forall_mem_cons.mpr ⟨lw_p4, List.forall_mem_cons.mpr ⟨lw_p5, List.forall_mem_cons.mpr ⟨lw_p6, List.forall_mem_cons.mpr ⟨lw_p7, List.forall_mem_cons.mpr ⟨lw_p8, List.forall_mem_cons.mpr ⟨lw_p9, List.forall_mem_cons.mpr ⟨lw_p10, List.forall_mem_cons.mpr ⟨lw_p11, List.forall_mem_cons.mpr ⟨lw_p12, List.forall_mem_cons.mpr ⟨lw_p13, List.forall_mem_cons.mpr ⟨lw_p14, List.forall_mem_cons.mpr ⟨lw_p15, fun _ h => absurd h List.not_mem_nil⟩⟩⟩⟩⟩⟩⟩⟩⟩⟩⟩⟩⟩⟩⟩⟩
theorem lw_p16 : lw_okq (⟨"RadixPages$Tree", "firstNotAhead", "(LRadixPages$Tape;)LRadixPages$Node;"⟩, 8) := ⟨⟨by decide +kernel, by decide +kernel⟩, List.mem_of_getElem? (i := 46) (by decide +kernel), List.mem_of_getElem? (i := 445) (by decide +kernel), List.mem_of_getElem? (i := 446) (by decide +kernel)⟩
theorem lw_p17 : lw_okq (⟨"RadixPages", "freePages", "()I"⟩, 6) := ⟨⟨by decide +kernel, by decide +kernel⟩, List.mem_of_getElem? (i := 21) (by decide +kernel), List.mem_of_getElem? (i := 478) (by decide +kernel), List.mem_of_getElem? (i := 479) (by decide +kernel)⟩
theorem lw_p18 : lw_okq (⟨"RadixPages$Store", "markPagesOf", "(LRadixPages$Tree;)V"⟩, 4) := ⟨⟨by decide +kernel, by decide +kernel⟩, List.mem_of_getElem? (i := 172) (by decide +kernel), List.mem_of_getElem? (i := 490) (by decide +kernel), List.mem_of_getElem? (i := 491) (by decide +kernel)⟩
theorem lw_p19 : lw_okq (⟨"RadixPages$Store", "freeAllPages", "()V"⟩, 4) := ⟨⟨by decide +kernel, by decide +kernel⟩, List.mem_of_getElem? (i := 172) (by decide +kernel), List.mem_of_getElem? (i := 494) (by decide +kernel), List.mem_of_getElem? (i := 495) (by decide +kernel)⟩
theorem lw_p20 : lw_okq (⟨"RadixPages$Store", "takePage", "(I)Z"⟩, 4) := ⟨⟨by decide +kernel, by decide +kernel⟩, List.mem_of_getElem? (i := 172) (by decide +kernel), List.mem_of_getElem? (i := 498) (by decide +kernel), List.mem_of_getElem? (i := 499) (by decide +kernel)⟩
theorem lw_p21 : lw_okq (⟨"RadixPages$Store", "saveNode", "(LRadixPages$Node;)Z"⟩, 4) := ⟨⟨by decide +kernel, by decide +kernel⟩, List.mem_of_getElem? (i := 172) (by decide +kernel), List.mem_of_getElem? (i := 507) (by decide +kernel), List.mem_of_getElem? (i := 508) (by decide +kernel)⟩
theorem lw_p22 : lw_okq (⟨"RadixPages$Store", "takeLeastPage", "()I"⟩, 4) := ⟨⟨by decide +kernel, by decide +kernel⟩, List.mem_of_getElem? (i := 172) (by decide +kernel), List.mem_of_getElem? (i := 511) (by decide +kernel), List.mem_of_getElem? (i := 512) (by decide +kernel)⟩
theorem lw_p23 : lw_okq (⟨"RadixPages$Store", "rightSequence", "(I)I"⟩, 4) := ⟨⟨by decide +kernel, by decide +kernel⟩, List.mem_of_getElem? (i := 172) (by decide +kernel), List.mem_of_getElem? (i := 628) (by decide +kernel), List.mem_of_getElem? (i := 629) (by decide +kernel)⟩
theorem lw_p24 : lw_okq (⟨"RadixPages$Store", "loadBy", "(ILRadixPages$Tree;)Z"⟩, 4) := ⟨⟨by decide +kernel, by decide +kernel⟩, List.mem_of_getElem? (i := 172) (by decide +kernel), List.mem_of_getElem? (i := 661) (by decide +kernel), List.mem_of_getElem? (i := 662) (by decide +kernel)⟩
theorem lw_p25 : lw_okq (⟨"RadixPages$Store", "loadNode", "(LRadixPages$Node;LRadixPages$Tree;)Z"⟩, 4) := ⟨⟨by decide +kernel, by decide +kernel⟩, List.mem_of_getElem? (i := 172) (by decide +kernel), List.mem_of_getElem? (i := 666) (by decide +kernel), List.mem_of_getElem? (i := 667) (by decide +kernel)⟩
theorem lw_p26 : lw_okq (⟨"RadixPages$Store", "hangListed", "(LRadixPages$Node;LRadixPages$Tree;I)Z"⟩, 4) := ⟨⟨by decide +kernel, by decide +kernel⟩, List.mem_of_getElem? (i := 172) (by decide +kernel), List.mem_of_getElem? (i := 679) (by decide +kernel), List.mem_of_getElem? (i := 680) (by decide +kernel)⟩
theorem lw_p27 : lw_okq (⟨"RadixPages$Store", "hangBehind", "(LRadixPages$Node;LRadixPages$Node;LRadixPages$Node;II)Z"⟩, 4) := ⟨⟨by decide +kernel, by decide +kernel⟩, List.mem_of_getElem? (i := 172) (by decide +kernel), List.mem_of_getElem? (i := 684) (by decide +kernel), List.mem_of_getElem? (i := 685) (by decide +kernel)⟩
theorem lw_p28 : lw_okq (⟨"RadixPages$Store", "hangMapped", "(LRadixPages$Node;LRadixPages$Tree;)Z"⟩, 4) := ⟨⟨by decide +kernel, by decide +kernel⟩, List.mem_of_getElem? (i := 172) (by decide +kernel), List.mem_of_getElem? (i := 689) (by decide +kernel), List.mem_of_getElem? (i := 690) (by decide +kernel)⟩
theorem lw_p29 : lw_okq (⟨"java/lang/Throwable", "fillInStackTrace", "(I)Ljava/lang/Throwable;"⟩, 6) := ⟨⟨by decide +kernel, by decide +kernel⟩, List.mem_of_getElem? (i := 750) (by decide +kernel), List.mem_of_getElem? (i := 748) (by decide +kernel), List.mem_of_getElem? (i := 749) (by decide +kernel)⟩
theorem lw_p30 : lw_okq (⟨"RadixPagesModel", "clear", "()V"⟩, 27) := ⟨⟨by decide +kernel, by decide +kernel⟩, List.mem_of_getElem? (i := 845) (by decide +kernel), List.mem_of_getElem? (i := 852) (by decide +kernel), List.mem_of_getElem? (i := 853) (by decide +kernel)⟩
theorem lw_p31 : lw_okq (⟨"RadixPagesModel", "newNode", "(II)I"⟩, 27) := ⟨⟨by decide +kernel, by decide +kernel⟩, List.mem_of_getElem? (i := 845) (by decide +kernel), List.mem_of_getElem? (i := 856) (by decide +kernel), List.mem_of_getElem? (i := 857) (by decide +kernel)⟩
def lw_privs_2 : List (MethodName × Nat) := [(⟨"RadixPages$Tree", "firstNotAhead", "(LRadixPages$Tape;)LRadixPages$Node;"⟩, 8), (⟨"RadixPages", "freePages", "()I"⟩, 6), (⟨"RadixPages$Store", "markPagesOf", "(LRadixPages$Tree;)V"⟩, 4), (⟨"RadixPages$Store", "freeAllPages", "()V"⟩, 4), (⟨"RadixPages$Store", "takePage", "(I)Z"⟩, 4), (⟨"RadixPages$Store", "saveNode", "(LRadixPages$Node;)Z"⟩, 4), (⟨"RadixPages$Store", "takeLeastPage", "()I"⟩, 4), (⟨"RadixPages$Store", "rightSequence", "(I)I"⟩, 4), (⟨"RadixPages$Store", "loadBy", "(ILRadixPages$Tree;)Z"⟩, 4), (⟨"RadixPages$Store", "loadNode", "(LRadixPages$Node;LRadixPages$Tree;)Z"⟩, 4), (⟨"RadixPages$Store", "hangListed", "(LRadixPages$Node;LRadixPages$Tree;I)Z"⟩, 4), (⟨"RadixPages$Store", "hangBehind", "(LRadixPages$Node;LRadixPages$Node;LRadixPages$Node;II)Z"⟩, 4), (⟨"RadixPages$Store", "hangMapped", "(LRadixPages$Node;LRadixPages$Tree;)Z"⟩, 4), (⟨"java/lang/Throwable", "fillInStackTrace", "(I)Ljava/lang/Throwable;"⟩, 6), (⟨"RadixPagesModel", "clear", "()V"⟩, 27), (⟨"RadixPagesModel", "newNode", "(II)I"⟩, 27)]
theorem lw_r2 : ∀ q ∈ lw_privs_2, lw_okq q := List.forall_mem_cons.mpr ⟨lw_p16, List.forall_mem_cons.mpr ⟨lw_p17, List.forall_mem_cons.mpr ⟨lw_p18, List.forall_mem_cons.mpr ⟨lw_p19, List.forall_mem_cons.mpr ⟨lw_p20, List.forall_mem_cons.mpr ⟨lw_p21, List.forall_mem_cons.mpr ⟨lw_p22, List.forall_mem_cons.mpr ⟨lw_p23, List.forall_mem_cons.mpr ⟨lw_p24, List.forall_mem_cons.mpr ⟨lw_p25, List.forall_mem_cons.mpr ⟨lw_p26, List.forall_mem_cons.mpr ⟨lw_p27, List.forall_mem_cons.mpr ⟨lw_p28, List.forall_mem_cons.mpr ⟨lw_p29, List.forall_mem_cons.mpr ⟨lw_p30, List.forall_mem_cons.mpr ⟨lw_p31, fun _ h => absurd h List.not_mem_nil⟩⟩⟩⟩⟩⟩⟩⟩⟩⟩⟩⟩⟩⟩⟩⟩
theorem lw_p32 : lw_okq (⟨"RadixPagesModel", "keep", "()V"⟩, 27) := ⟨⟨by decide +kernel, by decide +kernel⟩, List.mem_of_getElem? (i := 845) (by decide +kernel), List.mem_of_getElem? (i := 860) (by decide +kernel), List.mem_of_getElem? (i := 861) (by decide +kernel)⟩
theorem lw_p33 : lw_okq (⟨"RadixPagesModel", "copy", "(II)V"⟩, 27) := ⟨⟨by decide +kernel, by decide +kernel⟩, List.mem_of_getElem? (i := 845) (by decide +kernel), List.mem_of_getElem? (i := 864) (by decide +kernel), List.mem_of_getElem? (i := 865) (by decide +kernel)⟩
theorem lw_p34 : lw_okq (⟨"RadixPagesModel", "isKey", "()Z"⟩, 27) := ⟨⟨by decide +kernel, by decide +kernel⟩, List.mem_of_getElem? (i := 845) (by decide +kernel), List.mem_of_getElem? (i := 976) (by decide +kernel), List.mem_of_getElem? (i := 977) (by decide +kernel)⟩
theorem lw_p35 : lw_okq (⟨"RadixPagesModel", "isFound", "()Z"⟩, 27) := ⟨⟨by decide +kernel, by decide +kernel⟩, List.mem_of_getElem? (i := 845) (by decide +kernel), List.mem_of_getElem? (i := 981) (by decide +kernel), List.mem_of_getElem? (i := 982) (by decide +kernel)⟩
theorem lw_p36 : lw_okq (⟨"RadixPagesModel", "seek", "()V"⟩, 27) := ⟨⟨by decide +kernel, by decide +kernel⟩, List.mem_of_getElem? (i := 845) (by decide +kernel), List.mem_of_getElem? (i := 985) (by decide +kernel), List.mem_of_getElem? (i := 986) (by decide +kernel)⟩
theorem lw_p37 : lw_okq (⟨"RadixPagesModel", "child", "(II)I"⟩, 27) := ⟨⟨by decide +kernel, by decide +kernel⟩, List.mem_of_getElem? (i := 845) (by decide +kernel), List.mem_of_getElem? (i := 989) (by decide +kernel), List.mem_of_getElem? (i := 990) (by decide +kernel)⟩
theorem lw_p38 : lw_okq (⟨"RadixPagesModel", "childFrom", "(II)I"⟩, 27) := ⟨⟨by decide +kernel, by decide +kernel⟩, List.mem_of_getElem? (i := 845) (by decide +kernel), List.mem_of_getElem? (i := 993) (by decide +kernel), List.mem_of_getElem? (i := 994) (by decide +kernel)⟩
theorem lw_p39 : lw_okq (⟨"RadixPagesModel", "freshen", "(I)V"⟩, 27) := ⟨⟨by decide +kernel, by decide +kernel⟩, List.mem_of_getElem? (i := 845) (by decide +kernel), List.mem_of_getElem? (i := 997) (by decide +kernel), List.mem_of_getElem? (i := 998) (by decide +kernel)⟩
theorem lw_p40 : lw_okq (⟨"RadixPagesModel", "children", "(I)I"⟩, 27) := ⟨⟨by decide +kernel, by decide +kernel⟩, List.mem_of_getElem? (i := 845) (by decide +kernel), List.mem_of_getElem? (i := 1001) (by decide +kernel), List.mem_of_getElem? (i := 1002) (by decide +kernel)⟩
theorem lw_p41 : lw_okq (⟨"RadixPagesModel", "setPrefix", "(II)V"⟩, 27) := ⟨⟨by decide +kernel, by decide +kernel⟩, List.mem_of_getElem? (i := 845) (by decide +kernel), List.mem_of_getElem? (i := 1005) (by decide +kernel), List.mem_of_getElem? (i := 1006) (by decide +kernel)⟩
theorem lw_p42 : lw_okq (⟨"RadixPagesModel", "give", "(IJ)V"⟩, 27) := ⟨⟨by decide +kernel, by decide +kernel⟩, List.mem_of_getElem? (i := 845) (by decide +kernel), List.mem_of_getElem? (i := 1009) (by decide +kernel), List.mem_of_getElem? (i := 1010) (by decide +kernel)⟩
theorem lw_p43 : lw_okq (⟨"RadixPagesModel", "nodes", "()I"⟩, 27) := ⟨⟨by decide +kernel, by decide +kernel⟩, List.mem_of_getElem? (i := 845) (by decide +kernel), List.mem_of_getElem? (i := 1013) (by decide +kernel), List.mem_of_getElem? (i := 1014) (by decide +kernel)⟩
theorem lw_p44 : lw_okq (⟨"RadixPagesModel", "cutInTwo", "()V"⟩, 27) := ⟨⟨by decide +kernel, by decide +kernel⟩, List.mem_of_getElem? (i := 845) (by decide +kernel), List.mem_of_getElem? (i := 1017) (by decide +kernel), List.mem_of_getElem? (i := 1018) (by decide +kernel)⟩
theorem lw_p45 : lw_okq (⟨"RadixPagesModel", "putTogether", "(I)V"⟩, 27) := ⟨⟨by decide +kernel, by decide +kernel⟩, List.mem_of_getElem? (i := 845) (by decide +kernel), List.mem_of_getElem? (i := 1028) (by decide +kernel), List.mem_of_getElem? (i := 1029) (by decide +kernel)⟩
theorem lw_p46 : lw_okq (⟨"RadixPagesModel", "countKeys", "(Z)I"⟩, 27) := ⟨⟨by decide +kernel, by decide +kernel⟩, List.mem_of_getElem? (i := 845) (by decide +kernel), List.mem_of_getElem? (i := 1040) (by decide +kernel), List.mem_of_getElem? (i := 1041) (by decide +kernel)⟩
theorem lw_p47 : lw_okq (⟨"RadixPagesModel", "tell", "(I)V"⟩, 27) := ⟨⟨by decide +kernel, by decide +kernel⟩, List.mem_of_getElem? (i := 845) (by decide +kernel), List.mem_of_getElem? (i := 1044) (by decide +kernel), List.mem_of_getElem? (i := 1045) (by decide +kernel)⟩
def lw_privs_3 : List (MethodName × Nat) := [(⟨"RadixPagesModel", "keep", "()V"⟩, 27), (⟨"RadixPagesModel", "copy", "(II)V"⟩, 27), (⟨"RadixPagesModel", "isKey", "()Z"⟩, 27), (⟨"RadixPagesModel", "isFound", "()Z"⟩, 27), (⟨"RadixPagesModel", "seek", "()V"⟩, 27), (⟨"RadixPagesModel", "child", "(II)I"⟩, 27), (⟨"RadixPagesModel", "childFrom", "(II)I"⟩, 27), (⟨"RadixPagesModel", "freshen", "(I)V"⟩, 27), (⟨"RadixPagesModel", "children", "(I)I"⟩, 27), (⟨"RadixPagesModel", "setPrefix", "(II)V"⟩, 27), (⟨"RadixPagesModel", "give", "(IJ)V"⟩, 27), (⟨"RadixPagesModel", "nodes", "()I"⟩, 27), (⟨"RadixPagesModel", "cutInTwo", "()V"⟩, 27), (⟨"RadixPagesModel", "putTogether", "(I)V"⟩, 27), (⟨"RadixPagesModel", "countKeys", "(Z)I"⟩, 27), (⟨"RadixPagesModel", "tell", "(I)V"⟩, 27)]
theorem lw_r3 : ∀ q ∈ lw_privs_3, lw_okq q := List.forall_mem_cons.mpr ⟨lw_p32, List.forall_mem_cons.mpr ⟨lw_p33, List.forall_mem_cons.mpr ⟨lw_p34, List.forall_mem_cons.mpr ⟨lw_p35, List.forall_mem_cons.mpr ⟨lw_p36, List.forall_mem_cons.mpr ⟨lw_p37, List.forall_mem_cons.mpr ⟨lw_p38, List.forall_mem_cons.mpr ⟨lw_p39, List.forall_mem_cons.mpr ⟨lw_p40, List.forall_mem_cons.mpr ⟨lw_p41, List.forall_mem_cons.mpr ⟨lw_p42, List.forall_mem_cons.mpr ⟨lw_p43, List.forall_mem_cons.mpr ⟨lw_p44, List.forall_mem_cons.mpr ⟨lw_p45, List.forall_mem_cons.mpr ⟨lw_p46, List.forall_mem_cons.mpr ⟨lw_p47, fun _ h => absurd h List.not_mem_nil⟩⟩⟩⟩⟩⟩⟩⟩⟩⟩⟩⟩⟩⟩⟩⟩
theorem lw_p48 : lw_okq (⟨"RadixPagesModel", "lead", "(I)I"⟩, 27) := ⟨⟨by decide +kernel, by decide +kernel⟩, List.mem_of_getElem? (i := 845) (by decide +kernel), List.mem_of_getElem? (i := 1048) (by decide +kernel), List.mem_of_getElem? (i := 1049) (by decide +kernel)⟩
theorem lw_p49 : lw_okq (⟨"RadixPagesModel", "begins", "()Z"⟩, 27) := ⟨⟨by decide +kernel, by decide +kernel⟩, List.mem_of_getElem? (i := 845) (by decide +kernel), List.mem_of_getElem? (i := 1052) (by decide +kernel), List.mem_of_getElem? (i := 1053) (by decide +kernel)⟩
theorem lw_p50 : lw_okq (⟨"RadixPagesModel", "isBefore", "()Z"⟩, 27) := ⟨⟨by decide +kernel, by decide +kernel⟩, List.mem_of_getElem? (i := 845) (by decide +kernel), List.mem_of_getElem? (i := 1056) (by decide +kernel), List.mem_of_getElem? (i := 1057) (by decide +kernel)⟩
theorem lw_p51 : lw_okq (⟨"RadixPagesModel", "next", "(I)I"⟩, 27) := ⟨⟨by decide +kernel, by decide +kernel⟩, List.mem_of_getElem? (i := 845) (by decide +kernel), List.mem_of_getElem? (i := 1060) (by decide +kernel), List.mem_of_getElem? (i := 1061) (by decide +kernel)⟩
theorem lw_p52 : lw_okq (⟨"RadixPagesModel", "keys", "()I"⟩, 27) := ⟨⟨by decide +kernel, by decide +kernel⟩, List.mem_of_getElem? (i := 845) (by decide +kernel), List.mem_of_getElem? (i := 1072) (by decide +kernel), List.mem_of_getElem? (i := 1073) (by decide +kernel)⟩
theorem lw_p53 : lw_okq (⟨"RadixPagesModel", "freshMany", "()I"⟩, 27) := ⟨⟨by decide +kernel, by decide +kernel⟩, List.mem_of_getElem? (i := 845) (by decide +kernel), List.mem_of_getElem? (i := 1080) (by decide +kernel), List.mem_of_getElem? (i := 1081) (by decide +kernel)⟩
theorem lw_p54 : lw_okq (⟨"RadixPagesModel", "findTaken", "()I"⟩, 27) := ⟨⟨by decide +kernel, by decide +kernel⟩, List.mem_of_getElem? (i := 845) (by decide +kernel), List.mem_of_getElem? (i := 1084) (by decide +kernel), List.mem_of_getElem? (i := 1085) (by decide +kernel)⟩
theorem lw_p55 : lw_okq (⟨"RadixPagesModel", "deepest", "(I)I"⟩, 27) := ⟨⟨by decide +kernel, by decide +kernel⟩, List.mem_of_getElem? (i := 845) (by decide +kernel), List.mem_of_getElem? (i := 1088) (by decide +kernel), List.mem_of_getElem? (i := 1089) (by decide +kernel)⟩
theorem lw_p56 : lw_okq (⟨"RadixPagesModel", "writeNode", "(I)Z"⟩, 27) := ⟨⟨by decide +kernel, by decide +kernel⟩, List.mem_of_getElem? (i := 845) (by decide +kernel), List.mem_of_getElem? (i := 1092) (by decide +kernel), List.mem_of_getElem? (i := 1093) (by decide +kernel)⟩
theorem lw_p57 : lw_okq (⟨"RadixPagesModel", "beginSheet", "()V"⟩, 27) := ⟨⟨by decide +kernel, by decide +kernel⟩, List.mem_of_getElem? (i := 845) (by decide +kernel), List.mem_of_getElem? (i := 1096) (by decide +kernel), List.mem_of_getElem? (i := 1097) (by decide +kernel)⟩
theorem lw_p58 : lw_okq (⟨"RadixPagesModel", "number", "(IIJ)V"⟩, 27) := ⟨⟨by decide +kernel, by decide +kernel⟩, List.mem_of_getElem? (i := 845) (by decide +kernel), List.mem_of_getElem? (i := 1100) (by decide +kernel), List.mem_of_getElem? (i := 1101) (by decide +kernel)⟩
theorem lw_p59 : lw_okq (⟨"RadixPagesModel", "write", "(I)Z"⟩, 27) := ⟨⟨by decide +kernel, by decide +kernel⟩, List.mem_of_getElem? (i := 845) (by decide +kernel), List.mem_of_getElem? (i := 1104) (by decide +kernel), List.mem_of_getElem? (i := 1105) (by decide +kernel)⟩
theorem lw_p60 : lw_okq (⟨"RadixPagesModel", "depth", "()I"⟩, 27) := ⟨⟨by decide +kernel, by decide +kernel⟩, List.mem_of_getElem? (i := 845) (by decide +kernel), List.mem_of_getElem? (i := 1121) (by decide +kernel), List.mem_of_getElem? (i := 1122) (by decide +kernel)⟩
theorem lw_p61 : lw_okq (⟨"RadixPagesModel", "ofNode", "(II)I"⟩, 27) := ⟨⟨by decide +kernel, by decide +kernel⟩, List.mem_of_getElem? (i := 845) (by decide +kernel), List.mem_of_getElem? (i := 1130) (by decide +kernel), List.mem_of_getElem? (i := 1131) (by decide +kernel)⟩
theorem lw_p62 : lw_okq (⟨"RadixPagesModel", "headOf", "(I)J"⟩, 27) := ⟨⟨by decide +kernel, by decide +kernel⟩, List.mem_of_getElem? (i := 845) (by decide +kernel), List.mem_of_getElem? (i := 1149) (by decide +kernel), List.mem_of_getElem? (i := 1150) (by decide +kernel)⟩
theorem lw_p63 : lw_okq (⟨"RadixPagesModel", "readTree", "(IJ)Z"⟩, 27) := ⟨⟨by decide +kernel, by decide +kernel⟩, List.mem_of_getElem? (i := 845) (by decide +kernel), List.mem_of_getElem? (i := 1157) (by decide +kernel), List.mem_of_getElem? (i := 1158) (by decide +kernel)⟩
def lw_privs_4 : List (MethodName × Nat) := [(⟨"RadixPagesModel", "lead", "(I)I"⟩, 27), (⟨"RadixPagesModel", "begins", "()Z"⟩, 27), (⟨"RadixPagesModel", "isBefore", "()Z"⟩, 27), (⟨"RadixPagesModel", "next", "(I)I"⟩, 27), (⟨"RadixPagesModel", "keys", "()I"⟩, 27), (⟨"RadixPagesModel", "freshMany", "()I"⟩, 27), (⟨"RadixPagesModel", "findTaken", "()I"⟩, 27), (⟨"RadixPagesModel", "deepest", "(I)I"⟩, 27), (⟨"RadixPagesModel", "writeNode", "(I)Z"⟩, 27), (⟨"RadixPagesModel", "beginSheet", "()V"⟩, 27), (⟨"RadixPagesModel", "number", "(IIJ)V"⟩, 27), (⟨"RadixPagesModel", "write", "(I)Z"⟩, 27), (⟨"RadixPagesModel", "depth", "()I"⟩, 27), (⟨"RadixPagesModel", "ofNode", "(II)I"⟩, 27), (⟨"RadixPagesModel", "headOf", "(I)J"⟩, 27), (⟨"RadixPagesModel", "readTree", "(IJ)Z"⟩, 27)]
theorem lw_r4 : ∀ q ∈ lw_privs_4, lw_okq q := List.forall_mem_cons.mpr ⟨lw_p48, List.forall_mem_cons.mpr ⟨lw_p49, List.forall_mem_cons.mpr ⟨lw_p50, List.forall_mem_cons.mpr ⟨lw_p51, List.forall_mem_cons.mpr ⟨lw_p52, List.forall_mem_cons.mpr ⟨lw_p53, List.forall_mem_cons.mpr ⟨lw_p54, List.forall_mem_cons.mpr ⟨lw_p55, List.forall_mem_cons.mpr ⟨lw_p56, List.forall_mem_cons.mpr ⟨lw_p57, List.forall_mem_cons.mpr ⟨lw_p58, List.forall_mem_cons.mpr ⟨lw_p59, List.forall_mem_cons.mpr ⟨lw_p60, List.forall_mem_cons.mpr ⟨lw_p61, List.forall_mem_cons.mpr ⟨lw_p62, List.forall_mem_cons.mpr ⟨lw_p63, fun _ h => absurd h List.not_mem_nil⟩⟩⟩⟩⟩⟩⟩⟩⟩⟩⟩⟩⟩⟩⟩⟩
theorem lw_p64 : lw_okq (⟨"RadixPagesModel", "readNode", "(I)Z"⟩, 27) := ⟨⟨by decide +kernel, by decide +kernel⟩, List.mem_of_getElem? (i := 845) (by decide +kernel), List.mem_of_getElem? (i := 1161) (by decide +kernel), List.mem_of_getElem? (i := 1162) (by decide +kernel)⟩
theorem lw_p65 : lw_okq (⟨"RadixPagesModel", "readChildren", "(IIII)Z"⟩, 27) := ⟨⟨by decide +kernel, by decide +kernel⟩, List.mem_of_getElem? (i := 845) (by decide +kernel), List.mem_of_getElem? (i := 1166) (by decide +kernel), List.mem_of_getElem? (i := 1167) (by decide +kernel)⟩
def lw_privs_5 : List (MethodName × Nat) := [(⟨"RadixPagesModel", "readNode", "(I)Z"⟩, 27), (⟨"RadixPagesModel", "readChildren", "(IIII)Z"⟩, 27)]
theorem lw_r5 : ∀ q ∈ lw_privs_5, lw_okq q := List.forall_mem_cons.mpr ⟨lw_p64, List.forall_mem_cons.mpr ⟨lw_p65, fun _ h => absurd h List.not_mem_nil⟩⟩
def lw_privs : List (MethodName × Nat) := lw_privs_1 ++ (lw_privs_2 ++ (lw_privs_3 ++ (lw_privs_4 ++ (lw_privs_5))))
def lw_tbl : List Cond := k2_sels lw_privs ++ tables_1
theorem lw_privs_ok : ∀ q ∈ lw_privs, lw_okq q := by
  show ∀ q ∈ lw_privs_1 ++ (lw_privs_2 ++ (lw_privs_3 ++ (lw_privs_4 ++ (lw_privs_5)))), lw_okq q
  exact List.forall_mem_append.mpr ⟨lw_r1, List.forall_mem_append.mpr ⟨lw_r2, List.forall_mem_append.mpr ⟨lw_r3, List.forall_mem_append.mpr ⟨lw_r4, lw_r5⟩⟩⟩⟩
def RX0 : String := "RadixPages$Disk"
def TX0 : u_T := fun k => match k with
  | 0 => ("RadixPages$Disk", "bytes", "[B", true)
  | 1 => ("RadixPages$Disk", "writesLeft", "I", false)
  | _ => ("RadixPages$Disk", "tear", "I", false)
def tyX0 : Nat → FieldType := fun k => match k with
  | 0 => .array .byte
  | 1 => .int
  | _ => .int
abbrev wsX00 : List Cond := u_ws RX0 TX0 3
theorem nmX0 : ∀ a, a < 3 → ∀ b, b < 3 → a ≠ b → (TX0 a).2.1 ≠ (TX0 b).2.1 := by decide +kernel
theorem tyX0_ok : ∀ k, k < 3 → parseFieldDescriptor (TX0 k).2.2.1 = some (tyX0 k) := by decide +kernel
abbrev cX0_init : ByteArray := prog_2_method_1_code
def yX0_init : MethodName := ⟨RX0, "<init>", "()V"⟩
abbrev cX0_has : ByteArray := prog_2_method_2_code
def yX0_has : MethodName := ⟨RX0, "has", "(II)Z"⟩
abbrev cX0_byteAt : ByteArray := prog_2_method_3_code
def yX0_byteAt : MethodName := ⟨RX0, "byteAt", "(II)I"⟩
abbrev cX0_setByte : ByteArray := prog_2_method_4_code
def yX0_setByte : MethodName := ⟨RX0, "setByte", "(III)V"⟩
abbrev cX0_setPower : ByteArray := prog_2_method_5_code
def yX0_setPower : MethodName := ⟨RX0, "setPower", "(II)V"⟩
abbrev cX0_read : ByteArray := prog_2_method_6_code
def yX0_read : MethodName := ⟨RX0, "read", "(ILRadixPages$Row;)V"⟩
abbrev cX0_write : ByteArray := prog_2_method_7_code
def yX0_write : MethodName := ⟨RX0, "write", "(ILRadixPages$Row;)Z"⟩
def RX1 : String := "RadixPages$Format"
def TX1 : u_T := fun k => match k with
  | _ => ("", "", "", false)
def tyX1 : Nat → FieldType := fun k => match k with
  | _ => .int
abbrev wsX10 : List Cond := u_ws RX1 TX1 0
theorem nmX1 : ∀ a, a < 0 → ∀ b, b < 0 → a ≠ b → (TX1 a).2.1 ≠ (TX1 b).2.1 := by decide +kernel
theorem tyX1_ok : ∀ k, k < 0 → parseFieldDescriptor (TX1 k).2.2.1 = some (tyX1 k) := by decide +kernel
abbrev cX1_is : ByteArray := prog_3_method_2_code
def yX1_is : MethodName := ⟨RX1, "is", "(I)Z"⟩
abbrev cX1_mostChildren : ByteArray := prog_3_method_3_code
def yX1_mostChildren : MethodName := ⟨RX1, "mostChildren", "(I)I"⟩
abbrev cX1_grown : ByteArray := prog_3_method_4_code
def yX1_grown : MethodName := ⟨RX1, "grown", "(II)I"⟩
abbrev cX1_shrunk : ByteArray := prog_3_method_5_code
def yX1_shrunk : MethodName := ⟨RX1, "shrunk", "(II)I"⟩
def RX2 : String := "RadixPages$HeadPage"
def TX2 : u_T := fun k => match k with
  | _ => ("", "", "", false)
def tyX2 : Nat → FieldType := fun k => match k with
  | _ => .int
abbrev wsX20 : List Cond := u_ws RX2 TX2 0
theorem nmX2 : ∀ a, a < 0 → ∀ b, b < 0 → a ≠ b → (TX2 a).2.1 ≠ (TX2 b).2.1 := by decide +kernel
theorem tyX2_ok : ∀ k, k < 0 → parseFieldDescriptor (TX2 k).2.2.1 = some (tyX2 k) := by decide +kernel
abbrev cX2_fill : ByteArray := prog_4_method_2_code
def yX2_fill : MethodName := ⟨RX2, "fill", "(LRadixPages$Row;JII)V"⟩
abbrev cX2_sequence : ByteArray := prog_4_method_3_code
def yX2_sequence : MethodName := ⟨RX2, "sequence", "(LRadixPages$Row;)J"⟩
abbrev cX2_rootPage : ByteArray := prog_4_method_4_code
def yX2_rootPage : MethodName := ⟨RX2, "rootPage", "(LRadixPages$Row;)I"⟩
abbrev cX2_keys : ByteArray := prog_4_method_5_code
def yX2_keys : MethodName := ⟨RX2, "keys", "(LRadixPages$Row;)I"⟩
def RX3 : String := "RadixPages$Node"
def TX3 : u_T := fun k => match k with
  | 0 => ("RadixPages$Node", "prefix", "[I", true)
  | 1 => ("RadixPages$Node", "prefixLength", "I", false)
  | 2 => ("RadixPages$Node", "format", "I", false)
  | 3 => ("RadixPages$Node", "hasValue", "Z", false)
  | 4 => ("RadixPages$Node", "value", "J", false)
  | 5 => ("RadixPages$Node", "children", "I", false)
  | 6 => ("RadixPages$Node", "edge", "I", false)
  | 7 => ("RadixPages$Node", "page", "I", false)
  | 8 => ("RadixPages$Node", "fresh", "Z", false)
  | 9 => ("RadixPages$Node", "parent", "LRadixPages$Node;", false)
  | 10 => ("RadixPages$Node", "first", "LRadixPages$Node;", false)
  | 11 => ("RadixPages$Node", "next", "LRadixPages$Node;", false)
  | _ => ("RadixPages$Node", "twin", "LRadixPages$Node;", false)
def tyX3 : Nat → FieldType := fun k => match k with
  | 0 => .array .int
  | 1 => .int
  | 2 => .int
  | 3 => .boolean
  | 4 => .long
  | 5 => .int
  | 6 => .int
  | 7 => .int
  | 8 => .boolean
  | 9 => .object "RadixPages$Node"
  | 10 => .object "RadixPages$Node"
  | 11 => .object "RadixPages$Node"
  | _ => .object "RadixPages$Node"
abbrev wsX30 : List Cond := u_ws RX3 TX3 13
theorem nmX3 : ∀ a, a < 13 → ∀ b, b < 13 → a ≠ b → (TX3 a).2.1 ≠ (TX3 b).2.1 := by decide +kernel
theorem tyX3_ok : ∀ k, k < 13 → parseFieldDescriptor (TX3 k).2.2.1 = some (tyX3 k) := by decide +kernel
abbrev cX3_init : ByteArray := prog_5_method_1_code
def yX3_init : MethodName := ⟨RX3, "<init>", "()V"⟩
abbrev cX3_reset : ByteArray := prog_5_method_2_code
def yX3_reset : MethodName := ⟨RX3, "reset", "()V"⟩
abbrev cX3_prefixAt : ByteArray := prog_5_method_3_code
def yX3_prefixAt : MethodName := ⟨RX3, "prefixAt", "(I)I"⟩
abbrev cX3_setPrefixAt : ByteArray := prog_5_method_4_code
def yX3_setPrefixAt : MethodName := ⟨RX3, "setPrefixAt", "(II)V"⟩
abbrev cX3_appendToPrefix : ByteArray := prog_5_method_5_code
def yX3_appendToPrefix : MethodName := ⟨RX3, "appendToPrefix", "(I)V"⟩
abbrev cX3_dropFromPrefix : ByteArray := prog_5_method_6_code
def yX3_dropFromPrefix : MethodName := ⟨RX3, "dropFromPrefix", "(I)V"⟩
abbrev cX3_takePrefixOfParent : ByteArray := prog_5_method_7_code
def yX3_takePrefixOfParent : MethodName := ⟨RX3, "takePrefixOfParent", "(LRadixPages$Node;)V"⟩
abbrev cX3_matching : ByteArray := prog_5_method_8_code
def yX3_matching : MethodName := ⟨RX3, "matching", "(LRadixPages$Tape;I)I"⟩
abbrev cX3_setValue : ByteArray := prog_5_method_9_code
def yX3_setValue : MethodName := ⟨RX3, "setValue", "(J)V"⟩
abbrev cX3_loseValue : ByteArray := prog_5_method_10_code
def yX3_loseValue : MethodName := ⟨RX3, "loseValue", "()V"⟩
abbrev cX3_lastBelow : ByteArray := prog_5_method_11_code
def yX3_lastBelow : MethodName := ⟨RX3, "lastBelow", "(I)LRadixPages$Node;"⟩
abbrev cX3_firstFrom : ByteArray := prog_5_method_12_code
def yX3_firstFrom : MethodName := ⟨RX3, "firstFrom", "(I)LRadixPages$Node;"⟩
abbrev cX3_childBy : ByteArray := prog_5_method_13_code
def yX3_childBy : MethodName := ⟨RX3, "childBy", "(I)LRadixPages$Node;"⟩
abbrev cX3_setNextOf : ByteArray := prog_5_method_14_code
def yX3_setNextOf : MethodName := ⟨RX3, "setNextOf", "(LRadixPages$Node;LRadixPages$Node;)V"⟩
abbrev cX3_gain : ByteArray := prog_5_method_15_code
def yX3_gain : MethodName := ⟨RX3, "gain", "(LRadixPages$Node;)V"⟩
abbrev cX3_lose : ByteArray := prog_5_method_16_code
def yX3_lose : MethodName := ⟨RX3, "lose", "(LRadixPages$Node;)V"⟩
abbrev cX3_yieldTo : ByteArray := prog_5_method_17_code
def yX3_yieldTo : MethodName := ⟨RX3, "yieldTo", "(LRadixPages$Node;)V"⟩
abbrev cX3_freshen : ByteArray := prog_5_method_18_code
def yX3_freshen : MethodName := ⟨RX3, "freshen", "()V"⟩
abbrev cX3_following : ByteArray := prog_5_method_19_code
def yX3_following : MethodName := ⟨RX3, "following", "()LRadixPages$Node;"⟩
abbrev cX3_behind : ByteArray := prog_5_method_20_code
def yX3_behind : MethodName := ⟨RX3, "behind", "()LRadixPages$Node;"⟩
abbrev cX3_lowest : ByteArray := prog_5_method_21_code
def yX3_lowest : MethodName := ⟨RX3, "lowest", "()LRadixPages$Node;"⟩
abbrev cX3_above : ByteArray := prog_5_method_22_code
def yX3_above : MethodName := ⟨RX3, "above", "()LRadixPages$Node;"⟩
abbrev cX3_lead : ByteArray := prog_5_method_23_code
def yX3_lead : MethodName := ⟨RX3, "lead", "()I"⟩
abbrev cX3_level : ByteArray := prog_5_method_24_code
def yX3_level : MethodName := ⟨RX3, "level", "()I"⟩
abbrev cX3_spell : ByteArray := prog_5_method_25_code
def yX3_spell : MethodName := ⟨RX3, "spell", "(LRadixPages$Tape;)V"⟩
abbrev cX3_hasReason : ByteArray := prog_5_method_26_code
def yX3_hasReason : MethodName := ⟨RX3, "hasReason", "()Z"⟩
abbrev cX3_twinOf : ByteArray := prog_5_method_27_code
def yX3_twinOf : MethodName := ⟨RX3, "twinOf", "(LRadixPages$Node;)LRadixPages$Node;"⟩
abbrev cX3_mirror : ByteArray := prog_5_method_28_code
def yX3_mirror : MethodName := ⟨RX3, "mirror", "(LRadixPages$Node;)V"⟩
def RX4 : String := "RadixPages$NodePage"
def TX4 : u_T := fun k => match k with
  | _ => ("", "", "", false)
def tyX4 : Nat → FieldType := fun k => match k with
  | _ => .int
abbrev wsX40 : List Cond := u_ws RX4 TX4 0
theorem nmX4 : ∀ a, a < 0 → ∀ b, b < 0 → a ≠ b → (TX4 a).2.1 ≠ (TX4 b).2.1 := by decide +kernel
theorem tyX4_ok : ∀ k, k < 0 → parseFieldDescriptor (TX4 k).2.2.1 = some (tyX4 k) := by decide +kernel
abbrev cX4_fill : ByteArray := prog_6_method_2_code
def yX4_fill : MethodName := ⟨RX4, "fill", "(LRadixPages$Row;LRadixPages$Node;)V"⟩
abbrev cX4_fillTable : ByteArray := prog_6_method_3_code
def yX4_fillTable : MethodName := ⟨RX4, "fillTable", "(LRadixPages$Row;LRadixPages$Node;)V"⟩
def RX5 : String := "RadixPages$Row"
def TX5 : u_T := fun k => match k with
  | _ => ("RadixPages$Row", "bytes", "[B", true)
def tyX5 : Nat → FieldType := fun k => match k with
  | _ => .array .byte
abbrev wsX50 : List Cond := u_ws RX5 TX5 1
theorem nmX5 : ∀ a, a < 1 → ∀ b, b < 1 → a ≠ b → (TX5 a).2.1 ≠ (TX5 b).2.1 := by decide +kernel
theorem tyX5_ok : ∀ k, k < 1 → parseFieldDescriptor (TX5 k).2.2.1 = some (tyX5 k) := by decide +kernel
abbrev cX5_init : ByteArray := prog_7_method_1_code
def yX5_init : MethodName := ⟨RX5, "<init>", "()V"⟩
abbrev cX5_at : ByteArray := prog_7_method_2_code
def yX5_at : MethodName := ⟨RX5, "at", "(I)I"⟩
abbrev cX5_set : ByteArray := prog_7_method_3_code
def yX5_set : MethodName := ⟨RX5, "set", "(II)V"⟩
abbrev cX5_longAt : ByteArray := prog_7_method_4_code
def yX5_longAt : MethodName := ⟨RX5, "longAt", "(I)J"⟩
abbrev cX5_setLong : ByteArray := prog_7_method_5_code
def yX5_setLong : MethodName := ⟨RX5, "setLong", "(IJ)V"⟩
abbrev cX5_wipe : ByteArray := prog_7_method_6_code
def yX5_wipe : MethodName := ⟨RX5, "wipe", "()V"⟩
abbrev cX5_seal : ByteArray := prog_7_method_7_code
def yX5_seal : MethodName := ⟨RX5, "seal", "()V"⟩
abbrev cX5_same : ByteArray := prog_7_method_8_code
def yX5_same : MethodName := ⟨RX5, "same", "(LRadixPages$Row;)Z"⟩
def RX6 : String := "RadixPages$Store"
def TX6 : u_T := fun k => match k with
  | 0 => ("RadixPages$Store", "disk", "LRadixPages$Disk;", true)
  | 1 => ("RadixPages$Store", "row", "LRadixPages$Row;", true)
  | 2 => ("RadixPages$Store", "again", "LRadixPages$Row;", true)
  | _ => ("RadixPages$Store", "taken", "[Z", true)
def tyX6 : Nat → FieldType := fun k => match k with
  | 0 => .object "RadixPages$Disk"
  | 1 => .object "RadixPages$Row"
  | 2 => .object "RadixPages$Row"
  | _ => .array .boolean
abbrev wsX60 : List Cond := u_ws RX6 TX6 4
theorem nmX6 : ∀ a, a < 4 → ∀ b, b < 4 → a ≠ b → (TX6 a).2.1 ≠ (TX6 b).2.1 := by decide +kernel
theorem tyX6_ok : ∀ k, k < 4 → parseFieldDescriptor (TX6 k).2.2.1 = some (tyX6 k) := by decide +kernel
abbrev cX6_init : ByteArray := prog_8_method_1_code
def yX6_init : MethodName := ⟨RX6, "<init>", "()V"⟩
abbrev cX6_save : ByteArray := prog_8_method_2_code
def yX6_save : MethodName := ⟨RX6, "save", "(LRadixPages$Tree;LRadixPages$Tree;I)Z"⟩
abbrev cX6_saveNode : ByteArray := prog_8_method_3_code
def yX6_saveNode : MethodName := ⟨RX6, "saveNode", "(LRadixPages$Node;)Z"⟩
abbrev cX6_freeAllPages : ByteArray := prog_8_method_4_code
def yX6_freeAllPages : MethodName := ⟨RX6, "freeAllPages", "()V"⟩
abbrev cX6_markPagesOf : ByteArray := prog_8_method_5_code
def yX6_markPagesOf : MethodName := ⟨RX6, "markPagesOf", "(LRadixPages$Tree;)V"⟩
abbrev cX6_takePage : ByteArray := prog_8_method_6_code
def yX6_takePage : MethodName := ⟨RX6, "takePage", "(I)Z"⟩
abbrev cX6_takeLeastPage : ByteArray := prog_8_method_7_code
def yX6_takeLeastPage : MethodName := ⟨RX6, "takeLeastPage", "()I"⟩
abbrev cX6_load : ByteArray := prog_8_method_8_code
def yX6_load : MethodName := ⟨RX6, "load", "(LRadixPages$Tree;)I"⟩
abbrev cX6_rightSequence : ByteArray := prog_8_method_9_code
def yX6_rightSequence : MethodName := ⟨RX6, "rightSequence", "(I)I"⟩
abbrev cX6_loadBy : ByteArray := prog_8_method_10_code
def yX6_loadBy : MethodName := ⟨RX6, "loadBy", "(ILRadixPages$Tree;)Z"⟩
abbrev cX6_loadNode : ByteArray := prog_8_method_11_code
def yX6_loadNode : MethodName := ⟨RX6, "loadNode", "(LRadixPages$Node;LRadixPages$Tree;)Z"⟩
abbrev cX6_hangListed : ByteArray := prog_8_method_12_code
def yX6_hangListed : MethodName := ⟨RX6, "hangListed", "(LRadixPages$Node;LRadixPages$Tree;I)Z"⟩
abbrev cX6_hangMapped : ByteArray := prog_8_method_13_code
def yX6_hangMapped : MethodName := ⟨RX6, "hangMapped", "(LRadixPages$Node;LRadixPages$Tree;)Z"⟩
abbrev cX6_hangBehind : ByteArray := prog_8_method_14_code
def yX6_hangBehind : MethodName := ⟨RX6, "hangBehind", "(LRadixPages$Node;LRadixPages$Node;LRadixPages$Node;II)Z"⟩
def RX7 : String := "RadixPages$Tape"
def TX7 : u_T := fun k => match k with
  | 0 => ("RadixPages$Tape", "bytes", "[I", true)
  | _ => ("RadixPages$Tape", "length", "I", false)
def tyX7 : Nat → FieldType := fun k => match k with
  | 0 => .array .int
  | _ => .int
abbrev wsX70 : List Cond := u_ws RX7 TX7 2
theorem nmX7 : ∀ a, a < 2 → ∀ b, b < 2 → a ≠ b → (TX7 a).2.1 ≠ (TX7 b).2.1 := by decide +kernel
theorem tyX7_ok : ∀ k, k < 2 → parseFieldDescriptor (TX7 k).2.2.1 = some (tyX7 k) := by decide +kernel
abbrev cX7_init : ByteArray := prog_9_method_1_code
def yX7_init : MethodName := ⟨RX7, "<init>", "()V"⟩
abbrev cX7_isKey : ByteArray := prog_9_method_2_code
def yX7_isKey : MethodName := ⟨RX7, "isKey", "()Z"⟩
abbrev cX7_byteAt : ByteArray := prog_9_method_3_code
def yX7_byteAt : MethodName := ⟨RX7, "byteAt", "(I)I"⟩
abbrev cX7_setByte : ByteArray := prog_9_method_4_code
def yX7_setByte : MethodName := ⟨RX7, "setByte", "(II)V"⟩
abbrev cX7_append : ByteArray := prog_9_method_5_code
def yX7_append : MethodName := ⟨RX7, "append", "(I)V"⟩
def RX8 : String := "RadixPages$Tree"
def TX8 : u_T := fun k => match k with
  | 0 => ("RadixPages$Tree", "stock", "[LRadixPages$Node;", true)
  | 1 => ("RadixPages$Tree", "spare", "LRadixPages$Node;", false)
  | 2 => ("RadixPages$Tree", "root", "LRadixPages$Node;", false)
  | 3 => ("RadixPages$Tree", "nodes", "I", false)
  | 4 => ("RadixPages$Tree", "keys", "I", false)
  | 5 => ("RadixPages$Tree", "spot", "LRadixPages$Node;", false)
  | 6 => ("RadixPages$Tree", "matched", "I", false)
  | _ => ("RadixPages$Tree", "used", "I", false)
def tyX8 : Nat → FieldType := fun k => match k with
  | 0 => .array (.object "RadixPages$Node")
  | 1 => .object "RadixPages$Node"
  | 2 => .object "RadixPages$Node"
  | 3 => .int
  | 4 => .int
  | 5 => .object "RadixPages$Node"
  | 6 => .int
  | _ => .int
abbrev wsX80 : List Cond := u_ws RX8 TX8 8
theorem nmX8 : ∀ a, a < 8 → ∀ b, b < 8 → a ≠ b → (TX8 a).2.1 ≠ (TX8 b).2.1 := by decide +kernel
theorem tyX8_ok : ∀ k, k < 8 → parseFieldDescriptor (TX8 k).2.2.1 = some (tyX8 k) := by decide +kernel
abbrev cX8_init : ByteArray := prog_10_method_1_code
def yX8_init : MethodName := ⟨RX8, "<init>", "()V"⟩
abbrev cX8_clear : ByteArray := prog_10_method_2_code
def yX8_clear : MethodName := ⟨RX8, "clear", "()V"⟩
abbrev cX8_take : ByteArray := prog_10_method_3_code
def yX8_take : MethodName := ⟨RX8, "take", "()LRadixPages$Node;"⟩
abbrev cX8_release : ByteArray := prog_10_method_4_code
def yX8_release : MethodName := ⟨RX8, "release", "(LRadixPages$Node;)V"⟩
abbrev cX8_seek : ByteArray := prog_10_method_5_code
def yX8_seek : MethodName := ⟨RX8, "seek", "(LRadixPages$Tape;)V"⟩
abbrev cX8_stepFrom : ByteArray := prog_10_method_6_code
def yX8_stepFrom : MethodName := ⟨RX8, "stepFrom", "(LRadixPages$Node;LRadixPages$Tape;)LRadixPages$Node;"⟩
abbrev cX8_nodeOf : ByteArray := prog_10_method_7_code
def yX8_nodeOf : MethodName := ⟨RX8, "nodeOf", "(LRadixPages$Tape;)LRadixPages$Node;"⟩
abbrev cX8_store : ByteArray := prog_10_method_8_code
def yX8_store : MethodName := ⟨RX8, "store", "(LRadixPages$Tape;J)I"⟩
abbrev cX8_storeFirst : ByteArray := prog_10_method_9_code
def yX8_storeFirst : MethodName := ⟨RX8, "storeFirst", "(LRadixPages$Tape;J)I"⟩
abbrev cX8_storeHere : ByteArray := prog_10_method_10_code
def yX8_storeHere : MethodName := ⟨RX8, "storeHere", "(J)I"⟩
abbrev cX8_storeByChild : ByteArray := prog_10_method_11_code
def yX8_storeByChild : MethodName := ⟨RX8, "storeByChild", "(LRadixPages$Tape;J)I"⟩
abbrev cX8_storeByCut : ByteArray := prog_10_method_12_code
def yX8_storeByCut : MethodName := ⟨RX8, "storeByCut", "(LRadixPages$Tape;J)I"⟩
abbrev cX8_hang : ByteArray := prog_10_method_13_code
def yX8_hang : MethodName := ⟨RX8, "hang", "(LRadixPages$Node;LRadixPages$Node;LRadixPages$Tape;J)V"⟩
abbrev cX8_insertAbove : ByteArray := prog_10_method_14_code
def yX8_insertAbove : MethodName := ⟨RX8, "insertAbove", "(LRadixPages$Node;LRadixPages$Node;)V"⟩
abbrev cX8_putInPlace : ByteArray := prog_10_method_15_code
def yX8_putInPlace : MethodName := ⟨RX8, "putInPlace", "(LRadixPages$Node;LRadixPages$Node;)V"⟩
abbrev cX8_drop : ByteArray := prog_10_method_16_code
def yX8_drop : MethodName := ⟨RX8, "drop", "(LRadixPages$Tape;)I"⟩
abbrev cX8_detach : ByteArray := prog_10_method_17_code
def yX8_detach : MethodName := ⟨RX8, "detach", "(LRadixPages$Node;LRadixPages$Node;)V"⟩
abbrev cX8_join : ByteArray := prog_10_method_18_code
def yX8_join : MethodName := ⟨RX8, "join", "(LRadixPages$Node;)V"⟩
abbrev cX8_keysBetween : ByteArray := prog_10_method_19_code
def yX8_keysBetween : MethodName := ⟨RX8, "keysBetween", "(LRadixPages$Node;LRadixPages$Node;)I"⟩
abbrev cX8_keysUnder : ByteArray := prog_10_method_20_code
def yX8_keysUnder : MethodName := ⟨RX8, "keysUnder", "(LRadixPages$Tape;)I"⟩
abbrev cX8_keysAhead : ByteArray := prog_10_method_21_code
def yX8_keysAhead : MethodName := ⟨RX8, "keysAhead", "(LRadixPages$Tape;)I"⟩
abbrev cX8_firstNotAhead : ByteArray := prog_10_method_22_code
def yX8_firstNotAhead : MethodName := ⟨RX8, "firstNotAhead", "(LRadixPages$Tape;)LRadixPages$Node;"⟩
abbrev cX8_keyNumber : ByteArray := prog_10_method_23_code
def yX8_keyNumber : MethodName := ⟨RX8, "keyNumber", "(I)LRadixPages$Node;"⟩
abbrev cX8_nodeNumber : ByteArray := prog_10_method_24_code
def yX8_nodeNumber : MethodName := ⟨RX8, "nodeNumber", "(I)LRadixPages$Node;"⟩
abbrev cX8_nodesOfFormat : ByteArray := prog_10_method_25_code
def yX8_nodesOfFormat : MethodName := ⟨RX8, "nodesOfFormat", "(I)I"⟩
abbrev cX8_freshNodes : ByteArray := prog_10_method_26_code
def yX8_freshNodes : MethodName := ⟨RX8, "freshNodes", "()I"⟩
abbrev cX8_nodesOnPages : ByteArray := prog_10_method_27_code
def yX8_nodesOnPages : MethodName := ⟨RX8, "nodesOnPages", "()I"⟩
abbrev cX8_depth : ByteArray := prog_10_method_28_code
def yX8_depth : MethodName := ⟨RX8, "depth", "()I"⟩
abbrev cX8_settle : ByteArray := prog_10_method_29_code
def yX8_settle : MethodName := ⟨RX8, "settle", "()V"⟩
abbrev cX8_become : ByteArray := prog_10_method_30_code
def yX8_become : MethodName := ⟨RX8, "become", "(LRadixPages$Tree;)V"⟩
def RX9 : String := "RadixPages"
def TX9 : u_T := fun k => match k with
  | 0 => ("RadixPages", "tape", "LRadixPages$Tape;", true)
  | 1 => ("RadixPages", "tree", "LRadixPages$Tree;", true)
  | 2 => ("RadixPages", "committed", "LRadixPages$Tree;", true)
  | 3 => ("RadixPages", "store", "LRadixPages$Store;", true)
  | 4 => ("RadixPages", "sequence", "I", false)
  | _ => ("RadixPages", "down", "Z", false)
def tyX9 : Nat → FieldType := fun k => match k with
  | 0 => .object "RadixPages$Tape"
  | 1 => .object "RadixPages$Tree"
  | 2 => .object "RadixPages$Tree"
  | 3 => .object "RadixPages$Store"
  | 4 => .int
  | _ => .boolean
abbrev wsX90 : List Cond := u_ws RX9 TX9 6
theorem nmX9 : ∀ a, a < 6 → ∀ b, b < 6 → a ≠ b → (TX9 a).2.1 ≠ (TX9 b).2.1 := by decide +kernel
theorem tyX9_ok : ∀ k, k < 6 → parseFieldDescriptor (TX9 k).2.2.1 = some (tyX9 k) := by decide +kernel
abbrev cX9_init : ByteArray := prog_1_method_1_code
def yX9_init : MethodName := ⟨RX9, "<init>", "()V"⟩
abbrev cX9_type : ByteArray := prog_1_method_2_code
def yX9_type : MethodName := ⟨RX9, "type", "(JI)I"⟩
abbrev cX9_cut : ByteArray := prog_1_method_3_code
def yX9_cut : MethodName := ⟨RX9, "cut", "(I)I"⟩
abbrev cX9_tapeAt : ByteArray := prog_1_method_4_code
def yX9_tapeAt : MethodName := ⟨RX9, "tapeAt", "(I)I"⟩
abbrev cX9_put : ByteArray := prog_1_method_5_code
def yX9_put : MethodName := ⟨RX9, "put", "(J)I"⟩
abbrev cX9_remove : ByteArray := prog_1_method_6_code
def yX9_remove : MethodName := ⟨RX9, "remove", "()I"⟩
abbrev cX9_get : ByteArray := prog_1_method_7_code
def yX9_get : MethodName := ⟨RX9, "get", "()J"⟩
abbrev cX9_with : ByteArray := prog_1_method_8_code
def yX9_with : MethodName := ⟨RX9, "with", "()I"⟩
abbrev cX9_before : ByteArray := prog_1_method_9_code
def yX9_before : MethodName := ⟨RX9, "before", "()I"⟩
abbrev cX9_nth : ByteArray := prog_1_method_10_code
def yX9_nth : MethodName := ⟨RX9, "nth", "(I)I"⟩
abbrev cX9_commit : ByteArray := prog_1_method_11_code
def yX9_commit : MethodName := ⟨RX9, "commit", "()I"⟩
abbrev cX9_back : ByteArray := prog_1_method_12_code
def yX9_back : MethodName := ⟨RX9, "back", "()I"⟩
abbrev cX9_count : ByteArray := prog_1_method_13_code
def yX9_count : MethodName := ⟨RX9, "count", "(I)I"⟩
abbrev cX9_node : ByteArray := prog_1_method_14_code
def yX9_node : MethodName := ⟨RX9, "node", "(II)I"⟩
abbrev cX9_power : ByteArray := prog_1_method_15_code
def yX9_power : MethodName := ⟨RX9, "power", "(II)I"⟩
abbrev cX9_start : ByteArray := prog_1_method_16_code
def yX9_start : MethodName := ⟨RX9, "start", "()I"⟩
abbrev cX9_halt : ByteArray := prog_1_method_17_code
def yX9_halt : MethodName := ⟨RX9, "halt", "()I"⟩
abbrev cX9_octet : ByteArray := prog_1_method_18_code
def yX9_octet : MethodName := ⟨RX9, "octet", "(II)I"⟩
abbrev cX9_poke : ByteArray := prog_1_method_19_code
def yX9_poke : MethodName := ⟨RX9, "poke", "(III)I"⟩
abbrev cX9_freePages : ByteArray := prog_1_method_20_code
def yX9_freePages : MethodName := ⟨RX9, "freePages", "()I"⟩
def RX10 : String := "RadixPagesModel"
def TX10 : u_T := fun k => match k with
  | 0 => ("RadixPagesModel", "thrown", "I", false)
  | 1 => ("RadixPagesModel", "tape", "[I", true)
  | 2 => ("RadixPagesModel", "size", "I", false)
  | 3 => ("RadixPagesModel", "down", "Z", false)
  | 4 => ("RadixPagesModel", "used", "[Z", true)
  | 5 => ("RadixPagesModel", "up", "[I", true)
  | 6 => ("RadixPagesModel", "by", "[I", true)
  | 7 => ("RadixPagesModel", "prefix", "[I", true)
  | 8 => ("RadixPagesModel", "wide", "[I", true)
  | 9 => ("RadixPagesModel", "valued", "[Z", true)
  | 10 => ("RadixPagesModel", "value", "[J", true)
  | 11 => ("RadixPagesModel", "format", "[I", true)
  | 12 => ("RadixPagesModel", "page", "[I", true)
  | 13 => ("RadixPagesModel", "fresh", "[Z", true)
  | 14 => ("RadixPagesModel", "root", "I", false)
  | 15 => ("RadixPagesModel", "keptRoot", "I", false)
  | 16 => ("RadixPagesModel", "sequence", "J", false)
  | 17 => ("RadixPagesModel", "disk", "[I", true)
  | 18 => ("RadixPagesModel", "powerAt", "I", false)
  | 19 => ("RadixPagesModel", "tear", "I", false)
  | 20 => ("RadixPagesModel", "atNode", "I", false)
  | 21 => ("RadixPagesModel", "alike", "I", false)
  | 22 => ("RadixPagesModel", "place", "I", false)
  | 23 => ("RadixPagesModel", "row", "[I", true)
  | 24 => ("RadixPagesModel", "rowSize", "I", false)
  | 25 => ("RadixPagesModel", "sheet", "[I", true)
  | _ => ("RadixPagesModel", "taken", "[Z", true)
def tyX10 : Nat → FieldType := fun k => match k with
  | 0 => .int
  | 1 => .array .int
  | 2 => .int
  | 3 => .boolean
  | 4 => .array .boolean
  | 5 => .array .int
  | 6 => .array .int
  | 7 => .array .int
  | 8 => .array .int
  | 9 => .array .boolean
  | 10 => .array .long
  | 11 => .array .int
  | 12 => .array .int
  | 13 => .array .boolean
  | 14 => .int
  | 15 => .int
  | 16 => .long
  | 17 => .array .int
  | 18 => .int
  | 19 => .int
  | 20 => .int
  | 21 => .int
  | 22 => .int
  | 23 => .array .int
  | 24 => .int
  | 25 => .array .int
  | _ => .array .boolean
abbrev wsX100 : List Cond := u_ws RX10 TX10 27
theorem nmX10 : ∀ a, a < 27 → ∀ b, b < 27 → a ≠ b → (TX10 a).2.1 ≠ (TX10 b).2.1 := by decide +kernel
theorem tyX10_ok : ∀ k, k < 27 → parseFieldDescriptor (TX10 k).2.2.1 = some (tyX10 k) := by decide +kernel
abbrev cX10_init : ByteArray := prog_12_method_1_code
def yX10_init : MethodName := ⟨RX10, "<init>", "()V"⟩
abbrev cX10_thrown : ByteArray := prog_12_method_2_code
def yX10_thrown : MethodName := ⟨RX10, "thrown", "()I"⟩
abbrev cX10_in : ByteArray := prog_12_method_3_code
def yX10_in : MethodName := ⟨RX10, "in", "(JJJ)Z"⟩
abbrev cX10_clear : ByteArray := prog_12_method_4_code
def yX10_clear : MethodName := ⟨RX10, "clear", "()V"⟩
abbrev cX10_copy : ByteArray := prog_12_method_5_code
def yX10_copy : MethodName := ⟨RX10, "copy", "(II)V"⟩
abbrev cX10_keep : ByteArray := prog_12_method_6_code
def yX10_keep : MethodName := ⟨RX10, "keep", "()V"⟩
abbrev cX10_type : ByteArray := prog_12_method_7_code
def yX10_type : MethodName := ⟨RX10, "type", "(JI)I"⟩
abbrev cX10_cut : ByteArray := prog_12_method_8_code
def yX10_cut : MethodName := ⟨RX10, "cut", "(I)I"⟩
abbrev cX10_tapeAt : ByteArray := prog_12_method_9_code
def yX10_tapeAt : MethodName := ⟨RX10, "tapeAt", "(I)I"⟩
abbrev cX10_newNode : ByteArray := prog_12_method_10_code
def yX10_newNode : MethodName := ⟨RX10, "newNode", "(II)I"⟩
abbrev cX10_nodes : ByteArray := prog_12_method_11_code
def yX10_nodes : MethodName := ⟨RX10, "nodes", "()I"⟩
abbrev cX10_childFrom : ByteArray := prog_12_method_12_code
def yX10_childFrom : MethodName := ⟨RX10, "childFrom", "(II)I"⟩
abbrev cX10_child : ByteArray := prog_12_method_13_code
def yX10_child : MethodName := ⟨RX10, "child", "(II)I"⟩
abbrev cX10_children : ByteArray := prog_12_method_14_code
def yX10_children : MethodName := ⟨RX10, "children", "(I)I"⟩
abbrev cX10_room : ByteArray := prog_12_method_15_code
def yX10_room : MethodName := ⟨RX10, "room", "(I)I"⟩
abbrev cX10_next : ByteArray := prog_12_method_16_code
def yX10_next : MethodName := ⟨RX10, "next", "(I)I"⟩
abbrev cX10_freshen : ByteArray := prog_12_method_17_code
def yX10_freshen : MethodName := ⟨RX10, "freshen", "(I)V"⟩
abbrev cX10_lead : ByteArray := prog_12_method_18_code
def yX10_lead : MethodName := ⟨RX10, "lead", "(I)I"⟩
abbrev cX10_seek : ByteArray := prog_12_method_19_code
def yX10_seek : MethodName := ⟨RX10, "seek", "()V"⟩
abbrev cX10_isFound : ByteArray := prog_12_method_20_code
def yX10_isFound : MethodName := ⟨RX10, "isFound", "()Z"⟩
abbrev cX10_setPrefix : ByteArray := prog_12_method_21_code
def yX10_setPrefix : MethodName := ⟨RX10, "setPrefix", "(II)V"⟩
abbrev cX10_give : ByteArray := prog_12_method_22_code
def yX10_give : MethodName := ⟨RX10, "give", "(IJ)V"⟩
abbrev cX10_isKey : ByteArray := prog_12_method_23_code
def yX10_isKey : MethodName := ⟨RX10, "isKey", "()Z"⟩
abbrev cX10_put : ByteArray := prog_12_method_24_code
def yX10_put : MethodName := ⟨RX10, "put", "(J)I"⟩
abbrev cX10_cutInTwo : ByteArray := prog_12_method_25_code
def yX10_cutInTwo : MethodName := ⟨RX10, "cutInTwo", "()V"⟩
abbrev cX10_remove : ByteArray := prog_12_method_26_code
def yX10_remove : MethodName := ⟨RX10, "remove", "()I"⟩
abbrev cX10_putTogether : ByteArray := prog_12_method_27_code
def yX10_putTogether : MethodName := ⟨RX10, "putTogether", "(I)V"⟩
abbrev cX10_get : ByteArray := prog_12_method_28_code
def yX10_get : MethodName := ⟨RX10, "get", "()J"⟩
abbrev cX10_tell : ByteArray := prog_12_method_29_code
def yX10_tell : MethodName := ⟨RX10, "tell", "(I)V"⟩
abbrev cX10_begins : ByteArray := prog_12_method_30_code
def yX10_begins : MethodName := ⟨RX10, "begins", "()Z"⟩
abbrev cX10_isBefore : ByteArray := prog_12_method_31_code
def yX10_isBefore : MethodName := ⟨RX10, "isBefore", "()Z"⟩
abbrev cX10_with : ByteArray := prog_12_method_32_code
def yX10_with : MethodName := ⟨RX10, "with", "()I"⟩
abbrev cX10_countKeys : ByteArray := prog_12_method_33_code
def yX10_countKeys : MethodName := ⟨RX10, "countKeys", "(Z)I"⟩
abbrev cX10_before : ByteArray := prog_12_method_34_code
def yX10_before : MethodName := ⟨RX10, "before", "()I"⟩
abbrev cX10_keys : ByteArray := prog_12_method_35_code
def yX10_keys : MethodName := ⟨RX10, "keys", "()I"⟩
abbrev cX10_nth : ByteArray := prog_12_method_36_code
def yX10_nth : MethodName := ⟨RX10, "nth", "(I)I"⟩
abbrev cX10_sum : ByteArray := prog_12_method_37_code
def yX10_sum : MethodName := ⟨RX10, "sum", "([II)J"⟩
abbrev cX10_number : ByteArray := prog_12_method_38_code
def yX10_number : MethodName := ⟨RX10, "number", "(IIJ)V"⟩
abbrev cX10_write : ByteArray := prog_12_method_39_code
def yX10_write : MethodName := ⟨RX10, "write", "(I)Z"⟩
abbrev cX10_beginSheet : ByteArray := prog_12_method_40_code
def yX10_beginSheet : MethodName := ⟨RX10, "beginSheet", "()V"⟩
abbrev cX10_writeNode : ByteArray := prog_12_method_41_code
def yX10_writeNode : MethodName := ⟨RX10, "writeNode", "(I)Z"⟩
abbrev cX10_deepest : ByteArray := prog_12_method_42_code
def yX10_deepest : MethodName := ⟨RX10, "deepest", "(I)I"⟩
abbrev cX10_freshMany : ByteArray := prog_12_method_43_code
def yX10_freshMany : MethodName := ⟨RX10, "freshMany", "()I"⟩
abbrev cX10_findTaken : ByteArray := prog_12_method_44_code
def yX10_findTaken : MethodName := ⟨RX10, "findTaken", "()I"⟩
abbrev cX10_commit : ByteArray := prog_12_method_45_code
def yX10_commit : MethodName := ⟨RX10, "commit", "()I"⟩
abbrev cX10_back : ByteArray := prog_12_method_46_code
def yX10_back : MethodName := ⟨RX10, "back", "()I"⟩
abbrev cX10_depth : ByteArray := prog_12_method_47_code
def yX10_depth : MethodName := ⟨RX10, "depth", "()I"⟩
abbrev cX10_count : ByteArray := prog_12_method_48_code
def yX10_count : MethodName := ⟨RX10, "count", "(I)I"⟩
abbrev cX10_node : ByteArray := prog_12_method_49_code
def yX10_node : MethodName := ⟨RX10, "node", "(II)I"⟩
abbrev cX10_ofNode : ByteArray := prog_12_method_50_code
def yX10_ofNode : MethodName := ⟨RX10, "ofNode", "(II)I"⟩
abbrev cX10_power : ByteArray := prog_12_method_51_code
def yX10_power : MethodName := ⟨RX10, "power", "(II)I"⟩
abbrev cX10_halt : ByteArray := prog_12_method_52_code
def yX10_halt : MethodName := ⟨RX10, "halt", "()I"⟩
abbrev cX10_numberAt : ByteArray := prog_12_method_53_code
def yX10_numberAt : MethodName := ⟨RX10, "numberAt", "([III)J"⟩
abbrev cX10_headOf : ByteArray := prog_12_method_54_code
def yX10_headOf : MethodName := ⟨RX10, "headOf", "(I)J"⟩
abbrev cX10_readNode : ByteArray := prog_12_method_55_code
def yX10_readNode : MethodName := ⟨RX10, "readNode", "(I)Z"⟩
abbrev cX10_readChildren : ByteArray := prog_12_method_56_code
def yX10_readChildren : MethodName := ⟨RX10, "readChildren", "(IIII)Z"⟩
abbrev cX10_readTree : ByteArray := prog_12_method_57_code
def yX10_readTree : MethodName := ⟨RX10, "readTree", "(IJ)Z"⟩
abbrev cX10_start : ByteArray := prog_12_method_58_code
def yX10_start : MethodName := ⟨RX10, "start", "()I"⟩
abbrev cX10_octet : ByteArray := prog_12_method_59_code
def yX10_octet : MethodName := ⟨RX10, "octet", "(II)I"⟩
abbrev cX10_poke : ByteArray := prog_12_method_60_code
def yX10_poke : MethodName := ⟨RX10, "poke", "(III)I"⟩
def RL : String := "RadixPagesLaw"
abbrev cL_type : ByteArray := method_3_code
def yL_type : MethodName := ⟨RL, "type", "(LRadixPages;JI[J)I"⟩
abbrev cL_cut : ByteArray := method_4_code
def yL_cut : MethodName := ⟨RL, "cut", "(LRadixPages;I[J)I"⟩
abbrev cL_octet : ByteArray := method_5_code
def yL_octet : MethodName := ⟨RL, "octet", "(LRadixPages;II[J)I"⟩
abbrev cL_poke : ByteArray := method_6_code
def yL_poke : MethodName := ⟨RL, "poke", "(LRadixPages;III[J)I"⟩
abbrev cL_law : ByteArray := code
def yL_law : MethodName := ⟨RL, "law", "([I)Z"⟩
abbrev vwCl : List vw_C := [(RX0, TX0, 3), (RX3, TX3, 13), (RX5, TX5, 1), (RX6, TX6, 4), (RX7, TX7, 2), (RX8, TX8, 8), (RX9, TX9, 6), (RX10, TX10, 27)]
end
section
/-! THE WORLD: all cells of the class, of the reference and of the law, by address: their kind, length, ints, longs, references. -/
abbrev xM : Type := List Nat × (Nat → Nat) × (Nat → Nat) × (Nat → Nat → Int32) × (Nat → Nat → Int64) × (Nat → Nat → Option Nat)
def xL (M : xM) : List Nat := M.1
def xK (M : xM) : Nat → Nat := M.2.1
def xN (M : xM) : Nat → Nat := M.2.2.1
def xI (M : xM) : Nat → Nat → Int32 := M.2.2.2.1
def xJ (M : xM) : Nat → Nat → Int64 := M.2.2.2.2.1
def xR (M : xM) : Nat → Nat → Option Nat := M.2.2.2.2.2
def xu2 {α : Type} (f : Nat → Nat → α) (a k : Nat) (v : α) : Nat → Nat → α := fun b j => if b = a ∧ j = k then v else f b j
def xuz {α : Type} (f : Nat → Nat → α) (a : Nat) (v : α) : Nat → Nat → α := fun b j => if b = a then v else f b j
def xsI (M : xM) (a k : Nat) (v : Int32) : xM := (M.1, M.2.1, M.2.2.1, xu2 M.2.2.2.1 a k v, M.2.2.2.2.1, M.2.2.2.2.2)
def xsJ (M : xM) (a k : Nat) (v : Int64) : xM := (M.1, M.2.1, M.2.2.1, M.2.2.2.1, xu2 M.2.2.2.2.1 a k v, M.2.2.2.2.2)
def xsR (M : xM) (a k : Nat) (v : Option Nat) : xM := (M.1, M.2.1, M.2.2.1, M.2.2.2.1, M.2.2.2.2.1, xu2 M.2.2.2.2.2 a k v)
def xnew (M : xM) (q kd n : Nat) : xM := (M.1 ++ [q], va_up M.2.1 q kd, va_up M.2.2.1 q n, xuz M.2.2.2.1 q 0, xuz M.2.2.2.2.1 q 0, xuz M.2.2.2.2.2 q none)
/-- the kinds' fields: 0 int, 1 long, 2 reference, 3 boolean -/
def xF : Nat → List Nat
  | 0 => [2, 0, 0]
  | 1 => [2, 0, 0, 3, 1, 0, 0, 0, 3, 2, 2, 2, 2]
  | 2 => [2]
  | 3 => [2, 2, 2, 2]
  | 4 => [2, 0]
  | 5 => [2, 2, 2, 0, 0, 2, 0, 0]
  | 6 => [2, 2, 2, 2, 0, 3]
  | 7 => [0, 2, 0, 3, 2, 2, 2, 2, 2, 2, 2, 2, 2, 2, 0, 0, 1, 2, 0, 0, 0, 0, 0, 2, 0, 2, 2]
  | _ => []
def xV (M : xM) (a k t : Nat) : Value := if t = 1 then .long (xJ M a k) else if t = 2 then va_rf (xR M a k) else .int (xI M a k)
def xFs (M : xM) (a : Nat) (ts : List Nat) : List Value := ts.mapIdx (fun k t => xV M a k t)
abbrev xG : Type := va_G × (Nat → ClassId) × Nat × Nat
def xAr (M : xM) (a : Nat) : vp_A := (xN M a, if xK M a = 10 then .inr (.inl (xJ M a)) else if xK M a = 12 then .inr (.inr (.inr (.inr (xR M a)))) else .inl (xI M a))
def xE (g : xG) (M : xM) (a : Nat) : va_E := if xK M a < 8 then .inr (xK M a, xFs M a (xF (xK M a))) else .inl (g.2.1 (xK M a), xAr M a)
def xW (g : xG) (M : xM) : va_W := va_pl (xL M) (xE g M)
def xTy (g : xG) : List (ClassId × FieldType) := [(g.2.1 8, .byte), (g.2.1 9, .int), (g.2.1 10, .long), (g.2.1 11, .boolean), (g.2.1 12, .object "RadixPages$Node")]
/-- the heap holds the world, all of it in A -/
def xP (g : xG) (A : Nat → Prop) (M : xM) (H : Heap) : Prop := va_P g.1 vwCl (xW g M) H ∧ va_D A (xW g M)
theorem xK_sI (M : xM) (a k : Nat) (v : Int32) : xK (xsI M a k v) = xK M := rfl
theorem xK_sJ (M : xM) (a k : Nat) (v : Int64) : xK (xsJ M a k v) = xK M := rfl
theorem xK_sR (M : xM) (a k : Nat) (v : Option Nat) : xK (xsR M a k v) = xK M := rfl
theorem xN_sI (M : xM) (a k : Nat) (v : Int32) : xN (xsI M a k v) = xN M := rfl
theorem xN_sJ (M : xM) (a k : Nat) (v : Int64) : xN (xsJ M a k v) = xN M := rfl
theorem xN_sR (M : xM) (a k : Nat) (v : Option Nat) : xN (xsR M a k v) = xN M := rfl
theorem xL_sI (M : xM) (a k : Nat) (v : Int32) : xL (xsI M a k v) = xL M := rfl
theorem xL_sJ (M : xM) (a k : Nat) (v : Int64) : xL (xsJ M a k v) = xL M := rfl
theorem xL_sR (M : xM) (a k : Nat) (v : Option Nat) : xL (xsR M a k v) = xL M := rfl
theorem xI_sI (M : xM) (a k : Nat) (v : Int32) (b j : Nat) : xI (xsI M a k v) b j = if b = a ∧ j = k then v else xI M b j := rfl
theorem xI_sJ (M : xM) (a k : Nat) (v : Int64) : xI (xsJ M a k v) = xI M := rfl
theorem xI_sR (M : xM) (a k : Nat) (v : Option Nat) : xI (xsR M a k v) = xI M := rfl
theorem xJ_sI (M : xM) (a k : Nat) (v : Int32) : xJ (xsI M a k v) = xJ M := rfl
theorem xJ_sJ (M : xM) (a k : Nat) (v : Int64) (b j : Nat) : xJ (xsJ M a k v) b j = if b = a ∧ j = k then v else xJ M b j := rfl
theorem xJ_sR (M : xM) (a k : Nat) (v : Option Nat) : xJ (xsR M a k v) = xJ M := rfl
theorem xR_sI (M : xM) (a k : Nat) (v : Int32) : xR (xsI M a k v) = xR M := rfl
theorem xR_sJ (M : xM) (a k : Nat) (v : Int64) : xR (xsJ M a k v) = xR M := rfl
theorem xR_sR (M : xM) (a k : Nat) (v : Option Nat) (b j : Nat) : xR (xsR M a k v) b j = if b = a ∧ j = k then v else xR M b j := rfl
theorem xFs_get (M : xM) (a : Nat) (ts : List Nat) (k t : Nat) (h : ts[k]? = some t) : (xFs M a ts)[k]? = some (xV M a k t) := by
  simp [xFs, List.getElem?_mapIdx, h]
theorem xFs_len (M : xM) (a : Nat) (ts : List Nat) : (xFs M a ts).length = ts.length := by simp [xFs]
theorem xFs_set (M M' : xM) (a : Nat) (ts : List Nat) (k t : Nat) (v : Value) (h : ts[k]? = some t) (hv : xV M' a k t = v) (ho : ∀ j u, j ≠ k → ts[j]? = some u → xV M' a j u = xV M a j u) : (xFs M a ts).set k v = xFs M' a ts := by
  apply List.ext_getElem?
  intro j
  by_cases hj : k = j
  · subst hj
    have hl : k < (xFs M a ts).length := by rw [xFs_len]; exact (List.getElem?_eq_some_iff.mp h).1
    rw [List.getElem?_set_self hl, xFs_get M' a ts k t h, hv]
  · rw [List.getElem?_set_ne hj]
    simp only [xFs, List.getElem?_mapIdx]
    cases hu : ts[j]? with
    | none => rfl
    | some u => simp [ho j u (Ne.symm hj) hu]
theorem xE_off (g : xG) {M M' : xM} {b : Nat} (hK : xK M' = xK M) (hN : xN M' = xN M) (hI : ∀ j, xI M' b j = xI M b j) (hJ : ∀ j, xJ M' b j = xJ M b j) (hR : ∀ j, xR M' b j = xR M b j) : xE g M' b = xE g M b := by
  have h1 : xI M' b = xI M b := funext hI
  have h2 : xJ M' b = xJ M b := funext hJ
  have h3 : xR M' b = xR M b := funext hR
  simp only [xE, xAr, xFs, xV, hK, hN, h1, h2, h3]
theorem xW_set (g : xG) {A : Nat → Prop} {M M' : xM} {a k : Nat} {e : va_E} (hD : va_D A (xW g M)) (ha : a ∈ xL M) (hk : (xW g M)[k]? = some (a, xE g M a)) (hL : xL M' = xL M) (he : xE g M' a = e) (ho : ∀ b, b ≠ a → xE g M' b = xE g M b) : (xW g M).set k (a, e) = xW g M' := by
  have h := va_pl_set (X := []) (f := xE g M) (L := xL M) (a := a) (k := k) (e := e) hD ha hk
  simp only [List.nil_append] at h
  unfold xW
  rw [h, hL]
  unfold va_pl
  apply List.map_congr_left
  intro b _
  by_cases hb : b = a
  · subst hb; rw [va_up_self, he]
  · rw [va_up_ne _ _ hb, ho b hb]
theorem xW_get (g : xG) {M : xM} {a : Nat} (ha : a ∈ xL M) : ∃ k : Nat, (xW g M)[k]? = some (a, xE g M a) := va_pl_get (X := []) (f := xE g M) ha
theorem xE_obj (g : xG) {M : xM} {a ci : Nat} (hk : xK M a = ci) (hc : ci < 8) : xE g M a = .inr (ci, xFs M a (xF ci)) := by
  unfold xE; rw [hk, if_pos hc]
theorem xE_arr (g : xG) {M : xM} {a ci : Nat} (hk : xK M a = ci) (hc : ¬ ci < 8) : xE g M a = .inl (g.2.1 ci, xAr M a) := by
  unfold xE; rw [hk, if_neg hc]
theorem xV_sI (M : xM) (a k : Nat) (v : Int32) (b j t : Nat) (h : b ≠ a ∨ j ≠ k) : xV (xsI M a k v) b j t = xV M b j t := by
  have : ¬ (b = a ∧ j = k) := fun q => h.elim (fun z => z q.1) (fun z => z q.2)
  simp only [xV, xI_sI, xJ_sI, xR_sI, if_neg this]
theorem xV_sJ (M : xM) (a k : Nat) (v : Int64) (b j t : Nat) (h : b ≠ a ∨ j ≠ k) : xV (xsJ M a k v) b j t = xV M b j t := by
  have : ¬ (b = a ∧ j = k) := fun q => h.elim (fun z => z q.1) (fun z => z q.2)
  simp only [xV, xI_sJ, xJ_sJ, xR_sJ, if_neg this]
theorem xV_sR (M : xM) (a k : Nat) (v : Option Nat) (b j t : Nat) (h : b ≠ a ∨ j ≠ k) : xV (xsR M a k v) b j t = xV M b j t := by
  have : ¬ (b = a ∧ j = k) := fun q => h.elim (fun z => z q.1) (fun z => z q.2)
  simp only [xV, xI_sR, xJ_sR, xR_sR, if_neg this]
theorem xE_sI_ne (g : xG) (M : xM) (a k : Nat) (v : Int32) (b : Nat) (h : b ≠ a) : xE g (xsI M a k v) b = xE g M b :=
  xE_off g rfl rfl (fun j => by rw [xI_sI, if_neg (fun q => h q.1)]) (fun _ => rfl) (fun _ => rfl)
theorem xE_sJ_ne (g : xG) (M : xM) (a k : Nat) (v : Int64) (b : Nat) (h : b ≠ a) : xE g (xsJ M a k v) b = xE g M b :=
  xE_off g rfl rfl (fun _ => rfl) (fun j => by rw [xJ_sJ, if_neg (fun q => h q.1)]) (fun _ => rfl)
theorem xE_sR_ne (g : xG) (M : xM) (a k : Nat) (v : Option Nat) (b : Nat) (h : b ≠ a) : xE g (xsR M a k v) b = xE g M b :=
  xE_off g rfl rfl (fun _ => rfl) (fun _ => rfl) (fun j => by rw [xR_sR, if_neg (fun q => h q.1)])
end
section
/-! THE JUDGEMENT xWp: a method's walk over the world, from a place, its locals and its stack, to its answer and the world then. -/
abbrev xMd : Type := MethodName × ByteArray × Nat × Option FieldType × Nat × Nat
def gl : List Cond := lw_tbl.filter goodWord
theorem gl_mem {w : Cond} (i : Nat) (h : lw_tbl[i]? = some w) (hg : goodWord w = true) : w ∈ gl := List.mem_filter.mpr ⟨List.mem_of_getElem? h, hg⟩
theorem gl_good : GoodIn gl gl := fun w h => ⟨h, good_of_word (List.mem_filter.mp h).2⟩
def xws (md : xMd) : List Cond := .code md.1 md.2.1 md.2.2.1 md.2.2.2.1 :: gl
theorem xws_good {md : xMd} (h : Cond.code md.1 md.2.1 md.2.2.1 md.2.2.2.1 ∈ gl) : GoodIn gl (xws md) := fun w hw => by
  rcases List.mem_cons.mp hw with rfl | hw
  · exact gl_good _ h
  · exact gl_good _ hw
def xrm (md : xMd) (mc ms : Nat) : Room := { frames := md.2.2.2.2.1, cells := mc, slots := ms, locals := md.2.2.2.2.2 }
def xNs : List Cond := [.methodLinkNest "RadixPages" 11 yX7_init "RadixPages", .methodLinkNest "RadixPages" 30 yX6_init "RadixPages", .methodLinkNest "RadixPages$Store" 11 yX0_init "RadixPages", .methodLinkNest "RadixPages$Store" 20 yX5_init "RadixPages", .methodLinkNest "RadixPages$Store" 203 yX3_setNextOf "RadixPages", .methodLinkNest "RadixPages$Tree" 31 yX3_reset "RadixPages"]
def xmc : Nat → Int32 := fun j => [0, 4, 16, 48, 256].getD j 0
def xsh : Nat → Int32 := fun j => [0, 0, 3, 12, 40].getD j 0
/-- what nobody writes: the two static arrays, the nest mates' links -/
def xSt (g : xG) (A : Nat → Prop) (U : State) (H : Heap) : Prop :=
  va_Z "RadixPages$Format" "MOST_CHILDREN" "[I" (.ref g.2.2.1) A U H ∧ va_T .int g.2.2.1 5 (fun j => .int (xmc j)) A U H ∧ va_Z "RadixPages$Format" "SHRINKS_AT" "[I" (.ref g.2.2.2) A U H ∧ va_T .int g.2.2.2 5 (fun j => .int (xsh j)) A U H ∧ (∀ w ∈ xNs, va_Nw w U) ∧ va_Nw (.fieldLinkNest "RadixPages$Disk" 27 "RadixPages$Row" "bytes" "[B" "RadixPages") U ∧ va_AO "RadixPages$Node" U
theorem xNs_warm {w : Cond} (h : w ∈ xNs) {s U : State} (hW : s.WarmedH U.vm) (hZ : va_Nw w s) : va_Nw w U := by
  simp only [xNs, List.mem_cons, List.not_mem_nil, or_false] at h
  rcases h with rfl | rfl | rfl | rfl | rfl | rfl <;> exact va_Nw.warmM hW hZ
theorem xSt.warm {g : xG} {A : Nat → Prop} {s U : State} {H : Heap} (hW : s.WarmedH U.vm) (h : xSt g A s H) : xSt g A U H := by
  obtain ⟨h1, h2, h3, h4, h5, h6, h7⟩ := h
  exact ⟨h1.moved hW.alike, h2.moved hW.alike, h3.moved hW.alike, h4.moved hW.alike, fun w hw => xNs_warm hw hW (h5 w hw), va_Nw.warmF hW h6, h7.moved hW.alike⟩
theorem xNs_tab {w : Cond} (h : w ∈ xNs) : w.onTables = true := by
  simp only [xNs, List.mem_cons, List.not_mem_nil, or_false] at h
  rcases h with rfl | rfl | rfl | rfl | rfl | rfl <;> rfl
theorem xSt.same {g : xG} {A : Nat → Prop} {s U : State} {H : Heap} (hvm : s.vm = U.vm) (h : xSt g A s H) : xSt g A U H := by
  obtain ⟨h1, h2, h3, h4, h5, h6, h7⟩ := h
  have ha : s.vm.Alike U.vm := by rw [hvm]; exact Vm.Alike.refl U.vm
  exact ⟨h1.moved ha, h2.moved ha, h3.moved ha, h4.moved ha, fun w hw => va_Nw.same (xNs_tab hw) hvm (h5 w hw), va_Nw.same rfl hvm h6, h7.moved ha⟩
theorem xSt.kept {g : xG} {A : Nat → Prop} {U : State} {H H1 : Heap} (h : xSt g A U H) (hq : ∀ a : Nat, a < H.size → ¬ A a → H1[a]? = H[a]?) : xSt g A U H1 := by
  obtain ⟨h1, h2, h3, h4, h5, h6, h7⟩ := h
  exact ⟨h1.kept hq, h2.kept hq, h3.kept hq, h4.kept hq, h5, h6, h7⟩
theorem xSt.narrow {g : xG} {A B : Nat → Prop} {U : State} {H : Heap} (h : xSt g A U H) (hAB : ∀ q, B q → A q) : xSt g B U H := by
  obtain ⟨h1, h2, h3, h4, h5, h6, h7⟩ := h
  exact ⟨h1.narrow hAB, h2.narrow hAB, h3.narrow hAB, h4.narrow hAB, h5, h6, h7⟩
/-- what stands fast in a method's walk -/
def xFix (g : xG) (md : xMd) (mc ms : Nat) (p : Program) (R : Room) (s : State) (m : MethodId) (args : Array Value) (meth : Method) (c : Code) (A : Nat → Prop) : Prop :=
  p.tables.exec = Jvm.exec ∧ c.code = md.2.1 ∧ c.maxLocals = md.2.2.1 ∧ s.vm.findClass md.1.cls = some m.cls ∧ (∀ w ∈ gl, w.before args s = true) ∧ va_K g.1 vwCl (xTy g) s ∧ meth.sig.returnType = md.2.2.2.1 ∧ meth.locks = false ∧ meth.name = md.1.name ∧ (∀ q, s.heap.size ≤ q → A q) ∧ (md.2.2.2.2.1 ≤ R.frames ∧ md.2.2.2.2.2 ≤ R.locals ∧ mc ≤ R.cells ∧ ms ≤ R.slots) ∧ xSt g A s s.heap
/-- a return: the instruction and the answer on the stack -/
def xRet (md : xMd) (pc : Nat) (r : Option Value) : Prop :=
  (md.2.2.2.1 = none ∧ r = none ∧ decode md.2.1 pc = .ok (.return_, 1)) ∨ (∃ ty v, md.2.2.2.1 = some ty ∧ r = some (.int v) ∧ narrow ty (.int v) = .int v ∧ decode md.2.1 pc = .ok (.ireturn, 1)) ∨ (∃ v, md.2.2.2.1 = some .long ∧ r = some (.long v) ∧ decode md.2.1 pc = .ok (.lreturn, 1)) ∨ (∃ n o, md.2.2.2.1 = some (.object n) ∧ r = some (va_rf o) ∧ decode md.2.1 pc = .ok (.areturn, 1))
/-- locals: their kinds (0 none, 1, 2 by category) and values -/
def xLr (ls : Array Slot) (n : Nat) (L : List (Nat × Value)) : Prop := ls.size = n ∧ lv_wf ls ∧ ∀ (i t : Nat) (v : Value), L[i]? = some (t, v) → t ≠ 0 → ls[i]? = some (.val v) ∧ v.category = t
def xEnd (l : Launch) (g : xG) (md : xMd) (mc ms : Nat) (p : Program) (e : Env) (R : Room) (s : State) (m : MethodId) (args : Array Value) (below : List Frame) (meth : Method) (c : Code) (A : Nat → Prop) (Q : Option Value → xM → Prop) (Z : State → Prop) : Prop :=
  ∀ (r : Option Value) (M : xM) (H : Heap) (locs : List Loc) (pc : Nat) (ls : Array Slot), Q r M → xP g A M H → va_S A s.heap H locs → xRet md pc r → W p l e R s m args below meth c H locs mc ms Z (F0 m pc ls r.toList)
def xWp (l : Launch) (g : xG) (md : xMd) (mc ms pc : Nat) (L : List (Nat × Value)) (st : List Value) (cs : Nat × Nat) (M : xM) (Q : Option Value → xM → Prop) : Prop :=
  ∀ (p : Program) (e : Env) (R : Room) (s : State) (m : MethodId) (args : Array Value) (below : List Frame) (meth : Method) (c : Code) (A : Nat → Prop) (H : Heap) (locs : List Loc) (Z : State → Prop) (ls : Array Slot),
    xFix g md mc ms p R s m args meth c A → xEnd l g md mc ms p e R s m args below meth c A Q Z → xP g A M H → va_S A s.heap H locs → xLr ls md.2.2.1 L → W p l e R s m args below meth c H locs cs.1 cs.2 Z (F0 m pc ls st)
/-- a method's contract -/
def xPre (g : xG) (M : xM) (sz : Nat) : State → Prop := fun U => U.heap.size = sz ∧ va_P g.1 vwCl (xW g M) U.heap ∧ va_K g.1 vwCl (xTy g) U ∧ va_D (fun _ => True) (xW g M) ∧ xSt g (va_A (xW g M) sz) U U.heap
def xPost (g : xG) (M : xM) (sz : Nat) (Q : Option Value → xM → Prop) : Array Value → State → Outcome → State → Prop := fun _ st oc t =>
  (∃ (r : Option Value) (M1 : xM), oc = .returned r ∧ Q r M1 ∧ va_P g.1 vwCl (xW g M1) t.heap ∧ va_K g.1 vwCl (xTy g) t ∧ va_D (va_A (xW g M) sz) (xW g M1)) ∧ va_F (va_A (xW g M) sz) st t
def xSpec (l : Launch) (g : xG) (md : xMd) (mc ms : Nat) (av : List Value) (M : xM) (Q : Option Value → xM → Prop) : Prop :=
  ∀ sz : Nat, Met l md.1 (xws md) (xrm md mc ms) (va_Pc av (xPre g M sz)) (xPost g M sz Q) mc ms (va_A (xW g M) sz)
def xSp (l : Launch) (g : xG) (md : xMd) (mc ms : Nat) (av : List Value) (M : xM) (Q : Option Value → xM → Prop) : Prop :=
  ∃ Q0 : Option Value → xM → Prop, (∀ r M1, Q0 r M1 → Q r M1) ∧ xSpec l g md mc ms av M Q0
theorem xSp.mono {l : Launch} {g : xG} {md : xMd} {mc ms : Nat} {av : List Value} {M : xM} {Q Q1 : Option Value → xM → Prop} (h : xSp l g md mc ms av M Q) (hQ : ∀ r M1, Q r M1 → Q1 r M1) : xSp l g md mc ms av M Q1 := by
  obtain ⟨Q0, h1, h2⟩ := h
  exact ⟨Q0, fun r M1 h => hQ r M1 (h1 r M1 h), h2⟩
/-- the locals with which a method begins, by its arguments with their categories -/
def xexp : List (Nat × Value) → List (Nat × Value)
  | [] => []
  | (t, v) :: r => if t = 2 then (2, v) :: (0, .null) :: xexp r else (1, v) :: xexp r
theorem xexp_args : ∀ (ta : List (Nat × Value)) (b : Nat), (∀ q ∈ ta, q.2.category = q.1) → ∀ (i t : Nat) (v : Value), (xexp ta)[i]? = some (t, v) → t ≠ 0 → (b + i, v) ∈ lv_args b (ta.map Prod.snd) ∧ v.category = t
  | [], b, _, i, t, v, h, _ => by simp [xexp] at h
  | (t0, v0) :: r, b, hc, i, t, v, h, ht => by
    have hc0 : v0.category = t0 := hc (t0, v0) List.mem_cons_self
    have hcr : ∀ q ∈ r, q.2.category = q.1 := fun q hq => hc q (List.mem_cons_of_mem _ hq)
    simp only [List.map_cons, lv_args]
    by_cases h2 : t0 = 2
    · subst h2
      simp only [xexp, if_pos] at h
      rw [if_pos hc0]
      match i, h with
      | 0, h => simp at h; obtain ⟨rfl, rfl⟩ := h; exact ⟨by simp, hc0⟩
      | 1, h => simp at h; exact absurd h.1.symm ht
      | i + 2, h =>
        simp at h
        obtain ⟨k1, k2⟩ := xexp_args r (b + 2) hcr i t v h ht
        exact ⟨List.mem_cons_of_mem _ (by rw [show b + (i + 2) = b + 2 + i by omega]; exact k1), k2⟩
    · have h1 : ¬ v0.category = 2 := by rw [hc0]; exact h2
      have h1' : v0.category = 1 := by rcases lv_cat v0 with q | q <;> omega
      simp only [xexp, if_neg h2] at h
      rw [if_neg h1]
      match i, h with
      | 0, h => simp at h; obtain ⟨rfl, rfl⟩ := h; exact ⟨by simp, h1'⟩
      | i + 1, h =>
        simp at h
        obtain ⟨k1, k2⟩ := xexp_args r (b + 1) hcr i t v h ht
        exact ⟨List.mem_cons_of_mem _ (by rw [show b + (i + 1) = b + 1 + i by omega]; exact k1), k2⟩
theorem xexp_pad {ta : List (Nat × Value)} {k : Nat} {i t : Nat} {v : Value} (h : (xexp ta ++ List.replicate k (0, Value.null))[i]? = some (t, v)) (ht : t ≠ 0) : (xexp ta)[i]? = some (t, v) := by
  by_cases hi : i < (xexp ta).length
  · rwa [List.getElem?_append_left hi] at h
  · rw [List.getElem?_append_right (by omega)] at h
    have := List.eq_of_mem_replicate (List.mem_of_getElem? h)
    cases this
    exact absurd rfl ht
theorem xPre_blind (g : xG) (M : xM) (sz : Nat) (av : List Value) : FrameBlind (va_Pc av (xPre g M sz)) := by
  intro a U f mk h
  obtain ⟨h0, h1, h2, h3, h4, h5⟩ := h
  exact ⟨h0, h1, h2, va_K.moved (u := U) (U := U.calling f mk a) (Vm.Alike.refl U.vm) h3, h4, xSt.same (s := U) (U := U.calling f mk a) rfl h5⟩
set_option maxHeartbeats 1000000 in
/-- a contract out of a walk of the body -/
theorem xBody {l : Launch} {g : xG} {md : xMd} {mc ms : Nat} {ta : List (Nat × Value)} {M : xM} {Q : Option Value → xM → Prop} (k : Nat) (hy : plainName md.1.cls = true) (hc : ∀ q ∈ ta, q.2.category = q.1) (hn : (lg_sl (ta.map Prod.snd)).length ≤ md.2.2.1)
    (h : xWp l g md mc ms 0 (xexp ta ++ List.replicate k (0, .null)) [] (0, 0) M Q) : xSpec l g md mc ms (ta.map Prod.snd) M Q := by
  intro sz
  refine Met.ofW (cc := md.2.1) (maxL := md.2.2.1) (ret := md.2.2.2.1) hy rfl ?_
  intro p e s m args below meth c s₁ B hml hv
  obtain ⟨rfl, hsz, hP, hK, hD0, hSt⟩ := hv
  have hts := atoms_spec (ws := xws md) B.pre
  have hown : s.vm.findClass md.1.cls = some m.cls := findClass_of_methodNamed B.named
  subst hsz
  have hD := hD0.self (sz := s.heap.size)
  have hl := lv_entry (ta.map Prod.snd) (n := md.2.2.1) hn
  rw [lg_entry_eq]
  refine h p e _ s m _ below meth c (va_A (xW g M) s.heap.size) s.heap [] _ _ ⟨B.exec, B.bytes, hml, hown, fun w hw => hts w (List.mem_cons_of_mem _ hw), hK, B.returns, B.notSynchronized, (name_of_methodNamed B.named B.method).1, fun q hq => Or.inr hq, ⟨Nat.le_refl _, Nat.le_refl _, Nat.le_refl _, Nat.le_refl _⟩, hSt⟩ ?_ ⟨hP, hD⟩ va_S.rf ⟨hl.1, hl.2.1, fun i t v hi ht => ?_⟩
  · intro r M1 H locs pc ls hq hw hS hret
    have hlocks := B.notSynchronized
    have hr := B.returns
    have key : ∀ t : State, t.heap = H → s.WarmedH t.vm → xPost g M s.heap.size Q (ta.map Prod.snd).toArray s (.returned r) t := fun t ht hWm =>
      ⟨⟨r, M1, rfl, hq, by rw [ht]; exact hw.1, va_K.moved hWm.alike hK, hw.2⟩, hS.F ht⟩
    rcases hret with ⟨e1, rfl, hd⟩ | ⟨ty, v, e1, rfl, hnr, hd⟩ | ⟨v, e1, rfl, hd⟩ | ⟨nm, o, e1, rfl, hd⟩
    · exact W.vret B.exec B.bytes (by rw [hr, e1]) key hS.2.2 hd
    · exact W.zret B.exec B.bytes (by rw [hr, e1]) hnr key hS.2.2 hd
    · exact W.lret B.exec B.bytes (by rw [hr, e1]) key hS.2.2 hd
    · refine W.aret B.exec B.bytes (by rw [hr, e1]) (Or.inl ⟨nm, rfl⟩) ?_ key hS.2.2 hd
      cases o with
      | none => exact Or.inl rfl
      | some a => exact Or.inr ⟨a, rfl⟩
  · obtain ⟨h1, h2⟩ := xexp_args ta 0 hc i t v (xexp_pad hi ht) ht
    exact ⟨by simpa using hl.2.2 _ h1, h2⟩
end
section
/-! THE ROWS of the judgement: an instruction, a row. -/
section XR
variable {l : Launch} {g : xG} {md : xMd} {mc ms pc : Nat} {L : List (Nat × Value)} {st : List Value} {cs : Nat × Nat} {M : xM} {Q : Option Value → xM → Prop}
theorem xWp.lift {pc1 : Nat} {st1 : List Value} (f : ∀ (p : Program) (e : Env) (R : Room) (s : State) (m : MethodId) (args : Array Value) (below : List Frame) (meth : Method) (c : Code) (H : Heap) (locs : List Loc) (cells slots : Nat) (Z : State → Prop) (ls : Array Slot), p.tables.exec = Jvm.exec → c.code = md.2.1 → xLr ls md.2.2.1 L → W p l e R s m args below meth c H locs cells slots Z (F0 m pc1 ls st1) → W p l e R s m args below meth c H locs cells slots Z (F0 m pc ls st))
    (h : xWp l g md mc ms pc1 L st1 cs M Q) : xWp l g md mc ms pc L st cs M Q := fun p e R s m args below meth c A H locs Z ls hF hE hP hS hl => f p e R s m args below meth c H locs cs.1 cs.2 Z ls hF.1 hF.2.1 hl (h p e R s m args below meth c A H locs Z ls hF hE hP hS hl)
theorem xWp.lift2 {pc1 pc2 : Nat} {st1 : List Value} {C : Prop} (f : ∀ (p : Program) (e : Env) (R : Room) (s : State) (m : MethodId) (args : Array Value) (below : List Frame) (meth : Method) (c : Code) (H : Heap) (locs : List Loc) (cells slots : Nat) (Z : State → Prop) (ls : Array Slot), p.tables.exec = Jvm.exec → c.code = md.2.1 → (C → W p l e R s m args below meth c H locs cells slots Z (F0 m pc1 ls st1)) → (¬ C → W p l e R s m args below meth c H locs cells slots Z (F0 m pc2 ls st1)) → W p l e R s m args below meth c H locs cells slots Z (F0 m pc ls st))
    (h1 : C → xWp l g md mc ms pc1 L st1 cs M Q) (h2 : ¬ C → xWp l g md mc ms pc2 L st1 cs M Q) : xWp l g md mc ms pc L st cs M Q := fun p e R s m args below meth c A H locs Z ls hF hE hP hS hl => f p e R s m args below meth c H locs cs.1 cs.2 Z ls hF.1 hF.2.1 (fun k => h1 k p e R s m args below meth c A H locs Z ls hF hE hP hS hl) (fun k => h2 k p e R s m args below meth c A H locs Z ls hF hE hP hS hl)
theorem xWp.q {Q1 : Option Value → xM → Prop} (h : xWp l g md mc ms pc L st cs M Q) (hq : ∀ r M1, Q r M1 → Q1 r M1) : xWp l g md mc ms pc L st cs M Q1 := fun p e R s m args below meth c A H locs Z ls hF hE hP hS hl => h p e R s m args below meth c A H locs Z ls hF (fun r M1 H1 locs1 pc1 ls1 k => hE r M1 H1 locs1 pc1 ls1 (hq r M1 k)) hP hS hl

theorem xr_iconst {n : Int} (v : Int32) (d : decode md.2.1 pc = .ok (.iconst n, 1)) (hv : Int32.ofInt n = v) (h : xWp l g md mc ms (pc + 1) L (.int v :: st) cs M Q) : xWp l g md mc ms pc L st cs M Q := xWp.lift (fun _ _ _ _ _ _ _ _ _ _ _ _ _ _ _ hx hb _ k => lv_iconst hx hb d hv k) h
theorem xr_bipush {n : Int} (v : Int32) (d : decode md.2.1 pc = .ok (.bipush n, 2)) (hv : (Int8.ofInt n).toInt32 = v) (h : xWp l g md mc ms (pc + 2) L (.int v :: st) cs M Q) : xWp l g md mc ms pc L st cs M Q := xWp.lift (fun _ _ _ _ _ _ _ _ _ _ _ _ _ _ _ hx hb _ k => lv_bipush hx hb d hv k) h
theorem xr_sipush {n : Int} (v : Int32) (d : decode md.2.1 pc = .ok (.sipush n, 3)) (hv : (Int16.ofInt n).toInt32 = v) (h : xWp l g md mc ms (pc + 3) L (.int v :: st) cs M Q) : xWp l g md mc ms pc L st cs M Q := xWp.lift (fun _ _ _ _ _ _ _ _ _ _ _ _ _ _ _ hx hb _ k => lv_sipush hx hb d hv k) h
theorem xr_lconst {n : Fin 2} (v : Int64) (d : decode md.2.1 pc = .ok (.lconst n, 1)) (hv : Int64.ofNat (n : Nat) = v) (h : xWp l g md mc ms (pc + 1) L (.long v :: st) cs M Q) : xWp l g md mc ms pc L st cs M Q := xWp.lift (fun _ _ _ _ _ _ _ _ _ _ _ _ _ _ _ hx hb _ k => lv_lconst hx hb d hv k) h
theorem xr_null (d : decode md.2.1 pc = .ok (.aconst_null, 1)) (h : xWp l g md mc ms (pc + 1) L (va_rf none :: st) cs M Q) : xWp l g md mc ms pc L st cs M Q := xWp.lift (fun _ _ _ _ _ _ _ _ _ _ _ _ _ _ _ hx hb _ k => lv_null hx hb d k) h
theorem xr_ldc {i : Nat} (v : Int32) (d : decode md.2.1 pc = .ok (.ldc i, 2)) (hw : Cond.constant md.1.cls i v ∈ gl) (h : xWp l g md mc ms (pc + 2) L (.int v :: st) cs M Q) : xWp l g md mc ms pc L st cs M Q := fun p e R s m args below meth c A H locs Z ls hF hE hP hS hl => lv_ldc hF.1 hF.2.1 hF.2.2.2.1 (hF.2.2.2.2.1 _ hw) d (h p e R s m args below meth c A H locs Z ls hF hE hP hS hl)
theorem xr_ldc2 {i : Nat} (v : Int64) (d : decode md.2.1 pc = .ok (.ldc2_w i, 3)) (hw : Cond.constantLong md.1.cls i v ∈ gl) (h : xWp l g md mc ms (pc + 3) L (.long v :: st) cs M Q) : xWp l g md mc ms pc L st cs M Q := fun p e R s m args below meth c A H locs Z ls hF hE hP hS hl => lv_ldc2 hF.1 hF.2.1 hF.2.2.2.1 (hF.2.2.2.2.1 _ hw) d (h p e R s m args below meth c A H locs Z ls hF hE hP hS hl)
theorem xr_iload_n {n : Fin 4} (i : Nat) {t : Nat} {x : Int32} (d : decode md.2.1 pc = .ok (.iload_n n, 1)) (hi : (n : Nat) = i) (hL : L[i]? = some (t + 1, .int x)) (h : xWp l g md mc ms (pc + 1) L (.int x :: st) cs M Q) : xWp l g md mc ms pc L st cs M Q := xWp.lift (fun _ _ _ _ _ _ _ _ _ _ _ _ _ _ _ hx hb hl k => lv_iload_n hx hb d hi (hl.2.2 i _ _ hL (Nat.succ_ne_zero _)).1 k) h
theorem xr_iload {i : Nat} {t : Nat} {x : Int32} (d : decode md.2.1 pc = .ok (.iload i, 2)) (hL : L[i]? = some (t + 1, .int x)) (h : xWp l g md mc ms (pc + 2) L (.int x :: st) cs M Q) : xWp l g md mc ms pc L st cs M Q := xWp.lift (fun _ _ _ _ _ _ _ _ _ _ _ _ _ _ _ hx hb hl k => lv_iload hx hb d (hl.2.2 i _ _ hL (Nat.succ_ne_zero _)).1 k) h
theorem xr_lload_n {n : Fin 4} (i : Nat) {t : Nat} {x : Int64} (d : decode md.2.1 pc = .ok (.lload_n n, 1)) (hi : (n : Nat) = i) (hL : L[i]? = some (t + 1, .long x)) (h : xWp l g md mc ms (pc + 1) L (.long x :: st) cs M Q) : xWp l g md mc ms pc L st cs M Q := xWp.lift (fun _ _ _ _ _ _ _ _ _ _ _ _ _ _ _ hx hb hl k => lv_lload_n hx hb d hi (hl.2.2 i _ _ hL (Nat.succ_ne_zero _)).1 k) h
theorem xr_lload {i : Nat} {t : Nat} {x : Int64} (d : decode md.2.1 pc = .ok (.lload i, 2)) (hL : L[i]? = some (t + 1, .long x)) (h : xWp l g md mc ms (pc + 2) L (.long x :: st) cs M Q) : xWp l g md mc ms pc L st cs M Q := xWp.lift (fun _ _ _ _ _ _ _ _ _ _ _ _ _ _ _ hx hb hl k => lv_lload hx hb d (hl.2.2 i _ _ hL (Nat.succ_ne_zero _)).1 k) h
theorem xr_aload_n {n : Fin 4} (i : Nat) {t : Nat} {x : Option Nat} (d : decode md.2.1 pc = .ok (.aload_n n, 1)) (hi : (n : Nat) = i) (hL : L[i]? = some (t + 1, va_rf x)) (h : xWp l g md mc ms (pc + 1) L (va_rf x :: st) cs M Q) : xWp l g md mc ms pc L st cs M Q := xWp.lift (fun _ _ _ _ _ _ _ _ _ _ _ _ _ _ _ hx hb hl k => by
  have hz := (hl.2.2 i _ _ hL (Nat.succ_ne_zero _)).1
  cases x with
  | none => exact lv_aload_nN hx hb d hi hz k
  | some a => exact lv_aload_n hx hb d hi hz k) h
theorem xr_aload {i : Nat} {t : Nat} {x : Option Nat} (d : decode md.2.1 pc = .ok (.aload i, 2)) (hL : L[i]? = some (t + 1, va_rf x)) (h : xWp l g md mc ms (pc + 2) L (va_rf x :: st) cs M Q) : xWp l g md mc ms pc L st cs M Q := xWp.lift (fun _ _ _ _ _ _ _ _ _ _ _ _ _ _ _ hx hb hl k => by
  have hz := (hl.2.2 i _ _ hL (Nat.succ_ne_zero _)).1
  cases x with
  | none => exact lv_aloadN hx hb d hz k
  | some a => exact lv_aload hx hb d hz k) h
/-- locals behind a store -/
def xkill (i : Nat) (L : List (Nat × Value)) : List (Nat × Value) := match i with
  | 0 => L
  | j + 1 => match L[j]? with
    | some (2, v) => L.set j (0, v)
    | _ => L
def xst1 (i : Nat) (v : Value) (L : List (Nat × Value)) : List (Nat × Value) := (xkill i L).set i (1, v)
def xst2 (i : Nat) (v : Value) (L : List (Nat × Value)) : List (Nat × Value) := ((xkill i L).set i (2, v)).set (i + 1) (0, v)
theorem xkill_get {i j t : Nat} {v : Value} {L : List (Nat × Value)} (h : (xkill i L)[j]? = some (t, v)) (ht : t ≠ 0) : L[j]? = some (t, v) ∧ ¬ (j + 1 = i ∧ t = 2) := by
  unfold xkill at h
  cases i with
  | zero => exact ⟨h, by omega⟩
  | succ k =>
    simp only at h
    split at h
    next w hw =>
      by_cases hk : k = j
      · subst hk
        rw [List.getElem?_set_self (List.getElem?_eq_some_iff.mp hw).1] at h
        cases h
        exact absurd rfl ht
      · rw [List.getElem?_set_ne hk] at h
        exact ⟨h, by omega⟩
    next hw =>
      refine ⟨h, fun hz => ?_⟩
      obtain ⟨h1, h2⟩ := hz
      have : j = k := by omega
      subst this; subst h2
      exact hw v h
theorem xst1_ok {ls : Array Slot} {n i : Nat} {v : Value} {L : List (Nat × Value)} (hl : xLr ls n L) (hi : i < n) (hc : v.category = 1) : ∃ ls', storeLocals ls i v = some ls' ∧ xLr ls' n (xst1 i v L) := by
  have hh : lv_has ls n ((xkill i L).zipIdx.filterMap (fun q => if q.1.1 = 0 ∨ q.2 = i then none else some (q.2, q.1.2))) := ⟨hl.1, hl.2.1, fun q hq => by
    obtain ⟨x, hx, hq⟩ := List.mem_filterMap.mp hq
    obtain ⟨⟨t, w⟩, j⟩ := x
    have hj := List.mem_zipIdx_iff_getElem?.mp hx
    simp only at hj hq
    split at hq
    next => cases hq
    next hne =>
      cases hq
      exact (hl.2.2 j t w (xkill_get hj (fun z => hne (Or.inl z))).1 (fun z => hne (Or.inl z))).1⟩
  obtain ⟨ls', h1, h2⟩ := lv_store1 hh hi hc
  refine ⟨ls', h1, h2.1, h2.2.1, fun j t w hj ht => ?_⟩
  unfold xst1 at hj
  by_cases hij : i = j
  · subst hij
    have hlen : i < (xkill i L).length := by
      have := (List.getElem?_eq_some_iff.mp hj).1
      simpa using this
    rw [List.getElem?_set_self hlen] at hj
    cases hj
    exact ⟨h2.2.2 (i, v) List.mem_cons_self, hc⟩
  · rw [List.getElem?_set_ne hij] at hj
    obtain ⟨k1, k2⟩ := xkill_get hj ht
    obtain ⟨k3, k4⟩ := hl.2.2 j t w k1 ht
    refine ⟨h2.2.2 (j, w) (List.mem_cons_of_mem _ (List.mem_filter.mpr ⟨List.mem_filterMap.mpr ⟨((t, w), j), List.mem_zipIdx_iff_getElem?.mpr hj, by simp [ht, Ne.symm hij]⟩, ?_⟩)), k4⟩
    have e1 : (j == i) = false := by simp [Ne.symm hij]
    simp only [e1, Bool.not_false, Bool.true_and]
    rw [k4]
    by_cases hz : j + 1 = i
    · have : t ≠ 2 := fun q => k2 ⟨hz, q⟩
      simp [this]
    · simp [hz]
theorem xst2_ok {ls : Array Slot} {n i : Nat} {v : Value} {L : List (Nat × Value)} (hl : xLr ls n L) (hi : i + 1 < n) (hc : v.category = 2) : ∃ ls', storeLocals ls i v = some ls' ∧ xLr ls' n (xst2 i v L) := by
  have hh : lv_has ls n ((xkill i L).zipIdx.filterMap (fun q => if q.1.1 = 0 ∨ q.2 = i then none else some (q.2, q.1.2))) := ⟨hl.1, hl.2.1, fun q hq => by
    obtain ⟨x, hx, hq⟩ := List.mem_filterMap.mp hq
    obtain ⟨⟨t, w⟩, j⟩ := x
    have hj := List.mem_zipIdx_iff_getElem?.mp hx
    simp only at hj hq
    split at hq
    next => cases hq
    next hne =>
      cases hq
      exact (hl.2.2 j t w (xkill_get hj (fun z => hne (Or.inl z))).1 (fun z => hne (Or.inl z))).1⟩
  obtain ⟨ls', h1, h2⟩ := lv_store2 hh hi hc
  refine ⟨ls', h1, h2.1, h2.2.1, fun j t w hj ht => ?_⟩
  unfold xst2 at hj
  by_cases hij2 : i + 1 = j
  · subst hij2
    have hlen : i + 1 < ((xkill i L).set i (2, v)).length := by
      have := (List.getElem?_eq_some_iff.mp hj).1
      simpa using this
    rw [List.getElem?_set_self hlen] at hj
    cases hj
    exact absurd rfl ht
  · rw [List.getElem?_set_ne hij2] at hj
    by_cases hij : i = j
    · subst hij
      have hlen : i < (xkill i L).length := by
        have := (List.getElem?_eq_some_iff.mp hj).1
        simpa using this
      rw [List.getElem?_set_self hlen] at hj
      cases hj
      exact ⟨h2.2.2 (i, v) List.mem_cons_self, hc⟩
    · rw [List.getElem?_set_ne hij] at hj
      obtain ⟨k1, k2⟩ := xkill_get hj ht
      obtain ⟨k3, k4⟩ := hl.2.2 j t w k1 ht
      refine ⟨h2.2.2 (j, w) (List.mem_cons_of_mem _ (List.mem_filter.mpr ⟨List.mem_filterMap.mpr ⟨((t, w), j), List.mem_zipIdx_iff_getElem?.mpr hj, by simp [ht, Ne.symm hij]⟩, ?_⟩)), k4⟩
      have e1 : (j == i) = false := by simp [Ne.symm hij]
      have e2 : (j == i + 1) = false := by simp [Ne.symm hij2]
      simp only [e1, e2, Bool.not_false, Bool.true_and]
      rw [k4]
      by_cases hz : j + 1 = i
      · have : t ≠ 2 := fun q => k2 ⟨hz, q⟩
        simp [this]
      · simp [hz]

theorem xr_istore_n {n : Fin 4} (i : Nat) {x : Int32} (d : decode md.2.1 pc = .ok (.istore_n n, 1)) (hi : (n : Nat) = i) (hn : i < md.2.2.1) (h : xWp l g md mc ms (pc + 1) (xst1 i (Value.int x) L) st cs M Q) : xWp l g md mc ms pc L (Value.int x :: st) cs M Q := fun p e R s m args below meth c A H locs Z ls hF hE hP hS hl => by
  obtain ⟨hx, hb, hF'⟩ := id hF
  obtain ⟨ls', e', h'⟩ := xst1_ok (v := Value.int x) hl hn rfl
  intro T hT X
  obtain ⟨t, a, b⟩ := h p e R s m args below meth c A H locs Z ls' hF hE hP hS h' T hT X
  refine ⟨t, ?_, b⟩
  subst hi
  jvm_step X.here [X.here.top, ↓top_set X.here.top, hx, hb, d, e']
  exact a
theorem xr_istore {i : Nat} {x : Int32} (d : decode md.2.1 pc = .ok (.istore i, 2)) (hn : i < md.2.2.1) (h : xWp l g md mc ms (pc + 2) (xst1 i (Value.int x) L) st cs M Q) : xWp l g md mc ms pc L (Value.int x :: st) cs M Q := fun p e R s m args below meth c A H locs Z ls hF hE hP hS hl => by
  obtain ⟨hx, hb, hF'⟩ := id hF
  obtain ⟨ls', e', h'⟩ := xst1_ok (v := Value.int x) hl hn rfl
  intro T hT X
  obtain ⟨t, a, b⟩ := h p e R s m args below meth c A H locs Z ls' hF hE hP hS h' T hT X
  refine ⟨t, ?_, b⟩
  jvm_step X.here [X.here.top, ↓top_set X.here.top, hx, hb, d, e']
  exact a
theorem xr_lstore_n {n : Fin 4} (i : Nat) {x : Int64} (d : decode md.2.1 pc = .ok (.lstore_n n, 1)) (hi : (n : Nat) = i) (hn : i + 1 < md.2.2.1) (h : xWp l g md mc ms (pc + 1) (xst2 i (Value.long x) L) st cs M Q) : xWp l g md mc ms pc L (Value.long x :: st) cs M Q := fun p e R s m args below meth c A H locs Z ls hF hE hP hS hl => by
  obtain ⟨hx, hb, hF'⟩ := id hF
  obtain ⟨ls', e', h'⟩ := xst2_ok (v := Value.long x) hl hn rfl
  intro T hT X
  obtain ⟨t, a, b⟩ := h p e R s m args below meth c A H locs Z ls' hF hE hP hS h' T hT X
  refine ⟨t, ?_, b⟩
  subst hi
  jvm_step X.here [X.here.top, ↓top_set X.here.top, hx, hb, d, e']
  exact a
theorem xr_lstore {i : Nat} {x : Int64} (d : decode md.2.1 pc = .ok (.lstore i, 2)) (hn : i + 1 < md.2.2.1) (h : xWp l g md mc ms (pc + 2) (xst2 i (Value.long x) L) st cs M Q) : xWp l g md mc ms pc L (Value.long x :: st) cs M Q := fun p e R s m args below meth c A H locs Z ls hF hE hP hS hl => by
  obtain ⟨hx, hb, hF'⟩ := id hF
  obtain ⟨ls', e', h'⟩ := xst2_ok (v := Value.long x) hl hn rfl
  intro T hT X
  obtain ⟨t, a, b⟩ := h p e R s m args below meth c A H locs Z ls' hF hE hP hS h' T hT X
  refine ⟨t, ?_, b⟩
  jvm_step X.here [X.here.top, ↓top_set X.here.top, hx, hb, d, e']
  exact a
theorem xr_astore_n {n : Fin 4} (i : Nat) {x : Option Nat} (d : decode md.2.1 pc = .ok (.astore_n n, 1)) (hi : (n : Nat) = i) (hn : i < md.2.2.1) (h : xWp l g md mc ms (pc + 1) (xst1 i (va_rf x) L) st cs M Q) : xWp l g md mc ms pc L (va_rf x :: st) cs M Q := fun p e R s m args below meth c A H locs Z ls hF hE hP hS hl => by
  obtain ⟨hx, hb, hF'⟩ := id hF
  obtain ⟨ls', e', h'⟩ := xst1_ok (v := va_rf x) hl hn (by cases x <;> rfl)
  intro T hT X
  obtain ⟨t, a, b⟩ := h p e R s m args below meth c A H locs Z ls' hF hE hP hS h' T hT X
  refine ⟨t, ?_, b⟩
  subst hi
  cases x with
  | none =>
    simp only [va_rf] at e'
    jvm_step X.here [X.here.top, ↓top_set X.here.top, hx, hb, d, e', Value.isRef, va_rf]
    exact a
  | some q =>
    simp only [va_rf] at e'
    jvm_step X.here [X.here.top, ↓top_set X.here.top, hx, hb, d, e', Value.isRef, va_rf]
    exact a
theorem xr_astore {i : Nat} {x : Option Nat} (d : decode md.2.1 pc = .ok (.astore i, 2)) (hn : i < md.2.2.1) (h : xWp l g md mc ms (pc + 2) (xst1 i (va_rf x) L) st cs M Q) : xWp l g md mc ms pc L (va_rf x :: st) cs M Q := fun p e R s m args below meth c A H locs Z ls hF hE hP hS hl => by
  obtain ⟨hx, hb, hF'⟩ := id hF
  obtain ⟨ls', e', h'⟩ := xst1_ok (v := va_rf x) hl hn (by cases x <;> rfl)
  intro T hT X
  obtain ⟨t, a, b⟩ := h p e R s m args below meth c A H locs Z ls' hF hE hP hS h' T hT X
  refine ⟨t, ?_, b⟩
  cases x with
  | none =>
    simp only [va_rf] at e'
    jvm_step X.here [X.here.top, ↓top_set X.here.top, hx, hb, d, e', Value.isRef, va_rf]
    exact a
  | some q =>
    simp only [va_rf] at e'
    jvm_step X.here [X.here.top, ↓top_set X.here.top, hx, hb, d, e', Value.isRef, va_rf]
    exact a
theorem xr_iinc {i : Nat} {n : Int} {t : Nat} {x : Int32} (v : Int32) (d : decode md.2.1 pc = .ok (.iinc i n, 3)) (hL : L[i]? = some (t + 1, .int x)) (hv : x + Int32.ofInt n = v) (hn : i < md.2.2.1) (h : xWp l g md mc ms (pc + 3) (xst1 i (.int v) L) st cs M Q) : xWp l g md mc ms pc L st cs M Q := fun p e R s m args below meth c A H locs Z ls hF hE hP hS hl => by
  subst hv
  obtain ⟨hx, hb, hF'⟩ := id hF
  have hg := (hl.2.2 i _ _ hL (Nat.succ_ne_zero _)).1
  obtain ⟨ls', e', h'⟩ := xst1_ok (v := .int (x + Int32.ofInt n)) hl hn rfl
  intro T hT X
  obtain ⟨t, a, b⟩ := h p e R s m args below meth c A H locs Z ls' hF hE hP hS h' T hT X
  refine ⟨t, ?_, b⟩
  jvm_step X.here [X.here.top, ↓top_set X.here.top, hx, hb, d, hg, e']
  exact a
theorem xr_iadd {x y : Int32} (d : decode md.2.1 pc = .ok (.iadd, 1)) (h : xWp l g md mc ms (pc + 1) L (.int (x + y) :: st) cs M Q) : xWp l g md mc ms pc L (.int y :: .int x :: st) cs M Q := xWp.lift (fun _ _ _ _ _ _ _ _ _ _ _ _ _ _ _ hx hb _ k => lv_iadd hx hb d k) h
theorem xr_isub {x y : Int32} (d : decode md.2.1 pc = .ok (.isub, 1)) (h : xWp l g md mc ms (pc + 1) L (.int (x - y) :: st) cs M Q) : xWp l g md mc ms pc L (.int y :: .int x :: st) cs M Q := xWp.lift (fun _ _ _ _ _ _ _ _ _ _ _ _ _ _ _ hx hb _ k => lv_isub hx hb d k) h
theorem xr_imul {x y : Int32} (d : decode md.2.1 pc = .ok (.imul, 1)) (h : xWp l g md mc ms (pc + 1) L (.int (x * y) :: st) cs M Q) : xWp l g md mc ms pc L (.int y :: .int x :: st) cs M Q := xWp.lift (fun _ _ _ _ _ _ _ _ _ _ _ _ _ _ _ hx hb _ k => lv_imul hx hb d k) h
theorem xr_iand {x y : Int32} (d : decode md.2.1 pc = .ok (.iand, 1)) (h : xWp l g md mc ms (pc + 1) L (.int (x &&& y) :: st) cs M Q) : xWp l g md mc ms pc L (.int y :: .int x :: st) cs M Q := xWp.lift (fun _ _ _ _ _ _ _ _ _ _ _ _ _ _ _ hx hb _ k => lv_iand hx hb d k) h
theorem xr_ior {x y : Int32} (d : decode md.2.1 pc = .ok (.ior, 1)) (h : xWp l g md mc ms (pc + 1) L (.int (x ||| y) :: st) cs M Q) : xWp l g md mc ms pc L (.int y :: .int x :: st) cs M Q := xWp.lift (fun _ _ _ _ _ _ _ _ _ _ _ _ _ _ _ hx hb _ k => lv_ior hx hb d k) h
theorem xr_ixor {x y : Int32} (d : decode md.2.1 pc = .ok (.ixor, 1)) (h : xWp l g md mc ms (pc + 1) L (.int (x ^^^ y) :: st) cs M Q) : xWp l g md mc ms pc L (.int y :: .int x :: st) cs M Q := xWp.lift (fun _ _ _ _ _ _ _ _ _ _ _ _ _ _ _ hx hb _ k => lv_ixor hx hb d k) h
theorem xr_ishl {x y : Int32} (d : decode md.2.1 pc = .ok (.ishl, 1)) (h : xWp l g md mc ms (pc + 1) L (.int (x <<< (y &&& 31)) :: st) cs M Q) : xWp l g md mc ms pc L (.int y :: .int x :: st) cs M Q := xWp.lift (fun _ _ _ _ _ _ _ _ _ _ _ _ _ _ _ hx hb _ k => lv_ishl hx hb d k) h
theorem xr_ishr {x y : Int32} (d : decode md.2.1 pc = .ok (.ishr, 1)) (h : xWp l g md mc ms (pc + 1) L (.int (x >>> (y &&& 31)) :: st) cs M Q) : xWp l g md mc ms pc L (.int y :: .int x :: st) cs M Q := xWp.lift (fun _ _ _ _ _ _ _ _ _ _ _ _ _ _ _ hx hb _ k => lv_ishr hx hb d k) h
theorem xr_irem {x y : Int32} (d : decode md.2.1 pc = .ok (.irem, 1)) (hne : ¬ y = 0) (h : xWp l g md mc ms (pc + 1) L (.int (x - x / y * y) :: st) cs M Q) : xWp l g md mc ms pc L (.int y :: .int x :: st) cs M Q := xWp.lift (fun _ _ _ _ _ _ _ _ _ _ _ _ _ _ _ hx hb _ k => lv_irem hx hb d hne k) h
theorem xr_ladd {x y : Int64} (d : decode md.2.1 pc = .ok (.ladd, 1)) (h : xWp l g md mc ms (pc + 1) L (.long (x + y) :: st) cs M Q) : xWp l g md mc ms pc L (.long y :: .long x :: st) cs M Q := xWp.lift (fun _ _ _ _ _ _ _ _ _ _ _ _ _ _ _ hx hb _ k => lv_ladd hx hb d k) h
theorem xr_lsub {x y : Int64} (d : decode md.2.1 pc = .ok (.lsub, 1)) (h : xWp l g md mc ms (pc + 1) L (.long (x - y) :: st) cs M Q) : xWp l g md mc ms pc L (.long y :: .long x :: st) cs M Q := xWp.lift (fun _ _ _ _ _ _ _ _ _ _ _ _ _ _ _ hx hb _ k => lv_lsub hx hb d k) h
theorem xr_lmul {x y : Int64} (d : decode md.2.1 pc = .ok (.lmul, 1)) (h : xWp l g md mc ms (pc + 1) L (.long (x * y) :: st) cs M Q) : xWp l g md mc ms pc L (.long y :: .long x :: st) cs M Q := xWp.lift (fun _ _ _ _ _ _ _ _ _ _ _ _ _ _ _ hx hb _ k => lv_lmul hx hb d k) h
theorem xr_land {x y : Int64} (d : decode md.2.1 pc = .ok (.land, 1)) (h : xWp l g md mc ms (pc + 1) L (.long (x &&& y) :: st) cs M Q) : xWp l g md mc ms pc L (.long y :: .long x :: st) cs M Q := xWp.lift (fun _ _ _ _ _ _ _ _ _ _ _ _ _ _ _ hx hb _ k => lv_land hx hb d k) h
theorem xr_lor {x y : Int64} (d : decode md.2.1 pc = .ok (.lor, 1)) (h : xWp l g md mc ms (pc + 1) L (.long (x ||| y) :: st) cs M Q) : xWp l g md mc ms pc L (.long y :: .long x :: st) cs M Q := xWp.lift (fun _ _ _ _ _ _ _ _ _ _ _ _ _ _ _ hx hb _ k => lv_lor hx hb d k) h
theorem xr_lxor {x y : Int64} (d : decode md.2.1 pc = .ok (.lxor, 1)) (h : xWp l g md mc ms (pc + 1) L (.long (x ^^^ y) :: st) cs M Q) : xWp l g md mc ms pc L (.long y :: .long x :: st) cs M Q := xWp.lift (fun _ _ _ _ _ _ _ _ _ _ _ _ _ _ _ hx hb _ k => lv_lxor hx hb d k) h
theorem xr_lrem {x y : Int64} (d : decode md.2.1 pc = .ok (.lrem, 1)) (hne : ¬ y = 0) (h : xWp l g md mc ms (pc + 1) L (.long (x - x / y * y) :: st) cs M Q) : xWp l g md mc ms pc L (.long y :: .long x :: st) cs M Q := xWp.lift (fun _ _ _ _ _ _ _ _ _ _ _ _ _ _ _ hx hb _ k => lv_lrem hx hb d hne k) h
theorem xr_lcmp {x y : Int64} (d : decode md.2.1 pc = .ok (.lcmp, 1)) (h : xWp l g md mc ms (pc + 1) L (.int (lg_cmp x y) :: st) cs M Q) : xWp l g md mc ms pc L (.long y :: .long x :: st) cs M Q := xWp.lift (fun _ _ _ _ _ _ _ _ _ _ _ _ _ _ _ hx hb _ k => W.lcmp hx hb d k) h
theorem xr_lushr {x : Int64} {y : Int32} (d : decode md.2.1 pc = .ok (.lushr, 1)) (h : xWp l g md mc ms (pc + 1) L (.long ((x.toUInt64 >>> (y.toInt64.toUInt64 &&& Int64.toUInt64 63)).toInt64) :: st) cs M Q) : xWp l g md mc ms pc L (.int y :: .long x :: st) cs M Q := xWp.lift (fun _ _ _ _ _ _ _ _ _ _ _ _ _ _ _ hx hb _ k => lv_lushr hx hb d rfl k) h
theorem xr_lshl {x : Int64} {y : Int32} (d : decode md.2.1 pc = .ok (.lshl, 1)) (h : xWp l g md mc ms (pc + 1) L (.long (x <<< (y.toInt64 &&& 63)) :: st) cs M Q) : xWp l g md mc ms pc L (.int y :: .long x :: st) cs M Q := xWp.lift (fun _ _ _ _ _ _ _ _ _ _ _ _ _ _ _ hx hb _ k => lv_lshl hx hb d rfl k) h
theorem xr_lshr {x : Int64} {y : Int32} (d : decode md.2.1 pc = .ok (.lshr, 1)) (h : xWp l g md mc ms (pc + 1) L (.long (x >>> (y.toInt64 &&& 63)) :: st) cs M Q) : xWp l g md mc ms pc L (.int y :: .long x :: st) cs M Q := xWp.lift (fun _ _ _ _ _ _ _ _ _ _ _ _ _ _ _ hx hb _ k => lv_lshr hx hb d rfl k) h
theorem xr_i2l {x : Int32} (d : decode md.2.1 pc = .ok (.i2l, 1)) (h : xWp l g md mc ms (pc + 1) L (.long x.toInt64 :: st) cs M Q) : xWp l g md mc ms pc L (.int x :: st) cs M Q := xWp.lift (fun _ _ _ _ _ _ _ _ _ _ _ _ _ _ _ hx hb _ k => lv_i2l hx hb d rfl k) h
theorem xr_l2i {x : Int64} (d : decode md.2.1 pc = .ok (.l2i, 1)) (h : xWp l g md mc ms (pc + 1) L (.int x.toInt32 :: st) cs M Q) : xWp l g md mc ms pc L (.long x :: st) cs M Q := xWp.lift (fun _ _ _ _ _ _ _ _ _ _ _ _ _ _ _ hx hb _ k => lv_l2i hx hb d rfl k) h
theorem xr_i2b {x : Int32} (d : decode md.2.1 pc = .ok (.i2b, 1)) (h : xWp l g md mc ms (pc + 1) L (.int x.toInt8.toInt32 :: st) cs M Q) : xWp l g md mc ms pc L (.int x :: st) cs M Q := xWp.lift (fun _ _ _ _ _ _ _ _ _ _ _ _ _ _ _ hx hb _ k => lv_i2b hx hb d rfl k) h
theorem xr_dup {v : Value} (d : decode md.2.1 pc = .ok (.dup, 1)) (hv : v.category = 1) (h : xWp l g md mc ms (pc + 1) L (v :: v :: st) cs M Q) : xWp l g md mc ms pc L (v :: st) cs M Q := xWp.lift (fun _ _ _ _ _ _ _ _ _ _ _ _ _ _ _ hx hb _ k => lv_dup hx hb d hv k) h
theorem xr_pop {v : Value} (d : decode md.2.1 pc = .ok (.pop, 1)) (hv : v.category = 1) (h : xWp l g md mc ms (pc + 1) L st cs M Q) : xWp l g md mc ms pc L (v :: st) cs M Q := xWp.lift (fun _ _ _ _ _ _ _ _ _ _ _ _ _ _ _ hx hb _ k => lv_pop hx hb d hv k) h
theorem xr_dup_x1 {v u : Value} (d : decode md.2.1 pc = .ok (.dup_x1, 1)) (hv : v.category = 1) (hu : u.category = 1) (h : xWp l g md mc ms (pc + 1) L (v :: u :: v :: st) cs M Q) : xWp l g md mc ms pc L (v :: u :: st) cs M Q := xWp.lift (fun _ _ _ _ _ _ _ _ _ _ _ _ _ _ _ hx hb _ k => lv_dup_x1 hx hb d hv hu k) h
theorem xr_dup2 {v u : Value} (d : decode md.2.1 pc = .ok (.dup2, 1)) (hv : v.category = 1) (hu : u.category = 1) (h : xWp l g md mc ms (pc + 1) L (v :: u :: v :: u :: st) cs M Q) : xWp l g md mc ms pc L (v :: u :: st) cs M Q := xWp.lift (fun _ _ _ _ _ _ _ _ _ _ _ _ _ _ _ hx hb _ k => lv_dup2_11 hx hb d hv hu k) h
theorem xr_goto {off : Int} (tgt : Nat) (d : decode md.2.1 pc = .ok (.goto off, 3)) (ht : (pc : Int) + off = (tgt : Int)) (h : xWp l g md mc ms tgt L st cs M Q) : xWp l g md mc ms pc L st cs M Q := xWp.lift (fun _ _ _ _ _ _ _ _ _ _ _ _ _ _ _ hx hb _ k => lv_goto hx hb d ht k) h
theorem xr_if_eq {x : Int32} {off : Int} (tgt : Nat) (d : decode md.2.1 pc = .ok (.ifCond .eq off, 3)) (ht : (pc : Int) + off = (tgt : Int)) (h1 : x = 0 → xWp l g md mc ms tgt L st cs M Q) (h2 : ¬ x = 0 → xWp l g md mc ms (pc + 3) L st cs M Q) : xWp l g md mc ms pc L (.int x :: st) cs M Q := xWp.lift2 (fun _ _ _ _ _ _ _ _ _ _ _ _ _ _ _ hx hb k1 k2 => lv_if_eq hx hb d ht k1 k2) h1 h2
theorem xr_icmp_eq {x y : Int32} {off : Int} (tgt : Nat) (d : decode md.2.1 pc = .ok (.if_icmp .eq off, 3)) (ht : (pc : Int) + off = (tgt : Int)) (h1 : x = y → xWp l g md mc ms tgt L st cs M Q) (h2 : ¬ x = y → xWp l g md mc ms (pc + 3) L st cs M Q) : xWp l g md mc ms pc L (.int y :: .int x :: st) cs M Q := xWp.lift2 (fun _ _ _ _ _ _ _ _ _ _ _ _ _ _ _ hx hb k1 k2 => lv_icmp_eq hx hb d ht k1 k2) h1 h2
theorem xr_if_ne {x : Int32} {off : Int} (tgt : Nat) (d : decode md.2.1 pc = .ok (.ifCond .ne off, 3)) (ht : (pc : Int) + off = (tgt : Int)) (h1 : ¬ x = 0 → xWp l g md mc ms tgt L st cs M Q) (h2 : x = 0 → xWp l g md mc ms (pc + 3) L st cs M Q) : xWp l g md mc ms pc L (.int x :: st) cs M Q := xWp.lift2 (C := ¬ x = 0) (fun _ _ _ _ _ _ _ _ _ _ _ _ _ _ _ hx hb k1 k2 => lv_if_ne hx hb d ht k1 (fun h => k2 (fun q => q h))) h1 (fun h => h2 (Classical.not_not.mp h))
theorem xr_icmp_ne {x y : Int32} {off : Int} (tgt : Nat) (d : decode md.2.1 pc = .ok (.if_icmp .ne off, 3)) (ht : (pc : Int) + off = (tgt : Int)) (h1 : ¬ x = y → xWp l g md mc ms tgt L st cs M Q) (h2 : x = y → xWp l g md mc ms (pc + 3) L st cs M Q) : xWp l g md mc ms pc L (.int y :: .int x :: st) cs M Q := xWp.lift2 (C := ¬ x = y) (fun _ _ _ _ _ _ _ _ _ _ _ _ _ _ _ hx hb k1 k2 => lv_icmp_ne hx hb d ht k1 (fun h => k2 (fun q => q h))) h1 (fun h => h2 (Classical.not_not.mp h))
theorem xr_if_lt {x : Int32} {off : Int} (tgt : Nat) (d : decode md.2.1 pc = .ok (.ifCond .lt off, 3)) (ht : (pc : Int) + off = (tgt : Int)) (h1 : x < 0 → xWp l g md mc ms tgt L st cs M Q) (h2 : ¬ x < 0 → xWp l g md mc ms (pc + 3) L st cs M Q) : xWp l g md mc ms pc L (.int x :: st) cs M Q := xWp.lift2 (fun _ _ _ _ _ _ _ _ _ _ _ _ _ _ _ hx hb k1 k2 => lv_if_lt hx hb d ht k1 k2) h1 h2
theorem xr_icmp_lt {x y : Int32} {off : Int} (tgt : Nat) (d : decode md.2.1 pc = .ok (.if_icmp .lt off, 3)) (ht : (pc : Int) + off = (tgt : Int)) (h1 : x < y → xWp l g md mc ms tgt L st cs M Q) (h2 : ¬ x < y → xWp l g md mc ms (pc + 3) L st cs M Q) : xWp l g md mc ms pc L (.int y :: .int x :: st) cs M Q := xWp.lift2 (fun _ _ _ _ _ _ _ _ _ _ _ _ _ _ _ hx hb k1 k2 => lv_icmp_lt hx hb d ht k1 k2) h1 h2
theorem xr_if_ge {x : Int32} {off : Int} (tgt : Nat) (d : decode md.2.1 pc = .ok (.ifCond .ge off, 3)) (ht : (pc : Int) + off = (tgt : Int)) (h1 : 0 ≤ x → xWp l g md mc ms tgt L st cs M Q) (h2 : ¬ 0 ≤ x → xWp l g md mc ms (pc + 3) L st cs M Q) : xWp l g md mc ms pc L (.int x :: st) cs M Q := xWp.lift2 (fun _ _ _ _ _ _ _ _ _ _ _ _ _ _ _ hx hb k1 k2 => lv_if_ge hx hb d ht k1 k2) h1 h2
theorem xr_icmp_ge {x y : Int32} {off : Int} (tgt : Nat) (d : decode md.2.1 pc = .ok (.if_icmp .ge off, 3)) (ht : (pc : Int) + off = (tgt : Int)) (h1 : y ≤ x → xWp l g md mc ms tgt L st cs M Q) (h2 : ¬ y ≤ x → xWp l g md mc ms (pc + 3) L st cs M Q) : xWp l g md mc ms pc L (.int y :: .int x :: st) cs M Q := xWp.lift2 (fun _ _ _ _ _ _ _ _ _ _ _ _ _ _ _ hx hb k1 k2 => lv_icmp_ge hx hb d ht k1 k2) h1 h2
theorem xr_if_gt {x : Int32} {off : Int} (tgt : Nat) (d : decode md.2.1 pc = .ok (.ifCond .gt off, 3)) (ht : (pc : Int) + off = (tgt : Int)) (h1 : 0 < x → xWp l g md mc ms tgt L st cs M Q) (h2 : ¬ 0 < x → xWp l g md mc ms (pc + 3) L st cs M Q) : xWp l g md mc ms pc L (.int x :: st) cs M Q := xWp.lift2 (fun _ _ _ _ _ _ _ _ _ _ _ _ _ _ _ hx hb k1 k2 => lv_if_gt hx hb d ht k1 k2) h1 h2
theorem xr_icmp_gt {x y : Int32} {off : Int} (tgt : Nat) (d : decode md.2.1 pc = .ok (.if_icmp .gt off, 3)) (ht : (pc : Int) + off = (tgt : Int)) (h1 : y < x → xWp l g md mc ms tgt L st cs M Q) (h2 : ¬ y < x → xWp l g md mc ms (pc + 3) L st cs M Q) : xWp l g md mc ms pc L (.int y :: .int x :: st) cs M Q := xWp.lift2 (fun _ _ _ _ _ _ _ _ _ _ _ _ _ _ _ hx hb k1 k2 => lv_icmp_gt hx hb d ht k1 k2) h1 h2
theorem xr_if_le {x : Int32} {off : Int} (tgt : Nat) (d : decode md.2.1 pc = .ok (.ifCond .le off, 3)) (ht : (pc : Int) + off = (tgt : Int)) (h1 : x ≤ 0 → xWp l g md mc ms tgt L st cs M Q) (h2 : ¬ x ≤ 0 → xWp l g md mc ms (pc + 3) L st cs M Q) : xWp l g md mc ms pc L (.int x :: st) cs M Q := xWp.lift2 (fun _ _ _ _ _ _ _ _ _ _ _ _ _ _ _ hx hb k1 k2 => lv_if_le hx hb d ht k1 k2) h1 h2
theorem xr_icmp_le {x y : Int32} {off : Int} (tgt : Nat) (d : decode md.2.1 pc = .ok (.if_icmp .le off, 3)) (ht : (pc : Int) + off = (tgt : Int)) (h1 : x ≤ y → xWp l g md mc ms tgt L st cs M Q) (h2 : ¬ x ≤ y → xWp l g md mc ms (pc + 3) L st cs M Q) : xWp l g md mc ms pc L (.int y :: .int x :: st) cs M Q := xWp.lift2 (fun _ _ _ _ _ _ _ _ _ _ _ _ _ _ _ hx hb k1 k2 => lv_icmp_le hx hb d ht k1 k2) h1 h2
theorem xr_acmp_eq {rx ry : Option Nat} {off : Int} (tgt : Nat) (d : decode md.2.1 pc = .ok (.if_acmp .eq off, 3)) (ht : (pc : Int) + off = (tgt : Int)) (h1 : rx = ry → xWp l g md mc ms tgt L st cs M Q) (h2 : ¬ rx = ry → xWp l g md mc ms (pc + 3) L st cs M Q) : xWp l g md mc ms pc L (va_rf ry :: va_rf rx :: st) cs M Q := xWp.lift2 (fun _ _ _ _ _ _ _ _ _ _ _ _ _ _ _ hx hb k1 k2 => lv_acmp_eq hx hb d ht k1 k2) h1 h2
theorem xr_acmp_ne {rx ry : Option Nat} {off : Int} (tgt : Nat) (d : decode md.2.1 pc = .ok (.if_acmp .ne off, 3)) (ht : (pc : Int) + off = (tgt : Int)) (h1 : ¬ rx = ry → xWp l g md mc ms tgt L st cs M Q) (h2 : rx = ry → xWp l g md mc ms (pc + 3) L st cs M Q) : xWp l g md mc ms pc L (va_rf ry :: va_rf rx :: st) cs M Q := xWp.lift2 (C := ¬ rx = ry) (fun _ _ _ _ _ _ _ _ _ _ _ _ _ _ _ hx hb k1 k2 => lv_acmp_ne hx hb d ht k1 (fun h => k2 (fun q => q h))) h1 (fun h => h2 (Classical.not_not.mp h))
theorem xr_ifnull {r : Option Nat} {off : Int} (tgt : Nat) (d : decode md.2.1 pc = .ok (.ifnull off, 3)) (ht : (pc : Int) + off = (tgt : Int)) (h1 : r = none → xWp l g md mc ms tgt L st cs M Q) (h2 : ¬ r = none → xWp l g md mc ms (pc + 3) L st cs M Q) : xWp l g md mc ms pc L (va_rf r :: st) cs M Q := xWp.lift2 (fun _ _ _ _ _ _ _ _ _ _ _ _ _ _ _ hx hb k1 k2 => by
  cases r with
  | none => exact lv_ifnullN hx hb d ht (k1 rfl)
  | some a => exact lv_ifnull hx hb d (k2 (fun h => by cases h))) h1 h2
theorem xr_ifnonnull {r : Option Nat} {off : Int} (tgt : Nat) (d : decode md.2.1 pc = .ok (.ifnonnull off, 3)) (ht : (pc : Int) + off = (tgt : Int)) (h1 : ¬ r = none → xWp l g md mc ms tgt L st cs M Q) (h2 : r = none → xWp l g md mc ms (pc + 3) L st cs M Q) : xWp l g md mc ms pc L (va_rf r :: st) cs M Q := xWp.lift2 (C := ¬ r = none) (fun _ _ _ _ _ _ _ _ _ _ _ _ _ _ _ hx hb k1 k2 => by
  cases r with
  | none => exact lv_ifnonnullN hx hb d (k2 (fun h => h rfl))
  | some a => exact lv_ifnonnull hx hb d ht (k1 (fun h => by cases h))) h1 (fun h => h2 (Classical.not_not.mp h))
theorem xr_tableOut {dflt lo hi : Int} {offs : Array Int} {len : Nat} {x : Int32} (tgt : Nat) (d : decode md.2.1 pc = .ok (.tableswitch dflt lo hi offs, len)) (hc : x.toInt < lo ∨ hi < x.toInt) (ht : (pc : Int) + dflt = (tgt : Int)) (h : xWp l g md mc ms tgt L st cs M Q) : xWp l g md mc ms pc L (.int x :: st) cs M Q := xWp.lift (fun _ _ _ _ _ _ _ _ _ _ _ _ _ _ _ hx hb _ k => lv_tableOut hx hb d hc ht k) h
theorem xr_tableIn {dflt lo hi : Int} {offs : Array Int} {len : Nat} {x : Int32} {off : Int} (tgt : Nat) (d : decode md.2.1 pc = .ok (.tableswitch dflt lo hi offs, len)) (h1 : ¬ x.toInt < lo) (h2 : ¬ hi < x.toInt) (ho : offs[(x.toInt - lo).toNat]? = some off) (ht : (pc : Int) + off = (tgt : Int)) (h : xWp l g md mc ms tgt L st cs M Q) : xWp l g md mc ms pc L (.int x :: st) cs M Q := xWp.lift (fun _ _ _ _ _ _ _ _ _ _ _ _ _ _ _ hx hb _ k => lv_tableIn hx hb d h1 h2 ho ht k) h
theorem xr_ret (hm : cs.1 ≤ mc ∧ cs.2 ≤ ms) (hr : xRet md pc none) (h : Q none M) : xWp l g md mc ms pc L [] cs M Q := fun p e R s m args below meth c A H locs Z ls hF hE hP hS hl => W.widen hm.1 hm.2 (hE none M H locs pc ls h hP hS hr)
theorem xr_retv {v : Value} (hm : cs.1 ≤ mc ∧ cs.2 ≤ ms) (hr : xRet md pc (some v)) (h : Q (some v) M) : xWp l g md mc ms pc L [v] cs M Q := fun p e R s m args below meth c A H locs Z ls hF hE hP hS hl => W.widen hm.1 hm.2 (hE (some v) M H locs pc ls h hP hS hr)
theorem xRi {ty : FieldType} {v : Int32} (h1 : md.2.2.2.1 = some ty) (h2 : narrow ty (.int v) = .int v) (d : decode md.2.1 pc = .ok (.ireturn, 1)) : xRet md pc (some (.int v)) := Or.inr (Or.inl ⟨ty, v, h1, rfl, h2, d⟩)
theorem xRl {v : Int64} (h1 : md.2.2.2.1 = some .long) (d : decode md.2.1 pc = .ok (.lreturn, 1)) : xRet md pc (some (.long v)) := Or.inr (Or.inr (Or.inl ⟨v, h1, rfl, d⟩))
theorem xRa {n : String} {o : Option Nat} (h1 : md.2.2.2.1 = some (.object n)) (d : decode md.2.1 pc = .ok (.areturn, 1)) : xRet md pc (some (va_rf o)) := Or.inr (Or.inr (Or.inr ⟨n, o, h1, rfl, d⟩))
theorem xRv (h1 : md.2.2.2.1 = none) (d : decode md.2.1 pc = .ok (.return_, 1)) : xRet md pc none := Or.inl ⟨h1, rfl, d⟩
end XR
end
section
/-! THE ROWS of the judgement that read and write the world, make cells, and call. -/
section XMR
variable {l : Launch} {g : xG} {md : xMd} {mc ms pc : Nat} {L : List (Nat × Value)} {st : List Value} {cs : Nat × Nat} {M : xM} {Q : Option Value → xM → Prop}
/-- a field by its link -/
def xFl (own : String) (i ci k t : Nat) : Prop := ∃ (C : String) (T : u_T) (N : Nat), vwCl[ci]? = some (C, T, N) ∧ ci < 8 ∧ k < N ∧ (∀ w ∈ u_ws C T N, w ∈ gl) ∧ Cond.fieldLink own i (T k).1 (T k).2.1 (T k).2.2.1 ∈ gl ∧ (xF ci)[k]? = some t
/-- a field that is written -/
def xFp (fin : Bool) (own : String) (i ci k t : Nat) (ty : FieldType) : Prop := ∃ (C : String) (T : u_T) (N : Nat) (ty0 : Nat → FieldType), vwCl[ci]? = some (C, T, N) ∧ ci < 8 ∧ k < N ∧ (∀ w ∈ u_ws C T N, w ∈ gl) ∧ Cond.fieldLink own i (T k).1 (T k).2.1 (T k).2.2.1 ∈ gl ∧ (xF ci)[k]? = some t ∧ (∀ j, j < N → parseFieldDescriptor (T j).2.2.1 = some (ty0 j)) ∧ (∀ a, a < N → ∀ b, b < N → a ≠ b → (T a).2.1 ≠ (T b).2.1) ∧ (T k).2.2.2 = fin ∧ parseFieldDescriptor (T k).2.2.1 = some ty ∧ (fin = true → (T k).1 = own)
theorem xr_get {a i ci k : Nat} (t : Nat) (d : decode md.2.1 pc = .ok (.getfield i, 3)) (hf : xFl md.1.cls i ci k t) (ha : a ∈ xL M) (hk : xK M a = ci) (h : xWp l g md mc ms (pc + 3) L (xV M a k t :: st) cs M Q) : xWp l g md mc ms pc L (va_rf (some a) :: st) cs M Q := fun p e R s m args below meth c A H locs Z ls hF hE hP hS hl => by
  obtain ⟨C, T, N, h1, h2, h3, h4, h5, h6⟩ := hf
  obtain ⟨q, hq⟩ := xW_get g ha
  rw [xE_obj g hk h2] at hq
  exact va_get (D := g.1) (ci := ci) (C := C) (T := T) (N := N) hF.1 hF.2.1 hF.2.2.2.2.1 h4 hF.2.2.2.1 hF.2.2.2.2.2.1 hP.1 q hq h1 k h3 (hF.2.2.2.2.1 _ h5) (fun _ h9 => h9) (xFs_get M a _ k t h6) d (h p e R s m args below meth c A H locs Z ls hF hE hP hS hl)
theorem xr_getN {a : Nat} (d : decode md.2.1 pc = .ok (.getfield 27, 3)) (ho : md.1.cls = "RadixPages$Disk") (hin : ∀ w ∈ u_ws RX5 TX5 1, w ∈ gl) (ha : a ∈ xL M) (hk : xK M a = 2) (h : xWp l g md mc ms (pc + 3) L (va_rf (xR M a 0) :: st) cs M Q) : xWp l g md mc ms pc L (va_rf (some a) :: st) cs M Q := fun p e R s m args below meth c A H locs Z ls hF hE hP hS hl => by
  obtain ⟨q, hq⟩ := xW_get g ha
  rw [xE_obj g hk (by decide)] at hq
  exact va_getN (D := g.1) (ci := 2) (C := RX5) (T := TX5) (N := 1) hF.1 hF.2.1 hF.2.2.2.2.1 hin hF.2.2.2.1 hF.2.2.2.2.2.1 hP.1 q hq rfl 0 (by decide) (ref := "RadixPages$Row") (host := "RadixPages") (by rw [ho]; exact va_Nw.use rfl hF.2.2.2.2.2.2.2.2.2.2.2.2.2.2.2.2.1) (fun _ h9 => h9) (xFs_get M a _ 0 2 rfl) d (h p e R s m args below meth c A H locs Z ls hF hE hP hS hl)
theorem xr_putG {a i ci k t : Nat} {ty : FieldType} {v : Value} (M1 : xM) (d : decode md.2.1 pc = .ok (.putfield i, 3)) (hf : xFp false md.1.cls i ci k t ty) (ha : a ∈ xL M) (hk : xK M a = ci) (hn : narrow ty v = v) (hfit : fits ty v = true) (hL : xL M1 = xL M) (hK1 : xK M1 = xK M) (hv : xV M1 a k t = v) (ho : ∀ j u, j ≠ k → xV M1 a j u = xV M a j u) (hO : ∀ b, b ≠ a → xE g M1 b = xE g M b) (h : xWp l g md mc ms (pc + 3) L st cs M1 Q) : xWp l g md mc ms pc L (v :: va_rf (some a) :: st) cs M Q := fun p e R s m args below meth c A H locs Z ls hF hE hP hS hl => by
  obtain ⟨C, T, N, ty0, h1, h2, h3, h4, h5, h6, h7, h8, h9, h10, -⟩ := hf
  obtain ⟨q, hq⟩ := xW_get g ha
  have hq' := hq
  rw [xE_obj g hk h2] at hq'
  have hset : (xW g M).set q (a, .inr (ci, (xFs M a (xF ci)).set k v)) = xW g M1 := xW_set g hP.2 ha hq hL (by rw [xE_obj g (by rw [hK1]; exact hk) h2, xFs_set M M1 a (xF ci) k t v h6 hv (fun j u hj _ => ho j u hj)]) hO
  refine va_put (D := g.1) (ci := ci) (C := C) (T := T) (N := N) hF.1 hF.2.1 hF.2.2.2.2.1 h4 ty0 h7 h8 hF.2.2.2.1 hF.2.2.2.2.2.1 hP.1 hP.2 hS q hq' h1 k h3 (hF.2.2.2.2.1 _ h5) (fun _ z => z) h9 h10 hn hfit (by rw [xFs_len]; exact (List.getElem?_eq_some_iff.mp h6).1) d (fun H1 locs1 hP1 hD1 hS1 => ?_)
  rw [hset] at hP1 hD1
  exact h p e R s m args below meth c A H1 locs1 Z ls hF hE ⟨hP1, hD1⟩ hS1 hl
theorem xr_putGF {a i ci k t : Nat} {ty : FieldType} {v : Value} (M1 : xM) (d : decode md.2.1 pc = .ok (.putfield i, 3)) (hi : md.1.name = "<init>") (hf : xFp true md.1.cls i ci k t ty) (ha : a ∈ xL M) (hk : xK M a = ci) (hn : narrow ty v = v) (hfit : fits ty v = true) (hL : xL M1 = xL M) (hK1 : xK M1 = xK M) (hv : xV M1 a k t = v) (ho : ∀ j u, j ≠ k → xV M1 a j u = xV M a j u) (hO : ∀ b, b ≠ a → xE g M1 b = xE g M b) (h : xWp l g md mc ms (pc + 3) L st cs M1 Q) : xWp l g md mc ms pc L (v :: va_rf (some a) :: st) cs M Q := fun p e R s m args below meth c A H locs Z ls hF hE hP hS hl => by
  obtain ⟨C, T, N, ty0, h1, h2, h3, h4, h5, h6, h7, h8, h9, h10, h11⟩ := hf
  obtain ⟨q, hq⟩ := xW_get g ha
  have hq' := hq
  rw [xE_obj g hk h2] at hq'
  have hset : (xW g M).set q (a, .inr (ci, (xFs M a (xF ci)).set k v)) = xW g M1 := xW_set g hP.2 ha hq hL (by rw [xE_obj g (by rw [hK1]; exact hk) h2, xFs_set M M1 a (xF ci) k t v h6 hv (fun j u hj _ => ho j u hj)]) hO
  refine va_putF (D := g.1) (ci := ci) (C := C) (T := T) (N := N) hF.1 hF.2.1 hF.2.2.2.2.1 h4 ty0 h7 h8 hF.2.2.2.1 hF.2.2.2.2.2.1 hP.1 hP.2 hS q hq' h1 k h3 (hF.2.2.2.2.1 _ h5) (fun _ z => z) h9 (hF.2.2.2.2.2.2.2.2.1.trans hi) (h11 rfl) h10 hn hfit (by rw [xFs_len]; exact (List.getElem?_eq_some_iff.mp h6).1) d (fun H1 locs1 hP1 hD1 hS1 => ?_)
  rw [hset] at hP1 hD1
  exact h p e R s m args below meth c A H1 locs1 Z ls hF hE ⟨hP1, hD1⟩ hS1 hl
theorem xr_putI {a i ci k : Nat} {x : Int32} (d : decode md.2.1 pc = .ok (.putfield i, 3)) (hf : xFp false md.1.cls i ci k 0 .int) (ha : a ∈ xL M) (hk : xK M a = ci) (h : xWp l g md mc ms (pc + 3) L st cs (xsI M a k x) Q) : xWp l g md mc ms pc L (.int x :: va_rf (some a) :: st) cs M Q :=
  xr_putG (xsI M a k x) d hf ha hk rfl rfl rfl rfl (by simp [xV, xI_sI]) (fun j u hj => xV_sI M a k x a j u (Or.inr hj)) (fun b hb => xE_sI_ne g M a k x b hb) h
theorem xr_putZ {a i ci k : Nat} {x : Int32} (d : decode md.2.1 pc = .ok (.putfield i, 3)) (hf : xFp false md.1.cls i ci k 3 .boolean) (ha : a ∈ xL M) (hk : xK M a = ci) (hx : x = 0 ∨ x = 1) (h : xWp l g md mc ms (pc + 3) L st cs (xsI M a k x) Q) : xWp l g md mc ms pc L (.int x :: va_rf (some a) :: st) cs M Q :=
  xr_putG (xsI M a k x) d hf ha hk (by rcases hx with rfl | rfl <;> rfl) (by rcases hx with rfl | rfl <;> rfl) rfl rfl (by simp [xV, xI_sI]) (fun j u hj => xV_sI M a k x a j u (Or.inr hj)) (fun b hb => xE_sI_ne g M a k x b hb) h
theorem xr_putJ {a i ci k : Nat} {x : Int64} (d : decode md.2.1 pc = .ok (.putfield i, 3)) (hf : xFp false md.1.cls i ci k 1 .long) (ha : a ∈ xL M) (hk : xK M a = ci) (h : xWp l g md mc ms (pc + 3) L st cs (xsJ M a k x) Q) : xWp l g md mc ms pc L (.long x :: va_rf (some a) :: st) cs M Q :=
  xr_putG (xsJ M a k x) d hf ha hk rfl rfl rfl rfl (by simp [xV, xJ_sJ]) (fun j u hj => xV_sJ M a k x a j u (Or.inr hj)) (fun b hb => xE_sJ_ne g M a k x b hb) h
theorem xr_putR {a i ci k : Nat} {n : String} {x : Option Nat} (d : decode md.2.1 pc = .ok (.putfield i, 3)) (hf : xFp false md.1.cls i ci k 2 (.object n)) (ha : a ∈ xL M) (hk : xK M a = ci) (h : xWp l g md mc ms (pc + 3) L st cs (xsR M a k x) Q) : xWp l g md mc ms pc L (va_rf x :: va_rf (some a) :: st) cs M Q :=
  xr_putG (xsR M a k x) d hf ha hk (by cases x <;> rfl) (by cases x <;> rfl) rfl rfl (by simp [xV, xR_sR]) (fun j u hj => xV_sR M a k x a j u (Or.inr hj)) (fun b hb => xE_sR_ne g M a k x b hb) h
theorem xr_putRF {a i ci k : Nat} {ty : FieldType} {x : Option Nat} (d : decode md.2.1 pc = .ok (.putfield i, 3)) (hi : md.1.name = "<init>") (hf : xFp true md.1.cls i ci k 2 ty) (ht : (∃ n, ty = .object n) ∨ ∃ n, ty = .array n) (ha : a ∈ xL M) (hk : xK M a = ci) (h : xWp l g md mc ms (pc + 3) L st cs (xsR M a k x) Q) : xWp l g md mc ms pc L (va_rf x :: va_rf (some a) :: st) cs M Q :=
  xr_putGF (xsR M a k x) d hi hf ha hk (by rcases ht with ⟨n, rfl⟩ | ⟨n, rfl⟩ <;> cases x <;> rfl) (by rcases ht with ⟨n, rfl⟩ | ⟨n, rfl⟩ <;> cases x <;> rfl) rfl rfl (by simp [xV, xR_sR]) (fun j u hj => xV_sR M a k x a j u (Or.inr hj)) (fun b hb => xE_sR_ne g M a k x b hb) h
/-! arrays -/
theorem xArI {a kd : Nat} (hk : xK M a = kd) (h1 : kd ≠ 10) (h2 : kd ≠ 12) : xAr M a = (xN M a, .inl (xI M a)) := by
  unfold xAr; rw [hk, if_neg h1, if_neg h2]
theorem xArJ {a : Nat} (hk : xK M a = 10) : xAr M a = (xN M a, .inr (.inl (xJ M a))) := by
  unfold xAr; rw [hk, if_pos rfl]
theorem xArR {a : Nat} (hk : xK M a = 12) : xAr M a = (xN M a, .inr (.inr (.inr (.inr (xR M a))))) := by
  unfold xAr; rw [hk, if_neg (by decide), if_pos rfl]
theorem xr_iald {a : Nat} {i : Int32} (j : Nat) (d : decode md.2.1 pc = .ok (.iaload, 1)) (ha : a ∈ xL M) (hk : xK M a = 9) (hi : i = nI j) (hj : j < xN M a) (hn : xN M a < 2 ^ 31) (h : xWp l g md mc ms (pc + 1) L (.int (xI M a j) :: st) cs M Q) : xWp l g md mc ms pc L (.int i :: va_rf (some a) :: st) cs M Q := fun p e R s m args below meth c A H locs Z ls hF hE hP hS hl => by
  obtain ⟨q, hq⟩ := xW_get g ha
  rw [xE_arr g hk (by decide), xArI hk (by decide) (by decide)] at hq
  subst hi
  refine va_iald (D := g.1) hF.1 hF.2.1 hF.2.2.2.2.2.1 hP.1 q 1 hq rfl (vp_in_nI hj hn) d ?_
  rw [nI_clamp (by omega)]
  exact h p e R s m args below meth c A H locs Z ls hF hE hP hS hl
theorem xr_bald {a : Nat} {i : Int32} (j : Nat) (d : decode md.2.1 pc = .ok (.baload, 1)) (ha : a ∈ xL M) (hk : xK M a = 8) (hi : i = nI j) (hj : j < xN M a) (hn : xN M a < 2 ^ 31) (h : xWp l g md mc ms (pc + 1) L (.int (xI M a j) :: st) cs M Q) : xWp l g md mc ms pc L (.int i :: va_rf (some a) :: st) cs M Q := fun p e R s m args below meth c A H locs Z ls hF hE hP hS hl => by
  obtain ⟨q, hq⟩ := xW_get g ha
  rw [xE_arr g hk (by decide), xArI hk (by decide) (by decide)] at hq
  subst hi
  refine va_bald (D := g.1) hF.1 hF.2.1 hF.2.2.2.2.2.1 hP.1 q 0 hq rfl (vp_in_nI hj hn) d ?_
  rw [nI_clamp (by omega)]
  exact h p e R s m args below meth c A H locs Z ls hF hE hP hS hl
theorem xr_zald {a : Nat} {i : Int32} (j : Nat) (d : decode md.2.1 pc = .ok (.baload, 1)) (ha : a ∈ xL M) (hk : xK M a = 11) (hi : i = nI j) (hj : j < xN M a) (hn : xN M a < 2 ^ 31) (h : xWp l g md mc ms (pc + 1) L (.int (xI M a j) :: st) cs M Q) : xWp l g md mc ms pc L (.int i :: va_rf (some a) :: st) cs M Q := fun p e R s m args below meth c A H locs Z ls hF hE hP hS hl => by
  obtain ⟨q, hq⟩ := xW_get g ha
  rw [xE_arr g hk (by decide), xArI hk (by decide) (by decide)] at hq
  subst hi
  refine va_zald (D := g.1) hF.1 hF.2.1 hF.2.2.2.2.2.1 hP.1 q 3 hq rfl (vp_in_nI hj hn) d ?_
  rw [nI_clamp (by omega)]
  exact h p e R s m args below meth c A H locs Z ls hF hE hP hS hl
theorem xr_lald {a : Nat} {i : Int32} (j : Nat) (d : decode md.2.1 pc = .ok (.laload, 1)) (ha : a ∈ xL M) (hk : xK M a = 10) (hi : i = nI j) (hj : j < xN M a) (hn : xN M a < 2 ^ 31) (h : xWp l g md mc ms (pc + 1) L (.long (xJ M a j) :: st) cs M Q) : xWp l g md mc ms pc L (.int i :: va_rf (some a) :: st) cs M Q := fun p e R s m args below meth c A H locs Z ls hF hE hP hS hl => by
  obtain ⟨q, hq⟩ := xW_get g ha
  rw [xE_arr g hk (by decide), xArJ hk] at hq
  subst hi
  refine va_lald (D := g.1) hF.1 hF.2.1 hF.2.2.2.2.2.1 hP.1 q 2 hq rfl (vp_in_nI hj hn) d ?_
  rw [nI_clamp (by omega)]
  exact h p e R s m args below meth c A H locs Z ls hF hE hP hS hl
theorem xr_aald {a : Nat} {i : Int32} (j : Nat) (d : decode md.2.1 pc = .ok (.aaload, 1)) (ha : a ∈ xL M) (hk : xK M a = 12) (hi : i = nI j) (hj : j < xN M a) (hn : xN M a < 2 ^ 31) (h : xWp l g md mc ms (pc + 1) L (va_rf (xR M a j) :: st) cs M Q) : xWp l g md mc ms pc L (.int i :: va_rf (some a) :: st) cs M Q := fun p e R s m args below meth c A H locs Z ls hF hE hP hS hl => by
  obtain ⟨q, hq⟩ := xW_get g ha
  rw [xE_arr g hk (by decide), xArR hk] at hq
  subst hi
  refine va_aldq (D := g.1) hF.1 hF.2.1 hF.2.2.2.2.2.1 hP.1 q 4 hq rfl (vp_in_nI hj hn) d ?_
  rw [nI_clamp (by omega)]
  exact h p e R s m args below meth c A H locs Z ls hF hE hP hS hl
theorem xr_alen {a kd t : Nat} {ty : FieldType} (d : decode md.2.1 pc = .ok (.arraylength, 1)) (ha : a ∈ xL M) (hk : xK M a = kd) (h8 : ¬ kd < 8) (ht : ∀ g : xG, (xTy g)[t]? = some (g.2.1 kd, ty)) (h : xWp l g md mc ms (pc + 1) L (.int (nI (xN M a)) :: st) cs M Q) : xWp l g md mc ms pc L (va_rf (some a) :: st) cs M Q := fun p e R s m args below meth c A H locs Z ls hF hE hP hS hl => by
  obtain ⟨q, hq⟩ := xW_get g ha
  rw [xE_arr g hk h8] at hq
  exact va_alen (D := g.1) hF.1 hF.2.1 hF.2.2.2.2.2.1 hP.1 q t hq (ht g) rfl d (h p e R s m args below meth c A H locs Z ls hF hE hP hS hl)
theorem xupd_I (a j : Nat) (x : Int32) : xI (xsI M a j x) a = upd (xI M a) j x := by
  funext k
  simp only [xI_sI, upd]
  by_cases hk : k = j <;> simp [hk]
theorem xupd_J (a j : Nat) (x : Int64) : xJ (xsJ M a j x) a = vp_updL (xJ M a) j x := by
  funext k
  simp only [xJ_sJ, vp_updL]
  by_cases hk : k = j <;> simp [hk]
theorem xupd_R (a j : Nat) (x : Option Nat) : xR (xsR M a j x) a = va_up (xR M a) j x := by
  funext k
  simp only [xR_sR, va_up]
  by_cases hk : k = j <;> simp [hk]
theorem xr_iast {a : Nat} {i x : Int32} (j : Nat) (d : decode md.2.1 pc = .ok (.iastore, 1)) (ha : a ∈ xL M) (hk : xK M a = 9) (hi : i = nI j) (hj : j < xN M a) (hn : xN M a < 2 ^ 31) (h : xWp l g md mc ms (pc + 1) L st cs (xsI M a j x) Q) : xWp l g md mc ms pc L (.int x :: .int i :: va_rf (some a) :: st) cs M Q := fun p e R s m args below meth c A H locs Z ls hF hE hP hS hl => by
  obtain ⟨q, hq⟩ := xW_get g ha
  have hq' := hq
  rw [xE_arr g hk (by decide), xArI hk (by decide) (by decide)] at hq'
  subst hi
  have hset : (xW g M).set q (a, .inl (g.2.1 9, xN M a, .inl (upd (xI M a) j x))) = xW g (xsI M a j x) := xW_set g hP.2 ha hq rfl (by rw [xE_arr g (M := xsI M a j x) hk (by decide), xArI (M := xsI M a j x) hk (by decide) (by decide), xupd_I]; rfl) (fun b hb => xE_sI_ne g M a j x b hb)
  refine va_iast (D := g.1) hF.1 hF.2.1 hF.2.2.2.2.2.1 hP.1 hP.2 hS q 1 hq' rfl (vp_in_nI hj hn) d (fun H1 locs1 hP1 hD1 hS1 => ?_)
  rw [nI_clamp (by omega), hset] at hP1 hD1
  exact h p e R s m args below meth c A H1 locs1 Z ls hF hE ⟨hP1, hD1⟩ hS1 hl
theorem xr_bast {a : Nat} {i x : Int32} (j : Nat) (d : decode md.2.1 pc = .ok (.bastore, 1)) (ha : a ∈ xL M) (hk : xK M a = 8) (hi : i = nI j) (hj : j < xN M a) (hn : xN M a < 2 ^ 31) (h : xWp l g md mc ms (pc + 1) L st cs (xsI M a j x.toInt8.toInt32) Q) : xWp l g md mc ms pc L (.int x :: .int i :: va_rf (some a) :: st) cs M Q := fun p e R s m args below meth c A H locs Z ls hF hE hP hS hl => by
  obtain ⟨q, hq⟩ := xW_get g ha
  have hq' := hq
  rw [xE_arr g hk (by decide), xArI hk (by decide) (by decide)] at hq'
  subst hi
  have hset : (xW g M).set q (a, .inl (g.2.1 8, xN M a, .inl (upd (xI M a) j x.toInt8.toInt32))) = xW g (xsI M a j x.toInt8.toInt32) := xW_set g hP.2 ha hq rfl (by rw [xE_arr g (M := xsI M a j _) hk (by decide), xArI (M := xsI M a j _) hk (by decide) (by decide), xupd_I]; rfl) (fun b hb => xE_sI_ne g M a j _ b hb)
  refine va_bast (D := g.1) hF.1 hF.2.1 hF.2.2.2.2.2.1 hP.1 hP.2 hS q 0 hq' rfl (vp_in_nI hj hn) d (fun H1 locs1 hP1 hD1 hS1 => ?_)
  rw [vp_nar_byte, nI_clamp (by omega), hset] at hP1 hD1
  exact h p e R s m args below meth c A H1 locs1 Z ls hF hE ⟨hP1, hD1⟩ hS1 hl
theorem xr_zast {a : Nat} {i x : Int32} (j : Nat) (d : decode md.2.1 pc = .ok (.bastore, 1)) (ha : a ∈ xL M) (hk : xK M a = 11) (hi : i = nI j) (hj : j < xN M a) (hn : xN M a < 2 ^ 31) (h : xWp l g md mc ms (pc + 1) L st cs (xsI M a j (x &&& 1)) Q) : xWp l g md mc ms pc L (.int x :: .int i :: va_rf (some a) :: st) cs M Q := fun p e R s m args below meth c A H locs Z ls hF hE hP hS hl => by
  obtain ⟨q, hq⟩ := xW_get g ha
  have hq' := hq
  rw [xE_arr g hk (by decide), xArI hk (by decide) (by decide)] at hq'
  subst hi
  have hset : (xW g M).set q (a, .inl (g.2.1 11, xN M a, .inl (upd (xI M a) j (x &&& 1)))) = xW g (xsI M a j (x &&& 1)) := xW_set g hP.2 ha hq rfl (by rw [xE_arr g (M := xsI M a j _) hk (by decide), xArI (M := xsI M a j _) hk (by decide) (by decide), xupd_I]; rfl) (fun b hb => xE_sI_ne g M a j _ b hb)
  refine va_zast (D := g.1) hF.1 hF.2.1 hF.2.2.2.2.2.1 hP.1 hP.2 hS q 3 hq' rfl (vp_in_nI hj hn) d (fun H1 locs1 hP1 hD1 hS1 => ?_)
  have hb : vp_nar .boolean x = x &&& 1 := rfl
  rw [hb, nI_clamp (by omega), hset] at hP1 hD1
  exact h p e R s m args below meth c A H1 locs1 Z ls hF hE ⟨hP1, hD1⟩ hS1 hl
theorem xr_last {a : Nat} {i : Int32} {x : Int64} (j : Nat) (d : decode md.2.1 pc = .ok (.lastore, 1)) (ha : a ∈ xL M) (hk : xK M a = 10) (hi : i = nI j) (hj : j < xN M a) (hn : xN M a < 2 ^ 31) (h : xWp l g md mc ms (pc + 1) L st cs (xsJ M a j x) Q) : xWp l g md mc ms pc L (.long x :: .int i :: va_rf (some a) :: st) cs M Q := fun p e R s m args below meth c A H locs Z ls hF hE hP hS hl => by
  obtain ⟨q, hq⟩ := xW_get g ha
  have hq' := hq
  rw [xE_arr g hk (by decide), xArJ hk] at hq'
  subst hi
  have hset : (xW g M).set q (a, .inl (g.2.1 10, xN M a, .inr (.inl (vp_updL (xJ M a) j x)))) = xW g (xsJ M a j x) := xW_set g hP.2 ha hq rfl (by rw [xE_arr g (M := xsJ M a j x) hk (by decide), xArJ (M := xsJ M a j x) hk, xupd_J]; rfl) (fun b hb => xE_sJ_ne g M a j x b hb)
  refine va_last (D := g.1) hF.1 hF.2.1 hF.2.2.2.2.2.1 hP.1 hP.2 hS q 2 hq' rfl (vp_in_nI hj hn) d (fun H1 locs1 hP1 hD1 hS1 => ?_)
  rw [nI_clamp (by omega), hset] at hP1 hD1
  exact h p e R s m args below meth c A H1 locs1 Z ls hF hE ⟨hP1, hD1⟩ hS1 hl
theorem xr_aast {a b : Nat} {i : Int32} (j : Nat) (d : decode md.2.1 pc = .ok (.aastore, 1)) (ha : a ∈ xL M) (hk : xK M a = 12) (hb : b ∈ xL M) (hkb : xK M b = 1) (hi : i = nI j) (hj : j < xN M a) (hn : xN M a < 2 ^ 31) (h : xWp l g md mc ms (pc + 1) L st cs (xsR M a j (some b)) Q) : xWp l g md mc ms pc L (va_rf (some b) :: .int i :: va_rf (some a) :: st) cs M Q := fun p e R s m args below meth c A H locs Z ls hF hE hP hS hl => by
  obtain ⟨q, hq⟩ := xW_get g ha
  obtain ⟨q2, hq2⟩ := xW_get g hb
  rw [xE_obj g hkb (by decide)] at hq2
  have hq' := hq
  rw [xE_arr g hk (by decide), xArR hk] at hq'
  subst hi
  have hset : (xW g M).set q (a, .inl (g.2.1 12, xN M a, .inr (.inr (.inr (.inr (va_up (xR M a) j (some b))))))) = xW g (xsR M a j (some b)) := xW_set g hP.2 ha hq rfl (by rw [xE_arr g (M := xsR M a j _) hk (by decide), xArR (M := xsR M a j _) hk, xupd_R]; rfl) (fun b' hb' => xE_sR_ne g M a j _ b' hb')
  refine va_astq (D := g.1) hF.1 hF.2.1 hF.2.2.2.2.2.1 hP.1 hP.2 hS q 4 q2 1 (r := (RX3, TX3, 13)) hq' rfl hq2 rfl (vp_in_nI hj hn) d (fun H1 locs1 hP1 hD1 hS1 => ?_)
  rw [nI_clamp (by omega), hset] at hP1 hD1
  exact h p e R s m args below meth c A H1 locs1 Z ls hF hE ⟨hP1, hD1⟩ hS1 hl
end XMR
end
section
/-! NEW CELLS, STATICS, CALLS. -/
section XCR
variable {l : Launch} {g : xG} {md : xMd} {mc ms pc : Nat} {L : List (Nat × Value)} {st : List Value} {cs : Nat × Nat} {M : xM} {Q : Option Value → xM → Prop}
def xdf (t : Nat) : Value := if t = 1 then .long 0 else if t = 2 then .null else .int 0
theorem xK_new (M : xM) (q kd n b : Nat) : xK (xnew M q kd n) b = if b = q then kd else xK M b := rfl
theorem xN_new (M : xM) (q kd n b : Nat) : xN (xnew M q kd n) b = if b = q then n else xN M b := rfl
theorem xI_new (M : xM) (q kd n b j : Nat) : xI (xnew M q kd n) b j = if b = q then 0 else xI M b j := rfl
theorem xJ_new (M : xM) (q kd n b j : Nat) : xJ (xnew M q kd n) b j = if b = q then 0 else xJ M b j := rfl
theorem xR_new (M : xM) (q kd n b j : Nat) : xR (xnew M q kd n) b j = if b = q then none else xR M b j := rfl
theorem xL_new (M : xM) (q kd n : Nat) : xL (xnew M q kd n) = xL M ++ [q] := rfl
theorem xE_new_ne (g : xG) (M : xM) (q kd n b : Nat) (h : b ≠ q) : xE g (xnew M q kd n) b = xE g M b := by
  have h1 : xI (xnew M q kd n) b = xI M b := funext fun j => by rw [xI_new, if_neg h]
  have h2 : xJ (xnew M q kd n) b = xJ M b := funext fun j => by rw [xJ_new, if_neg h]
  have h3 : xR (xnew M q kd n) b = xR M b := funext fun j => by rw [xR_new, if_neg h]
  have h4 : xK (xnew M q kd n) b = xK M b := by rw [xK_new, if_neg h]
  have h5 : xN (xnew M q kd n) b = xN M b := by rw [xN_new, if_neg h]
  simp only [xE, xAr, xFs, xV, h1, h2, h3, h4, h5]
theorem xW_push (g : xG) (M : xM) (q kd n : Nat) (h : q ∉ xL M) {e : va_E} (he : xE g (xnew M q kd n) q = e) : xW g M ++ [(q, e)] = xW g (xnew M q kd n) := by
  unfold xW
  rw [va_pl_push h, xL_new]
  unfold va_pl
  apply List.map_congr_left
  intro b _
  by_cases hb : b = q
  · subst hb; rw [va_up_self, he]
  · rw [va_up_ne _ _ hb, xE_new_ne g M q kd n b hb]
theorem xFs_new (M : xM) (q kd n : Nat) (ts : List Nat) : xFs (xnew M q kd n) q ts = ts.map xdf := by
  apply List.ext_getElem?
  intro j
  simp only [xFs, List.getElem?_mapIdx, List.getElem?_map]
  cases ts[j]? with
  | none => rfl
  | some t =>
    simp only [Option.map_some, xV, xdf, xI_new, xJ_new, xR_new, if_true]
    rfl
/-- a class that is made -/
def xCn (own : String) (i ci N : Nat) : Prop := ∃ (C : String) (T : u_T) (ty : Nat → FieldType), vwCl[ci]? = some (C, T, N) ∧ ci < 8 ∧ (∀ w ∈ u_ws C T N, w ∈ gl) ∧ (∀ j, j < N → parseFieldDescriptor (T j).2.2.1 = some (ty j)) ∧ (∀ j, j < N → defaultValue (ty j) = vp_V ((xF ci).map xdf) j) ∧ Cond.classLink own i C ∈ gl ∧ Cond.instantiable C N ∈ gl ∧ Cond.initialized C ∈ gl
theorem xr_new {i ci N : Nat} (d : decode md.2.1 pc = .ok (.new i, 3)) (hc : xCn md.1.cls i ci N) (hm : cs.1 + 1 ≤ mc ∧ cs.2 + N ≤ ms) (h : ∀ q, q ∉ xL M → xWp l g md mc ms (pc + 3) L (va_rf (some q) :: st) (cs.1 + 1, cs.2 + N) (xnew M q ci 0) Q) : xWp l g md mc ms pc L st cs M Q := fun p e R s m args below meth c A H locs Z ls hF hE hP hS hl => by
  obtain ⟨C, T, ty, h1, h2, h3, h4, h5, h6, h7, h8⟩ := hc
  obtain ⟨r1, r2, r3, r4⟩ := hF.2.2.2.2.2.2.2.2.2.2.1
  refine va_new (D := g.1) (ci := ci) (C := C) (T := T) (N := N) hF.1 hF.2.1 hF.2.2.2.2.1 h3 ty h4 hF.2.2.2.1 (hF.2.2.2.2.1 _ h6) (hF.2.2.2.2.1 _ h7) (hF.2.2.2.2.1 _ h8) hF.2.2.2.2.2.1 hP.1 hP.2 hS hF.2.2.2.2.2.2.2.2.2.1 h1 h5 (Nat.le_trans hm.1 r3) (Nat.le_trans hm.2 r4) d (fun q H1 hP1 hD1 hS1 => ?_)
  have hq : q ∉ xL M := va_pl_fresh2 (X := []) (f := xE g M) hD1
  rw [xW_push g M q ci 0 hq (by rw [xE_obj g (M := xnew M q ci 0) (ci := ci) (by rw [xK_new, if_pos rfl]) h2, xFs_new])] at hP1 hD1
  exact h q hq p e R s m args below meth c A H1 locs Z ls hF hE ⟨hP1, hD1⟩ hS1 hl
theorem xcA_eq {s : State} {t kd : Nat} {ty : FieldType} {cA : ClassId} {tys : List (ClassId × FieldType)} (hK : va_K g.1 vwCl (xTy g) s) (ht : (xTy g)[t]? = some (g.2.1 kd, ty)) (hK1 : va_K g.1 vwCl (xTy g ++ [(cA, ty)]) s) : cA = g.2.1 kd := by
  have h1 := (hK.2 t _ ht).2
  have h2 := (hK1.2 (xTy g).length (cA, ty) (by simp)).2
  simp only at h1 h2
  cases ty with
  | object C =>
    obtain ⟨_, _, _, _, _, e1⟩ := h1
    obtain ⟨_, _, _, _, _, e2⟩ := h2
    exact Option.some.inj (e2.symm.trans e1)
  | _ => exact Option.some.inj (h2.symm.trans h1)
theorem xr_newa {atype : ArrayType} {ty : FieldType} {kd t n : Nat} {x : Int32} (d : decode md.2.1 pc = .ok (.newarray atype, 2)) (hty : newarray.typeOf atype = ty) (hw : Cond.arrayClass (newarray.typeOf atype) ∈ gl) (ht : ∀ g : xG, (xTy g)[t]? = some (g.2.1 kd, ty)) (h8 : ¬ kd < 8) (h12 : kd ≠ 12) (hdv : defaultValue ty = if kd = 10 then .long 0 else .int 0) (hx : x = nI n) (hn : n < 1000000) (hcb : componentBytes ty ≤ 8) (hm : cs.1 + 1 ≤ mc ∧ cs.2 + n ≤ ms) (h : ∀ q, q ∉ xL M → xWp l g md mc ms (pc + 2) L (va_rf (some q) :: st) (cs.1 + 1, cs.2 + n) (xnew M q kd n) Q) : xWp l g md mc ms pc L (.int x :: st) cs M Q := fun p e R s m args below meth c A H locs Z ls hF hE hP hS hl => by
  obtain ⟨r1, r2, r3, r4⟩ := hF.2.2.2.2.2.2.2.2.2.2.1
  subst hx
  have hcl : (nI n).toNatClampNeg = n := nI_clamp (by omega)
  refine va_newa (D := g.1) hF.1 hF.2.1 (hF.2.2.2.2.1 _ hw) hty hF.2.2.2.2.2.1 hP.1 hP.2 hS hF.2.2.2.2.2.2.2.2.2.1 (N' := n) (a0 := (n, if kd = 10 then .inr (.inl (fun _ => 0)) else .inl (fun _ => 0))) ?_ (nI_pos (by omega)) hcl ?_ (Nat.le_trans hm.1 r3) (Nat.le_trans hm.2 r4) d (fun q cA H1 hK1 hP1 hD1 hS1 => ?_)
  · intro cA
    rw [hdv]
    by_cases h10 : kd = 10
    · simp only [h10, if_true]; rfl
    · simp only [if_neg h10]; rfl
  · calc n * componentBytes ty ≤ n * 8 := Nat.mul_le_mul_left _ hcb
      _ ≤ 536870912 := by omega
  · have hq : q ∉ xL M := va_pl_fresh2 (X := []) (f := xE g M) hD1
    have hcA : cA = g.2.1 kd := xcA_eq (tys := []) hF.2.2.2.2.2.1 (ht g) hK1
    subst hcA
    rw [xW_push g M q kd n hq (by
      rw [xE_arr g (M := xnew M q kd n) (ci := kd) (by rw [xK_new, if_pos rfl]) h8]
      have e1 : xI (xnew M q kd n) q = fun _ => 0 := funext fun j => by rw [xI_new, if_pos rfl]
      have e2 : xJ (xnew M q kd n) q = fun _ => 0 := funext fun j => by rw [xJ_new, if_pos rfl]
      have e3 : xK (xnew M q kd n) q = kd := by rw [xK_new, if_pos rfl]
      have e4 : xN (xnew M q kd n) q = n := by rw [xN_new, if_pos rfl]
      simp only [xAr, e1, e2, e3, e4, if_neg h12])] at hP1 hD1
    exact h q hq p e R s m args below meth c A H1 locs Z ls hF hE ⟨hP1, hD1⟩ hS1 hl
theorem xr_newq {i n : Nat} {x : Int32} (d : decode md.2.1 pc = .ok (.anewarray i, 3)) (hw : Cond.classLink md.1.cls i "RadixPages$Node" ∈ gl) (hx : x = nI n) (hn : n < 1000000) (hm : cs.1 + 1 ≤ mc ∧ cs.2 + n ≤ ms) (h : ∀ q, q ∉ xL M → xWp l g md mc ms (pc + 3) L (va_rf (some q) :: st) (cs.1 + 1, cs.2 + n) (xnew M q 12 n) Q) : xWp l g md mc ms pc L (.int x :: st) cs M Q := fun p e R s m args below meth c A H locs Z ls hF hE hP hS hl => by
  obtain ⟨r1, r2, r3, r4⟩ := hF.2.2.2.2.2.2.2.2.2.2.1
  subst hx
  have hcl : (nI n).toNatClampNeg = n := nI_clamp (by omega)
  refine va_newq (D := g.1) hF.1 hF.2.1 hF.2.2.2.1 (hF.2.2.2.2.1 _ hw) hF.2.2.2.2.2.2.2.2.2.2.2.2.2.2.2.2.2 hF.2.2.2.2.2.1 hP.1 hP.2 hS hF.2.2.2.2.2.2.2.2.2.1 (nI_pos (by omega)) hcl (by omega) (Nat.le_trans hm.1 r3) (Nat.le_trans hm.2 r4) d (fun q cA H1 hK1 hP1 hD1 hS1 => ?_)
  have hq : q ∉ xL M := va_pl_fresh2 (X := []) (f := xE g M) hD1
  have hcA : cA = g.2.1 12 := xcA_eq (tys := []) (t := 4) hF.2.2.2.2.2.1 rfl hK1
  subst hcA
  rw [xW_push g M q 12 n hq (by
    rw [xE_arr g (M := xnew M q 12 n) (ci := 12) (by rw [xK_new, if_pos rfl]) (by decide)]
    have e1 : xR (xnew M q 12 n) q = fun _ => none := funext fun j => by rw [xR_new, if_pos rfl]
    have e3 : xK (xnew M q 12 n) q = 12 := by rw [xK_new, if_pos rfl]
    have e4 : xN (xnew M q 12 n) q = n := by rw [xN_new, if_pos rfl]
    simp only [xAr, e1, e3, e4]
    rfl)] at hP1 hD1
  exact h q hq p e R s m args below meth c A H1 locs Z ls hF hE ⟨hP1, hD1⟩ hS1 hl
/-- Object's constructor -/
theorem xr_obj {i a : Nat} (d : decode md.2.1 pc = .ok (.invokespecial i, 3)) (h1 : Cond.methodLink md.1.cls i objectInit ∈ gl) (h2 : Cond.instanceMethod objectInit ∈ gl) (h3 : Cond.code objectInit ⟨#[0xb1]⟩ 1 none ∈ gl) (hf : 1 ≤ md.2.2.2.2.1) (hw : (st.map fun v => v.category).sum + 12 ≤ md.2.2.2.2.2) (h : xWp l g md mc ms (pc + 3) L st cs M Q) : xWp l g md mc ms pc L (va_rf (some a) :: st) cs M Q := fun p e R s m args below meth c A H locs Z ls hF hE hP hS hl => by
  obtain ⟨r1, r2, r3, r4⟩ := hF.2.2.2.2.2.2.2.2.2.2.1
  exact W.objInit hF.1 hF.2.1 hF.2.2.2.1 (hF.2.2.2.2.1 _ h1) (hF.2.2.2.2.1 _ h2) (hF.2.2.2.2.1 _ h3) rfl (by rw [hF.2.2.1]; exact hl.1) (a := a) (rest := st) rfl d (Nat.le_trans hf r1) (by show 2 * 0 + _ + 12 ≤ _; omega) (h p e R s m args below meth c A H locs Z ls hF hE hP hS hl)
/-- the two static arrays -/
theorem xr_gsM {i : Nat} (d : decode md.2.1 pc = .ok (.getstatic i, 3)) (hw : Cond.fieldLink md.1.cls i "RadixPages$Format" "MOST_CHILDREN" "[I" ∈ gl) (h : xWp l g md mc ms (pc + 3) L (va_rf (some g.2.2.1) :: st) cs M Q) : xWp l g md mc ms pc L st cs M Q := fun p e R s m args below meth c A H locs Z ls hF hE hP hS hl => va_gets hF.1 hF.2.1 hF.2.2.2.2.2.2.2.2.2.2.2.1 hS hF.2.2.2.1 (hF.2.2.2.2.1 _ hw) (fun _ z => z) d (h p e R s m args below meth c A H locs Z ls hF hE hP hS hl)
theorem xr_gsS {i : Nat} (d : decode md.2.1 pc = .ok (.getstatic i, 3)) (hw : Cond.fieldLink md.1.cls i "RadixPages$Format" "SHRINKS_AT" "[I" ∈ gl) (h : xWp l g md mc ms (pc + 3) L (va_rf (some g.2.2.2) :: st) cs M Q) : xWp l g md mc ms pc L st cs M Q := fun p e R s m args below meth c A H locs Z ls hF hE hP hS hl => va_gets hF.1 hF.2.1 hF.2.2.2.2.2.2.2.2.2.2.2.2.2.1 hS hF.2.2.2.1 (hF.2.2.2.2.1 _ hw) (fun _ z => z) d (h p e R s m args below meth c A H locs Z ls hF hE hP hS hl)
theorem xr_salM {i : Int32} (j : Nat) (d : decode md.2.1 pc = .ok (.iaload, 1)) (hi : i = nI j) (hj : j < 5) (h : xWp l g md mc ms (pc + 1) L (.int (xmc j) :: st) cs M Q) : xWp l g md mc ms pc L (.int i :: va_rf (some g.2.2.1) :: st) cs M Q := fun p e R s m args below meth c A H locs Z ls hF hE hP hS hl => by
  subst hi
  exact va_ti hF.1 hF.2.1 hF.2.2.2.2.2.2.2.2.2.2.2.2.1 hS (vp_in_nI hj (by omega)) (by rw [nI_clamp (by omega)]) d (h p e R s m args below meth c A H locs Z ls hF hE hP hS hl)
theorem xr_salS {i : Int32} (j : Nat) (d : decode md.2.1 pc = .ok (.iaload, 1)) (hi : i = nI j) (hj : j < 5) (h : xWp l g md mc ms (pc + 1) L (.int (xsh j) :: st) cs M Q) : xWp l g md mc ms pc L (.int i :: va_rf (some g.2.2.2) :: st) cs M Q := fun p e R s m args below meth c A H locs Z ls hF hE hP hS hl => by
  subst hi
  exact va_ti hF.1 hF.2.1 hF.2.2.2.2.2.2.2.2.2.2.2.2.2.2.1 hS (vp_in_nI hj (by omega)) (by rw [nI_clamp (by omega)]) d (h p e R s m args below meth c A H locs Z ls hF hE hP hS hl)
/-- behind a call: the callee's answer and world -/
theorem xWp.run {mc2 ms2 : Nat} {st0 : List Value} {Q0 : Option Value → xM → Prop} {av : Array Value} {p : Program} {e : Env} {R : Room} {s : State} {m : MethodId} {args : Array Value} {below : List Frame} {meth : Method} {c : Code} {A : Nat → Prop} {H : Heap} {locs : List Loc} {Z : State → Prop} {ls : Array Slot}
    (hr : va_Run p l e R s m args below meth c H locs cs.1 cs.2 mc2 ms2 (F0 m pc ls st0) st (xPost g M H.size Q0 av) (va_A (xW g M) H.size))
    (hF : xFix g md mc ms p R s m args meth c A) (hE : xEnd l g md mc ms p e R s m args below meth c A Q Z) (hP : xP g A M H) (hS : va_S A s.heap H locs) (hl : xLr ls md.2.2.1 L)
    (h : ∀ r M1, Q0 r M1 → xWp l g md mc ms (pc + 3) L (r.toList ++ st) (cs.1 + mc2, cs.2 + ms2) M1 Q) : W p l e R s m args below meth c H locs cs.1 cs.2 Z (F0 m pc ls st0) := by
  have hfree : ∀ q, va_A (xW g M) H.size q → A q := fun q hq => by
    rcases hq with ⟨k, e0, h1⟩ | h1
    · exact hP.2.2 k (q, e0) h1
    · exact hF.2.2.2.2.2.2.2.2.2.1 q (Nat.le_trans hS.1 h1)
  intro T hT X
  obtain ⟨v, st₀, t, T', L', h0, X', hL, e1, e2, ⟨⟨r, M1, hv, hq, hP1, hK1, hD1⟩, hz, hk⟩, stp⟩ := hr T hT X
  cases hv
  rw [h0] at hz hk
  have hS1 : va_S A s.heap T'.heap (locs ++ L') := ⟨Nat.le_trans hS.1 (by rw [e1]; exact hz), fun q h1 h2 => by rw [e1, hk q (Nat.lt_of_lt_of_le h1 hS.1) (fun z => h2 (hfree q z))]; exact hS.2.1 q h1 h2, fun q hq => by
      rcases List.mem_append.mp hq with z | z
      · exact hS.2.2 q z
      · exact hfree _ (hL q z)⟩
  obtain ⟨t2, a1, b1⟩ := h v M1 hq p e R s m args below meth c A T'.heap (locs ++ L') Z ls hF hE ⟨by rw [e1]; exact hP1, hD1.weaken (fun _ _ _ z => hfree _ z)⟩ hS1 hl T' rfl X'
  exact ⟨t2, stp t2 a1, b1⟩
theorem xPre_of {p : Program} {R : Room} {s : State} {m : MethodId} {args : Array Value} {meth : Method} {c : Code} {A : Nat → Prop} {H : Heap} {locs : List Loc} (hF : xFix g md mc ms p R s m args meth c A) (hP : xP g A M H) (hS : va_S A s.heap H locs) (U : State) (hU : U.heap = H) (hW : s.WarmedH U.vm) : xPre g M H.size U := by
  have hfree : ∀ q, va_A (xW g M) H.size q → A q := fun q hq => by
    rcases hq with ⟨k, e0, h1⟩ | h1
    · exact hP.2.2 k (q, e0) h1
    · exact hF.2.2.2.2.2.2.2.2.2.1 q (Nat.le_trans hS.1 h1)
  refine ⟨by rw [hU], by rw [hU]; exact hP.1, va_K.moved hW.alike hF.2.2.2.2.2.1, hP.2.weaken (fun _ _ _ _ => trivial), ?_⟩
  rw [hU]
  exact ((hF.2.2.2.2.2.2.2.2.2.2.2.kept hS.2.1).narrow hfree).warm hW
/-- what a call site stands on -/
def xCb (md md2 : xMd) (n : Nat) : Prop := Cond.code md2.1 md2.2.1 md2.2.2.1 md2.2.2.2.1 ∈ gl ∧ Cond.initialized md2.1.cls ∈ gl ∧ (md2.1.cls ≠ "java/lang/invoke/MethodHandle" ∧ md2.1.cls ≠ "java/lang/invoke/VarHandle" ∧ (parseMethodDescriptor md2.1.desc).map (fun d => d.parameters.length) = some n) ∧ md2.2.2.2.2.1 + 1 ≤ md.2.2.2.2.1 ∧ 8 + (md2.2.2.1 + 11) + md2.2.2.2.2.2 ≤ md.2.2.2.2.2
def xCv (md : xMd) (i : Nat) (md2 : xMd) (n ci : Nat) : Prop := xCb md md2 n ∧ Cond.methodLink md.1.cls i md2.1 ∈ gl ∧ Cond.instanceMethod md2.1 ∈ gl ∧ Cond.selects md2.1.cls md2.1 md2.1 ∈ gl ∧ ci < 8 ∧ ∃ T N, vwCl[ci]? = some (md2.1.cls, T, N)
def xCs (md : xMd) (i : Nat) (md2 : xMd) (n : Nat) : Prop := xCb md md2 n ∧ Cond.methodLink md.1.cls i md2.1 ∈ gl ∧ Cond.static md2.1 ∈ gl
def xCi (md : xMd) (i : Nat) (md2 : xMd) (n : Nat) : Prop := xCb md md2 n ∧ Cond.methodLink md.1.cls i md2.1 ∈ gl ∧ md2.1.name = "<init>" ∧ Cond.instanceMethod md2.1 ∈ gl ∧ md2.2.2.2.1 = none
def xCvN (md : xMd) (i : Nat) (md2 : xMd) (n ci : Nat) : Prop := xCb md md2 n ∧ Cond.methodLinkNest md.1.cls i md2.1 "RadixPages" ∈ xNs ∧ Cond.instanceMethod md2.1 ∈ gl ∧ Cond.selects md2.1.cls md2.1 md2.1 ∈ gl ∧ ci < 8 ∧ ∃ T N, vwCl[ci]? = some (md2.1.cls, T, N)
def xCiN (md : xMd) (i : Nat) (md2 : xMd) (n : Nat) : Prop := xCb md md2 n ∧ Cond.methodLinkNest md.1.cls i md2.1 "RadixPages" ∈ xNs ∧ md2.1.name = "<init>" ∧ Cond.instanceMethod md2.1 ∈ gl ∧ md2.2.2.2.1 = none
theorem xr_callV {i ci : Nat} {md2 : xMd} {mc2 ms2 a : Nat} (As : List Value) {st0 : List Value} (d : decode md.2.1 pc = .ok (.invokevirtual i, 3)) (hc : xCv md i md2 As.length ci) (hst : st0 = As.reverse ++ va_rf (some a) :: st) (ha : a ∈ xL M) (hk : xK M a = ci) (hw : (st.map fun v => v.category).sum ≤ 8) (hm : cs.1 + mc2 ≤ mc ∧ cs.2 + ms2 ≤ ms)
    (h : xSp l g md2 mc2 ms2 (va_rf (some a) :: As) M (fun r M1 => xWp l g md mc ms (pc + 3) L (r.toList ++ st) (cs.1 + mc2, cs.2 + ms2) M1 Q)) : xWp l g md mc ms pc L st0 cs M Q := fun p e R s m args below meth c A H locs Z ls hF hE hP hS hl => by
  obtain ⟨Q0, h1, h2⟩ := h
  obtain ⟨⟨c1, c2, c3, c4, c5⟩, c6, c7, c8, c9, T, N, c10⟩ := hc
  obtain ⟨r1, r2, r3, r4⟩ := hF.2.2.2.2.2.2.2.2.2.2.1
  have hts := hF.2.2.2.2.1
  obtain ⟨q, hq⟩ := xW_get g ha
  rw [xE_obj g hk c9] at hq
  exact xWp.run (va_runV (As := As) (rest := st) ⟨hF.1, hF.2.1, hF.2.2.1, hF.2.2.2.1, hts⟩ (h2 H.size) ⟨callB_of (rm := xrm md2 mc2 ms2) As.length hts (xws_good c1) rfl rfl rfl (hts _ c2) (hts _ c6) c3 ⟨Nat.le_trans c4 r1, Nat.le_trans c5 r2⟩, hts _ c7, hts _ c8⟩ ⟨xPre_blind g M H.size _, va_recv hF.2.2.2.2.2.1 hP.1 c10 hq, fun U hU hW => ⟨rfl, xPre_of hF hP hS U hU hW⟩⟩ rfl rfl hl.1 hst (by show 2 * 0 + _ ≤ 8; omega) d ⟨Nat.le_trans hm.1 r3, Nat.le_trans hm.2 r4⟩) hF hE hP hS hl h1
theorem xr_callS {i : Nat} {md2 : xMd} {mc2 ms2 : Nat} (As : List Value) {st0 : List Value} (d : decode md.2.1 pc = .ok (.invokestatic i, 3)) (hc : xCs md i md2 As.length) (hst : st0 = As.reverse ++ st) (hw : (st.map fun v => v.category).sum ≤ 8) (hm : cs.1 + mc2 ≤ mc ∧ cs.2 + ms2 ≤ ms)
    (h : xSp l g md2 mc2 ms2 As M (fun r M1 => xWp l g md mc ms (pc + 3) L (r.toList ++ st) (cs.1 + mc2, cs.2 + ms2) M1 Q)) : xWp l g md mc ms pc L st0 cs M Q := fun p e R s m args below meth c A H locs Z ls hF hE hP hS hl => by
  obtain ⟨Q0, h1, h2⟩ := h
  obtain ⟨⟨c1, c2, c3, c4, c5⟩, c6, c7⟩ := hc
  obtain ⟨r1, r2, r3, r4⟩ := hF.2.2.2.2.2.2.2.2.2.2.1
  have hts := hF.2.2.2.2.1
  exact xWp.run (va_runS (As := As) (rest := st) ⟨hF.1, hF.2.1, hF.2.2.1, hF.2.2.2.1, hts⟩ (h2 H.size) ⟨callB_of (rm := xrm md2 mc2 ms2) As.length hts (xws_good c1) rfl rfl rfl (hts _ c2) (hts _ c6) c3 ⟨Nat.le_trans c4 r1, Nat.le_trans c5 r2⟩, hts _ c7⟩ ⟨xPre_blind g M H.size _, fun U hU hW => ⟨rfl, xPre_of hF hP hS U hU hW⟩⟩ rfl rfl hl.1 hst (by show 2 * 0 + _ ≤ 8; omega) d ⟨Nat.le_trans hm.1 r3, Nat.le_trans hm.2 r4⟩) hF hE hP hS hl h1
theorem xr_callI {i : Nat} {md2 : xMd} {mc2 ms2 a : Nat} (As : List Value) {st0 : List Value} (d : decode md.2.1 pc = .ok (.invokespecial i, 3)) (hc : xCi md i md2 As.length) (hst : st0 = As.reverse ++ va_rf (some a) :: st) (hw : (st.map fun v => v.category).sum ≤ 8) (hm : cs.1 + mc2 ≤ mc ∧ cs.2 + ms2 ≤ ms)
    (h : xSp l g md2 mc2 ms2 (va_rf (some a) :: As) M (fun r M1 => xWp l g md mc ms (pc + 3) L (r.toList ++ st) (cs.1 + mc2, cs.2 + ms2) M1 Q)) : xWp l g md mc ms pc L st0 cs M Q := fun p e R s m args below meth c A H locs Z ls hF hE hP hS hl => by
  obtain ⟨Q0, h1, h2⟩ := h
  obtain ⟨⟨c1, c2, c3, c4, c5⟩, c6, c7, c8, c9⟩ := hc
  obtain ⟨r1, r2, r3, r4⟩ := hF.2.2.2.2.2.2.2.2.2.2.1
  have hts := hF.2.2.2.2.1
  exact xWp.run (va_runI (As := As) (rest := st) (bytes := md2.2.1) (maxL := md2.2.2.1) ⟨hF.1, hF.2.1, hF.2.2.1, hF.2.2.2.1, hts⟩ (h2 H.size) ⟨by rw [← c9]; exact callB_of (rm := xrm md2 mc2 ms2) As.length hts (xws_good c1) rfl rfl rfl (hts _ c2) (hts _ c6) c3 ⟨Nat.le_trans c4 r1, Nat.le_trans c5 r2⟩, c7, hts _ c8⟩ ⟨xPre_blind g M H.size _, fun U hU hW => ⟨rfl, xPre_of hF hP hS U hU hW⟩⟩ rfl rfl hl.1 hst (by show 2 * 0 + _ ≤ 8; omega) d ⟨Nat.le_trans hm.1 r3, Nat.le_trans hm.2 r4⟩) hF hE hP hS hl h1
theorem xr_callVN {i ci : Nat} {md2 : xMd} {mc2 ms2 a : Nat} (As : List Value) {st0 : List Value} (d : decode md.2.1 pc = .ok (.invokevirtual i, 3)) (hc : xCvN md i md2 As.length ci) (hst : st0 = As.reverse ++ va_rf (some a) :: st) (ha : a ∈ xL M) (hk : xK M a = ci) (hw : (st.map fun v => v.category).sum ≤ 8) (hm : cs.1 + mc2 ≤ mc ∧ cs.2 + ms2 ≤ ms)
    (h : xSp l g md2 mc2 ms2 (va_rf (some a) :: As) M (fun r M1 => xWp l g md mc ms (pc + 3) L (r.toList ++ st) (cs.1 + mc2, cs.2 + ms2) M1 Q)) : xWp l g md mc ms pc L st0 cs M Q := fun p e R s m args below meth c A H locs Z ls hF hE hP hS hl => by
  obtain ⟨Q0, h1, h2⟩ := h
  obtain ⟨⟨c1, c2, c3, c4, c5⟩, c6, c7, c8, c9, T, N, c10⟩ := hc
  obtain ⟨r1, r2, r3, r4⟩ := hF.2.2.2.2.2.2.2.2.2.2.1
  have hts := hF.2.2.2.2.1
  obtain ⟨q, hq⟩ := xW_get g ha
  rw [xE_obj g hk c9] at hq
  exact xWp.run (va_runVN (As := As) (rest := st) ⟨hF.1, hF.2.1, hF.2.2.1, hF.2.2.2.1, hts⟩ (h2 H.size) ⟨va_cnB (rm := xrm md2 mc2 ms2) As.length hts (xws_good c1) rfl rfl rfl (hF.2.2.2.2.2.2.2.2.2.2.2.2.2.2.2.1 _ c6) (hts _ c2) c3 ⟨Nat.le_trans c4 r1, Nat.le_trans c5 r2⟩, hts _ c7, hts _ c8⟩ ⟨xPre_blind g M H.size _, va_recv hF.2.2.2.2.2.1 hP.1 c10 hq, fun U hU hW => ⟨rfl, xPre_of hF hP hS U hU hW⟩⟩ rfl rfl hl.1 hst (by show 2 * 0 + _ ≤ 8; omega) d ⟨Nat.le_trans hm.1 r3, Nat.le_trans hm.2 r4⟩) hF hE hP hS hl h1
theorem xr_callIN {i : Nat} {md2 : xMd} {mc2 ms2 a : Nat} (As : List Value) {st0 : List Value} (d : decode md.2.1 pc = .ok (.invokespecial i, 3)) (hc : xCiN md i md2 As.length) (hst : st0 = As.reverse ++ va_rf (some a) :: st) (hw : (st.map fun v => v.category).sum ≤ 8) (hm : cs.1 + mc2 ≤ mc ∧ cs.2 + ms2 ≤ ms)
    (h : xSp l g md2 mc2 ms2 (va_rf (some a) :: As) M (fun r M1 => xWp l g md mc ms (pc + 3) L (r.toList ++ st) (cs.1 + mc2, cs.2 + ms2) M1 Q)) : xWp l g md mc ms pc L st0 cs M Q := fun p e R s m args below meth c A H locs Z ls hF hE hP hS hl => by
  obtain ⟨Q0, h1, h2⟩ := h
  obtain ⟨⟨c1, c2, c3, c4, c5⟩, c6, c7, c8, c9⟩ := hc
  obtain ⟨r1, r2, r3, r4⟩ := hF.2.2.2.2.2.2.2.2.2.2.1
  have hts := hF.2.2.2.2.1
  exact xWp.run (va_runIN (As := As) (rest := st) (bytes := md2.2.1) (maxL := md2.2.2.1) (host := "RadixPages") ⟨hF.1, hF.2.1, hF.2.2.1, hF.2.2.2.1, hts⟩ (h2 H.size) ⟨by rw [← c9]; exact va_cnB (rm := xrm md2 mc2 ms2) As.length hts (xws_good c1) rfl rfl rfl (hF.2.2.2.2.2.2.2.2.2.2.2.2.2.2.2.1 _ c6) (hts _ c2) c3 ⟨Nat.le_trans c4 r1, Nat.le_trans c5 r2⟩, c7, hts _ c8⟩ ⟨xPre_blind g M H.size _, fun U hU hW => ⟨rfl, xPre_of hF hP hS U hU hW⟩⟩ rfl rfl hl.1 hst (by show 2 * 0 + _ ≤ 8; omega) d ⟨Nat.le_trans hm.1 r3, Nat.le_trans hm.2 r4⟩) hF hE hP hS hl h1
end XCR
end
section
/-! Math.max, Math.min, System.arraycopy of bytes. -/
section XJ
variable {l : Launch} {g : xG} {md : xMd} {mc ms pc : Nat} {L : List (Nat × Value)} {st : List Value} {cs : Nat × Nat} {M : xM} {Q : Option Value → xM → Prop}
theorem xr_mmax {i : Nat} {x y : Int32} (d : decode md.2.1 pc = .ok (.invokestatic i, 3)) (h1 : Cond.methodLink md.1.cls i Lib.Math.max.name ∈ gl) (h2 : Cond.static Lib.Math.max.name ∈ gl) (h3 : Cond.initialized "java/lang/Math" ∈ gl) (h4 : Cond.code Lib.Math.max.name Lib.Math.max.code 2 (some .int) ∈ gl) (hf : 1 ≤ md.2.2.2.2.1) (hw : (st.map fun v => v.category).sum + 13 ≤ md.2.2.2.2.2) (hm : cs.1 ≤ mc ∧ cs.2 ≤ ms) (h : xWp l g md mc ms (pc + 3) L (.int (if x < y then y else x) :: st) cs M Q) : xWp l g md mc ms pc L (.int y :: .int x :: st) cs M Q := fun p e R s m args below meth c A H locs Z ls hF hE hP hS hl => by
  obtain ⟨r1, r2, r3, r4⟩ := hF.2.2.2.2.2.2.2.2.2.2.1
  exact va_mmax hF.1 hF.2.1 (by rw [hF.2.2.1]; exact hl.1.symm) hF.2.2.2.1 (hF.2.2.2.2.1 _ h1) (hF.2.2.2.2.1 _ h2) (hF.2.2.2.2.1 _ h3) (hF.2.2.2.2.1 _ h4) (Nat.le_trans hf r1) (Nat.le_trans hw r2) (Nat.le_trans hm.1 r3) (Nat.le_trans hm.2 r4) d (h p e R s m args below meth c A H locs Z ls hF hE hP hS hl)
theorem xr_mmin {i : Nat} {x y : Int32} (d : decode md.2.1 pc = .ok (.invokestatic i, 3)) (h1 : Cond.methodLink md.1.cls i Lib.Math.min.name ∈ gl) (h2 : Cond.static Lib.Math.min.name ∈ gl) (h3 : Cond.initialized "java/lang/Math" ∈ gl) (h4 : Cond.code Lib.Math.min.name Lib.Math.min.code 2 (some .int) ∈ gl) (hf : 1 ≤ md.2.2.2.2.1) (hw : (st.map fun v => v.category).sum + 13 ≤ md.2.2.2.2.2) (hm : cs.1 ≤ mc ∧ cs.2 ≤ ms) (h : xWp l g md mc ms (pc + 3) L (.int (if y < x then y else x) :: st) cs M Q) : xWp l g md mc ms pc L (.int y :: .int x :: st) cs M Q := fun p e R s m args below meth c A H locs Z ls hF hE hP hS hl => by
  obtain ⟨r1, r2, r3, r4⟩ := hF.2.2.2.2.2.2.2.2.2.2.1
  exact va_mmin hF.1 hF.2.1 (by rw [hF.2.2.1]; exact hl.1.symm) hF.2.2.2.1 (hF.2.2.2.2.1 _ h1) (hF.2.2.2.2.1 _ h2) (hF.2.2.2.2.1 _ h3) (hF.2.2.2.2.1 _ h4) (Nat.le_trans hf r1) (Nat.le_trans hw r2) (Nat.le_trans hm.1 r3) (Nat.le_trans hm.2 r4) d (h p e R s m args below meth c A H locs Z ls hF hE hP hS hl)
/-- bytes copied from the array a0 at sp to the array a at dp, n of them -/
def xcp (M : xM) (a0 a sp dp n : Nat) : xM := (M.1, M.2.1, M.2.2.1, (fun b => if b = a then va_cpy (xI M a0) (xI M a) sp dp n else xI M b), M.2.2.2.2.1, M.2.2.2.2.2)
theorem xK_cp (M : xM) (a0 a sp dp n : Nat) : xK (xcp M a0 a sp dp n) = xK M := rfl
theorem xN_cp (M : xM) (a0 a sp dp n : Nat) : xN (xcp M a0 a sp dp n) = xN M := rfl
theorem xL_cp (M : xM) (a0 a sp dp n : Nat) : xL (xcp M a0 a sp dp n) = xL M := rfl
theorem xJ_cp (M : xM) (a0 a sp dp n : Nat) : xJ (xcp M a0 a sp dp n) = xJ M := rfl
theorem xR_cp (M : xM) (a0 a sp dp n : Nat) : xR (xcp M a0 a sp dp n) = xR M := rfl
theorem xI_cp (M : xM) (a0 a sp dp n b j : Nat) : xI (xcp M a0 a sp dp n) b j = if b = a then (if dp ≤ j ∧ j < dp + n then xI M a0 (sp + (j - dp)) else xI M a j) else xI M b j := by
  show (if b = a then va_cpy (xI M a0) (xI M a) sp dp n else xI M b) j = _
  by_cases h : b = a
  · rw [if_pos h, if_pos h]; rfl
  · rw [if_neg h, if_neg h]
theorem xr_copy {i a0 a : Nat} {x y z : Int32} (sp dp n : Nat) (d : decode md.2.1 pc = .ok (.invokestatic i, 3)) (h1 : Cond.methodLink md.1.cls i arraycopyName ∈ gl) (h2 : Cond.native arraycopyName ∈ gl) (h3 : Cond.static arraycopyName ∈ gl) (h4 : Cond.initialized "java/lang/System" ∈ gl) (hf : 1 ≤ md.2.2.2.2.1) (hw : (st.map fun v => v.category).sum + (nativeFrameWords "java/lang/System" "arraycopy" 5 + 11) ≤ md.2.2.2.2.2)
    (ha0 : a0 ∈ xL M) (hk0 : xK M a0 = 8) (ha : a ∈ xL M) (hk : xK M a = 8) (hx : x = nI sp) (hy : y = nI dp) (hz : z = nI n) (hsp : sp < 2 ^ 31) (hdp : dp < 2 ^ 31) (hn : n < 2 ^ 31) (hb0 : sp + n ≤ xN M a0) (hb1 : dp + n ≤ xN M a) (hfit : ∀ j, j < n → fits .byte (.int (xI M a0 (sp + j))) = true)
    (h : xWp l g md mc ms (pc + 3) L st cs (xcp M a0 a sp dp n) Q) : xWp l g md mc ms pc L (.int z :: .int y :: va_rf (some a) :: .int x :: va_rf (some a0) :: st) cs M Q := fun p e R s m args below meth c A H locs Z ls hF hE hP hS hl => by
  obtain ⟨r1, r2, r3, r4⟩ := hF.2.2.2.2.2.2.2.2.2.2.1
  subst hx; subst hy; subst hz
  obtain ⟨q0, hq0⟩ := xW_get g ha0
  obtain ⟨q1, hq1⟩ := xW_get g ha
  have hq1' := hq1
  rw [xE_arr g hk0 (by decide), xArI hk0 (by decide) (by decide)] at hq0
  rw [xE_arr g hk (by decide), xArI hk (by decide) (by decide)] at hq1'
  have e1 : (nI sp).toNatClampNeg = sp := nI_clamp hsp
  have e2 : (nI dp).toNatClampNeg = dp := nI_clamp hdp
  have e3 : (nI n).toNatClampNeg = n := nI_clamp hn
  have hset : (xW g M).set q1 (a, .inl (g.2.1 8, xN M a, .inl (va_cpy (xI M a0) (xI M a) sp dp n))) = xW g (xcp M a0 a sp dp n) := xW_set g hP.2 ha hq1 rfl (by
    rw [xE_arr g (M := xcp M a0 a sp dp n) hk (by decide), xArI (M := xcp M a0 a sp dp n) hk (by decide) (by decide)]
    have : xI (xcp M a0 a sp dp n) a = va_cpy (xI M a0) (xI M a) sp dp n := by show (if a = a then _ else _) = _; rw [if_pos rfl]
    rw [this]; rfl) (fun b hb => xE_off g rfl rfl (fun j => by rw [xI_cp, if_neg hb]) (fun _ => rfl) (fun _ => rfl))
  refine va_copyi (D := g.1) hF.1 hF.2.1 (by rw [hF.2.2.1]; exact hl.1.symm) hF.2.2.2.1 (hF.2.2.2.2.1 _ h1) (hF.2.2.2.2.1 _ h2) (hF.2.2.2.2.1 _ h3) (hF.2.2.2.2.1 _ h4) hF.2.2.2.2.2.1 hP.1 hP.2 hS q0 q1 0 0 hq0 hq1' rfl rfl rfl (nI_pos hsp) (nI_pos hdp) (nI_pos hn) (by rw [e1, e3]; exact hb0) (by rw [e2, e3]; exact hb1) (by rw [e1, e3]; exact hfit) (Nat.le_trans hf r1) (Nat.le_trans hw r2) d (fun H1 locs1 hP1 hD1 hS1 => ?_)
  rw [e1, e2, e3, hset] at hP1 hD1
  exact h p e R s m args below meth c A H1 locs1 Z ls hF hE ⟨hP1, hD1⟩ hS1 hl
end XJ
end
section
/-! THE SAME ROWS, with a reference that may be null in the walk's words and is known not to be. -/
def xat (M : xM) (a ci : Nat) : Prop := a ∈ xL M ∧ xK M a = ci
section YR
variable {l : Launch} {g : xG} {md : xMd} {mc ms pc : Nat} {L : List (Nat × Value)} {st : List Value} {cs : Nat × Nat} {M : xM} {Q : Option Value → xM → Prop}
theorem yr_getI {r : Option Nat} {a i ci k : Nat} (d : decode md.2.1 pc = .ok (.getfield i, 3)) (hf : xFl md.1.cls i ci k 0) (hr : r = some a) (ha : xat M a ci) (h : xWp l g md mc ms (pc + 3) L (.int (xI M a k) :: st) cs M Q) : xWp l g md mc ms pc L (va_rf r :: st) cs M Q := by
  subst hr; exact xr_get 0 d hf ha.1 ha.2 h
theorem yr_getZ {r : Option Nat} {a i ci k : Nat} (d : decode md.2.1 pc = .ok (.getfield i, 3)) (hf : xFl md.1.cls i ci k 3) (hr : r = some a) (ha : xat M a ci) (h : xWp l g md mc ms (pc + 3) L (.int (xI M a k) :: st) cs M Q) : xWp l g md mc ms pc L (va_rf r :: st) cs M Q := by
  subst hr; exact xr_get 3 d hf ha.1 ha.2 h
theorem yr_getJ {r : Option Nat} {a i ci k : Nat} (d : decode md.2.1 pc = .ok (.getfield i, 3)) (hf : xFl md.1.cls i ci k 1) (hr : r = some a) (ha : xat M a ci) (h : xWp l g md mc ms (pc + 3) L (.long (xJ M a k) :: st) cs M Q) : xWp l g md mc ms pc L (va_rf r :: st) cs M Q := by
  subst hr; exact xr_get 1 d hf ha.1 ha.2 h
theorem yr_getR {r : Option Nat} {a i ci k : Nat} (d : decode md.2.1 pc = .ok (.getfield i, 3)) (hf : xFl md.1.cls i ci k 2) (hr : r = some a) (ha : xat M a ci) (h : xWp l g md mc ms (pc + 3) L (va_rf (xR M a k) :: st) cs M Q) : xWp l g md mc ms pc L (va_rf r :: st) cs M Q := by
  subst hr; exact xr_get 2 d hf ha.1 ha.2 h
theorem yr_getN {r : Option Nat} {a : Nat} (d : decode md.2.1 pc = .ok (.getfield 27, 3)) (ho : md.1.cls = "RadixPages$Disk") (hin : ∀ w ∈ u_ws RX5 TX5 1, w ∈ gl) (hr : r = some a) (ha : xat M a 2) (h : xWp l g md mc ms (pc + 3) L (va_rf (xR M a 0) :: st) cs M Q) : xWp l g md mc ms pc L (va_rf r :: st) cs M Q := by
  subst hr; exact xr_getN d ho hin ha.1 ha.2 h
theorem yr_putI {r : Option Nat} {a i ci k : Nat} {x : Int32} (d : decode md.2.1 pc = .ok (.putfield i, 3)) (hf : xFp false md.1.cls i ci k 0 .int) (hr : r = some a) (ha : xat M a ci) (h : xWp l g md mc ms (pc + 3) L st cs (xsI M a k x) Q) : xWp l g md mc ms pc L (.int x :: va_rf r :: st) cs M Q := by
  subst hr; exact xr_putI d hf ha.1 ha.2 h
theorem yr_putZ {r : Option Nat} {a i ci k : Nat} {x : Int32} (d : decode md.2.1 pc = .ok (.putfield i, 3)) (hf : xFp false md.1.cls i ci k 3 .boolean) (hr : r = some a) (ha : xat M a ci) (hx : x = 0 ∨ x = 1) (h : xWp l g md mc ms (pc + 3) L st cs (xsI M a k x) Q) : xWp l g md mc ms pc L (.int x :: va_rf r :: st) cs M Q := by
  subst hr; exact xr_putZ d hf ha.1 ha.2 hx h
theorem yr_putJ {r : Option Nat} {a i ci k : Nat} {x : Int64} (d : decode md.2.1 pc = .ok (.putfield i, 3)) (hf : xFp false md.1.cls i ci k 1 .long) (hr : r = some a) (ha : xat M a ci) (h : xWp l g md mc ms (pc + 3) L st cs (xsJ M a k x) Q) : xWp l g md mc ms pc L (.long x :: va_rf r :: st) cs M Q := by
  subst hr; exact xr_putJ d hf ha.1 ha.2 h
theorem yr_putR {r : Option Nat} {a i ci k : Nat} {n : String} {x : Option Nat} (d : decode md.2.1 pc = .ok (.putfield i, 3)) (hf : xFp false md.1.cls i ci k 2 (.object n)) (hr : r = some a) (ha : xat M a ci) (h : xWp l g md mc ms (pc + 3) L st cs (xsR M a k x) Q) : xWp l g md mc ms pc L (va_rf x :: va_rf r :: st) cs M Q := by
  subst hr; exact xr_putR d hf ha.1 ha.2 h
theorem yr_putRF {r : Option Nat} {a i ci k : Nat} {ty : FieldType} {x : Option Nat} (d : decode md.2.1 pc = .ok (.putfield i, 3)) (hi : md.1.name = "<init>") (hf : xFp true md.1.cls i ci k 2 ty) (ht : (∃ n, ty = .object n) ∨ ∃ n, ty = .array n) (hr : r = some a) (ha : xat M a ci) (h : xWp l g md mc ms (pc + 3) L st cs (xsR M a k x) Q) : xWp l g md mc ms pc L (va_rf x :: va_rf r :: st) cs M Q := by
  subst hr; exact xr_putRF d hi hf ht ha.1 ha.2 h
/-- an array and a place in it -/
def xai (M : xM) (a kd : Nat) (i : Int32) (j : Nat) : Prop := xat M a kd ∧ i = nI j ∧ j < xN M a ∧ xN M a < 2 ^ 31
theorem yr_iald {r : Option Nat} {a j : Nat} {i : Int32} (d : decode md.2.1 pc = .ok (.iaload, 1)) (hr : r = some a) (ha : xai M a 9 i j) (h : xWp l g md mc ms (pc + 1) L (.int (xI M a j) :: st) cs M Q) : xWp l g md mc ms pc L (.int i :: va_rf r :: st) cs M Q := by
  subst hr; exact xr_iald j d ha.1.1 ha.1.2 ha.2.1 ha.2.2.1 ha.2.2.2 h
theorem yr_bald {r : Option Nat} {a j : Nat} {i : Int32} (d : decode md.2.1 pc = .ok (.baload, 1)) (hr : r = some a) (ha : xai M a 8 i j) (h : xWp l g md mc ms (pc + 1) L (.int (xI M a j) :: st) cs M Q) : xWp l g md mc ms pc L (.int i :: va_rf r :: st) cs M Q := by
  subst hr; exact xr_bald j d ha.1.1 ha.1.2 ha.2.1 ha.2.2.1 ha.2.2.2 h
theorem yr_zald {r : Option Nat} {a j : Nat} {i : Int32} (d : decode md.2.1 pc = .ok (.baload, 1)) (hr : r = some a) (ha : xai M a 11 i j) (h : xWp l g md mc ms (pc + 1) L (.int (xI M a j) :: st) cs M Q) : xWp l g md mc ms pc L (.int i :: va_rf r :: st) cs M Q := by
  subst hr; exact xr_zald j d ha.1.1 ha.1.2 ha.2.1 ha.2.2.1 ha.2.2.2 h
theorem yr_lald {r : Option Nat} {a j : Nat} {i : Int32} (d : decode md.2.1 pc = .ok (.laload, 1)) (hr : r = some a) (ha : xai M a 10 i j) (h : xWp l g md mc ms (pc + 1) L (.long (xJ M a j) :: st) cs M Q) : xWp l g md mc ms pc L (.int i :: va_rf r :: st) cs M Q := by
  subst hr; exact xr_lald j d ha.1.1 ha.1.2 ha.2.1 ha.2.2.1 ha.2.2.2 h
theorem yr_aald {r : Option Nat} {a j : Nat} {i : Int32} (d : decode md.2.1 pc = .ok (.aaload, 1)) (hr : r = some a) (ha : xai M a 12 i j) (h : xWp l g md mc ms (pc + 1) L (va_rf (xR M a j) :: st) cs M Q) : xWp l g md mc ms pc L (.int i :: va_rf r :: st) cs M Q := by
  subst hr; exact xr_aald j d ha.1.1 ha.1.2 ha.2.1 ha.2.2.1 ha.2.2.2 h
theorem yr_iast {r : Option Nat} {a j : Nat} {i x : Int32} (d : decode md.2.1 pc = .ok (.iastore, 1)) (hr : r = some a) (ha : xai M a 9 i j) (h : xWp l g md mc ms (pc + 1) L st cs (xsI M a j x) Q) : xWp l g md mc ms pc L (.int x :: .int i :: va_rf r :: st) cs M Q := by
  subst hr; exact xr_iast j d ha.1.1 ha.1.2 ha.2.1 ha.2.2.1 ha.2.2.2 h
theorem yr_bast {r : Option Nat} {a j : Nat} {i x : Int32} (d : decode md.2.1 pc = .ok (.bastore, 1)) (hr : r = some a) (ha : xai M a 8 i j) (h : xWp l g md mc ms (pc + 1) L st cs (xsI M a j x.toInt8.toInt32) Q) : xWp l g md mc ms pc L (.int x :: .int i :: va_rf r :: st) cs M Q := by
  subst hr; exact xr_bast j d ha.1.1 ha.1.2 ha.2.1 ha.2.2.1 ha.2.2.2 h
theorem yr_zast {r : Option Nat} {a j : Nat} {i x : Int32} (d : decode md.2.1 pc = .ok (.bastore, 1)) (hr : r = some a) (ha : xai M a 11 i j) (h : xWp l g md mc ms (pc + 1) L st cs (xsI M a j (x &&& 1)) Q) : xWp l g md mc ms pc L (.int x :: .int i :: va_rf r :: st) cs M Q := by
  subst hr; exact xr_zast j d ha.1.1 ha.1.2 ha.2.1 ha.2.2.1 ha.2.2.2 h
theorem yr_last {r : Option Nat} {a j : Nat} {i : Int32} {x : Int64} (d : decode md.2.1 pc = .ok (.lastore, 1)) (hr : r = some a) (ha : xai M a 10 i j) (h : xWp l g md mc ms (pc + 1) L st cs (xsJ M a j x) Q) : xWp l g md mc ms pc L (.long x :: .int i :: va_rf r :: st) cs M Q := by
  subst hr; exact xr_last j d ha.1.1 ha.1.2 ha.2.1 ha.2.2.1 ha.2.2.2 h
theorem yr_aast {r rb : Option Nat} {a b j : Nat} {i : Int32} (d : decode md.2.1 pc = .ok (.aastore, 1)) (hr : r = some a) (ha : xai M a 12 i j) (hrb : rb = some b) (hb : xat M b 1) (h : xWp l g md mc ms (pc + 1) L st cs (xsR M a j rb) Q) : xWp l g md mc ms pc L (va_rf rb :: .int i :: va_rf r :: st) cs M Q := by
  subst hr; subst hrb; exact xr_aast j d ha.1.1 ha.1.2 hb.1 hb.2 ha.2.1 ha.2.2.1 ha.2.2.2 h
/-- the array's kind among the types of arrays -/
theorem yr_alen8 {r : Option Nat} {a : Nat} (d : decode md.2.1 pc = .ok (.arraylength, 1)) (hr : r = some a) (ha : xat M a 8) (h : xWp l g md mc ms (pc + 1) L (.int (nI (xN M a)) :: st) cs M Q) : xWp l g md mc ms pc L (va_rf r :: st) cs M Q := by
  subst hr; exact xr_alen (t := 0) d ha.1 ha.2 (by decide) (fun _ => rfl) h
theorem yr_alen9 {r : Option Nat} {a : Nat} (d : decode md.2.1 pc = .ok (.arraylength, 1)) (hr : r = some a) (ha : xat M a 9) (h : xWp l g md mc ms (pc + 1) L (.int (nI (xN M a)) :: st) cs M Q) : xWp l g md mc ms pc L (va_rf r :: st) cs M Q := by
  subst hr; exact xr_alen (t := 1) d ha.1 ha.2 (by decide) (fun _ => rfl) h
theorem yr_alen11 {r : Option Nat} {a : Nat} (d : decode md.2.1 pc = .ok (.arraylength, 1)) (hr : r = some a) (ha : xat M a 11) (h : xWp l g md mc ms (pc + 1) L (.int (nI (xN M a)) :: st) cs M Q) : xWp l g md mc ms pc L (va_rf r :: st) cs M Q := by
  subst hr; exact xr_alen (t := 3) d ha.1 ha.2 (by decide) (fun _ => rfl) h
theorem yr_alen12 {r : Option Nat} {a : Nat} (d : decode md.2.1 pc = .ok (.arraylength, 1)) (hr : r = some a) (ha : xat M a 12) (h : xWp l g md mc ms (pc + 1) L (.int (nI (xN M a)) :: st) cs M Q) : xWp l g md mc ms pc L (va_rf r :: st) cs M Q := by
  subst hr; exact xr_alen (t := 4) d ha.1 ha.2 (by decide) (fun _ => rfl) h
theorem yr_alenM (d : decode md.2.1 pc = .ok (.arraylength, 1)) (h : xWp l g md mc ms (pc + 1) L (.int 5 :: st) cs M Q) : xWp l g md mc ms pc L (va_rf (some g.2.2.1) :: st) cs M Q := fun p e R s m args below meth c A H locs Z ls hF hE hP hS hl => by
  obtain ⟨cell, k1, k2, k3, k4, k5, k6, k7⟩ := hF.2.2.2.2.2.2.2.2.2.2.2.2.1.kept hS.2.1
  exact W.alen (n := 5) hF.1 hF.2.1 k1 k2 k5 rfl rfl d (h p e R s m args below meth c A H locs Z ls hF hE hP hS hl)
theorem yr_alenS (d : decode md.2.1 pc = .ok (.arraylength, 1)) (h : xWp l g md mc ms (pc + 1) L (.int 5 :: st) cs M Q) : xWp l g md mc ms pc L (va_rf (some g.2.2.2) :: st) cs M Q := fun p e R s m args below meth c A H locs Z ls hF hE hP hS hl => by
  obtain ⟨cell, k1, k2, k3, k4, k5, k6, k7⟩ := hF.2.2.2.2.2.2.2.2.2.2.2.2.2.2.1.kept hS.2.1
  exact W.alen (n := 5) hF.1 hF.2.1 k1 k2 k5 rfl rfl d (h p e R s m args below meth c A H locs Z ls hF hE hP hS hl)
theorem yr_callV {r : Option Nat} {i ci : Nat} {md2 : xMd} {mc2 ms2 a : Nat} (As : List Value) {st0 : List Value} (d : decode md.2.1 pc = .ok (.invokevirtual i, 3)) (hc : xCv md i md2 As.length ci) (hr : r = some a) (ha : xat M a ci) (hst : st0 = As.reverse ++ va_rf r :: st) (hw : (st.map fun v => v.category).sum ≤ 8) (hm : cs.1 + mc2 ≤ mc ∧ cs.2 + ms2 ≤ ms)
    (h : xSp l g md2 mc2 ms2 (va_rf r :: As) M (fun r M1 => xWp l g md mc ms (pc + 3) L (r.toList ++ st) (cs.1 + mc2, cs.2 + ms2) M1 Q)) : xWp l g md mc ms pc L st0 cs M Q := by
  subst hr; exact xr_callV As d hc hst ha.1 ha.2 hw hm h
theorem yr_callVN {r : Option Nat} {i ci : Nat} {md2 : xMd} {mc2 ms2 a : Nat} (As : List Value) {st0 : List Value} (d : decode md.2.1 pc = .ok (.invokevirtual i, 3)) (hc : xCvN md i md2 As.length ci) (hr : r = some a) (ha : xat M a ci) (hst : st0 = As.reverse ++ va_rf r :: st) (hw : (st.map fun v => v.category).sum ≤ 8) (hm : cs.1 + mc2 ≤ mc ∧ cs.2 + ms2 ≤ ms)
    (h : xSp l g md2 mc2 ms2 (va_rf r :: As) M (fun r M1 => xWp l g md mc ms (pc + 3) L (r.toList ++ st) (cs.1 + mc2, cs.2 + ms2) M1 Q)) : xWp l g md mc ms pc L st0 cs M Q := by
  subst hr; exact xr_callVN As d hc hst ha.1 ha.2 hw hm h
theorem va_rf_cat (r : Option Nat) : (va_rf r).category = 1 := by cases r <;> rfl
end YR
end
section
/-! THE METHODS (name, code, locals, answer, frames and words of room), and what their instructions link. -/
abbrev mX0_init : xMd := (yX0_init, cX0_init, 1, none, 1, 20)
abbrev mX0_has : xMd := (yX0_has, cX0_has, 2, (some .boolean), 0, 0)
abbrev mX0_byteAt : xMd := (yX0_byteAt, cX0_byteAt, 3, (some .int), 1, 21)
abbrev mX0_setByte : xMd := (yX0_setByte, cX0_setByte, 4, none, 1, 21)
abbrev mX0_setPower : xMd := (yX0_setPower, cX0_setPower, 3, none, 0, 0)
abbrev mX0_read : xMd := (yX0_read, cX0_read, 3, none, 1, 48)
abbrev mX0_write : xMd := (yX0_write, cX0_write, 4, (some .boolean), 2, 48)
abbrev mX1_is : xMd := (yX1_is, cX1_is, 1, (some .boolean), 0, 0)
abbrev mX1_mostChildren : xMd := (yX1_mostChildren, cX1_mostChildren, 1, (some .int), 0, 0)
abbrev mX1_grown : xMd := (yX1_grown, cX1_grown, 2, (some .int), 1, 20)
abbrev mX1_shrunk : xMd := (yX1_shrunk, cX1_shrunk, 3, (some .int), 0, 0)
abbrev mX2_fill : xMd := (yX2_fill, cX2_fill, 5, none, 2, 49)
abbrev mX2_sequence : xMd := (yX2_sequence, cX2_sequence, 1, (some .long), 2, 45)
abbrev mX2_rootPage : xMd := (yX2_rootPage, cX2_rootPage, 1, (some .int), 1, 21)
abbrev mX2_keys : xMd := (yX2_keys, cX2_keys, 1, (some .int), 1, 21)
abbrev mX3_init : xMd := (yX3_init, cX3_init, 1, none, 1, 20)
abbrev mX3_reset : xMd := (yX3_reset, cX3_reset, 1, none, 0, 0)
abbrev mX3_prefixAt : xMd := (yX3_prefixAt, cX3_prefixAt, 2, (some .int), 0, 0)
abbrev mX3_setPrefixAt : xMd := (yX3_setPrefixAt, cX3_setPrefixAt, 3, none, 0, 0)
abbrev mX3_appendToPrefix : xMd := (yX3_appendToPrefix, cX3_appendToPrefix, 2, none, 1, 22)
abbrev mX3_dropFromPrefix : xMd := (yX3_dropFromPrefix, cX3_dropFromPrefix, 4, none, 1, 22)
abbrev mX3_takePrefixOfParent : xMd := (yX3_takePrefixOfParent, cX3_takePrefixOfParent, 5, none, 1, 22)
abbrev mX3_matching : xMd := (yX3_matching, cX3_matching, 4, (some .int), 1, 21)
abbrev mX3_setValue : xMd := (yX3_setValue, cX3_setValue, 3, none, 0, 0)
abbrev mX3_loseValue : xMd := (yX3_loseValue, cX3_loseValue, 1, none, 0, 0)
abbrev mX3_lastBelow : xMd := (yX3_lastBelow, cX3_lastBelow, 4, (some (.object "RadixPages$Node")), 0, 0)
abbrev mX3_firstFrom : xMd := (yX3_firstFrom, cX3_firstFrom, 3, (some (.object "RadixPages$Node")), 0, 0)
abbrev mX3_childBy : xMd := (yX3_childBy, cX3_childBy, 3, (some (.object "RadixPages$Node")), 1, 22)
abbrev mX3_setNextOf : xMd := (yX3_setNextOf, cX3_setNextOf, 3, none, 0, 0)
abbrev mX3_gain : xMd := (yX3_gain, cX3_gain, 3, none, 2, 41)
abbrev mX3_lose : xMd := (yX3_lose, cX3_lose, 2, none, 1, 23)
abbrev mX3_yieldTo : xMd := (yX3_yieldTo, cX3_yieldTo, 2, none, 1, 23)
abbrev mX3_freshen : xMd := (yX3_freshen, cX3_freshen, 2, none, 0, 0)
abbrev mX3_following : xMd := (yX3_following, cX3_following, 1, (some (.object "RadixPages$Node")), 1, 21)
abbrev mX3_behind : xMd := (yX3_behind, cX3_behind, 2, (some (.object "RadixPages$Node")), 0, 0)
abbrev mX3_lowest : xMd := (yX3_lowest, cX3_lowest, 3, (some (.object "RadixPages$Node")), 0, 0)
abbrev mX3_above : xMd := (yX3_above, cX3_above, 1, (some (.object "RadixPages$Node")), 1, 22)
abbrev mX3_lead : xMd := (yX3_lead, cX3_lead, 3, (some .int), 0, 0)
abbrev mX3_level : xMd := (yX3_level, cX3_level, 3, (some .int), 0, 0)
abbrev mX3_spell : xMd := (yX3_spell, cX3_spell, 5, none, 1, 22)
abbrev mX3_hasReason : xMd := (yX3_hasReason, cX3_hasReason, 1, (some .boolean), 0, 0)
abbrev mX3_twinOf : xMd := (yX3_twinOf, cX3_twinOf, 1, (some (.object "RadixPages$Node")), 0, 0)
abbrev mX3_mirror : xMd := (yX3_mirror, cX3_mirror, 3, none, 1, 22)
abbrev mX4_fill : xMd := (yX4_fill, cX4_fill, 3, none, 2, 49)
abbrev mX4_fillTable : xMd := (yX4_fillTable, cX4_fillTable, 4, none, 1, 22)
abbrev mX5_init : xMd := (yX5_init, cX5_init, 1, none, 1, 20)
abbrev mX5_at : xMd := (yX5_at, cX5_at, 2, (some .int), 0, 0)
abbrev mX5_set : xMd := (yX5_set, cX5_set, 3, none, 0, 0)
abbrev mX5_longAt : xMd := (yX5_longAt, cX5_longAt, 5, (some .long), 1, 21)
abbrev mX5_setLong : xMd := (yX5_setLong, cX5_setLong, 5, none, 0, 0)
abbrev mX5_wipe : xMd := (yX5_wipe, cX5_wipe, 2, none, 0, 0)
abbrev mX5_seal : xMd := (yX5_seal, cX5_seal, 6, none, 1, 24)
abbrev mX5_same : xMd := (yX5_same, cX5_same, 3, (some .boolean), 0, 0)
abbrev mX6_init : xMd := (yX6_init, cX6_init, 1, none, 2, 40)
abbrev mX6_save : xMd := (yX6_save, cX6_save, 5, (some .boolean), 4, 92)
abbrev mX6_saveNode : xMd := (yX6_saveNode, cX6_saveNode, 2, (some .boolean), 3, 71)
abbrev mX6_freeAllPages : xMd := (yX6_freeAllPages, cX6_freeAllPages, 2, none, 0, 0)
abbrev mX6_markPagesOf : xMd := (yX6_markPagesOf, cX6_markPagesOf, 3, none, 2, 41)
abbrev mX6_takePage : xMd := (yX6_takePage, cX6_takePage, 2, (some .boolean), 0, 0)
abbrev mX6_takeLeastPage : xMd := (yX6_takeLeastPage, cX6_takeLeastPage, 2, (some .int), 1, 21)
abbrev mX6_load : xMd := (yX6_load, cX6_load, 5, (some .int), 5, 124)
abbrev mX6_rightSequence : xMd := (yX6_rightSequence, cX6_rightSequence, 4, (some .int), 3, 73)
abbrev mX6_loadBy : xMd := (yX6_loadBy, cX6_loadBy, 5, (some .boolean), 4, 100)
abbrev mX6_loadNode : xMd := (yX6_loadNode, cX6_loadNode, 6, (some .boolean), 3, 75)
abbrev mX6_hangListed : xMd := (yX6_hangListed, cX6_hangListed, 9, (some .boolean), 2, 47)
abbrev mX6_hangMapped : xMd := (yX6_hangMapped, cX6_hangMapped, 8, (some .boolean), 2, 47)
abbrev mX6_hangBehind : xMd := (yX6_hangBehind, cX6_hangBehind, 6, (some .boolean), 1, 22)
abbrev mX7_init : xMd := (yX7_init, cX7_init, 1, none, 1, 20)
abbrev mX7_isKey : xMd := (yX7_isKey, cX7_isKey, 1, (some .boolean), 0, 0)
abbrev mX7_byteAt : xMd := (yX7_byteAt, cX7_byteAt, 2, (some .int), 0, 0)
abbrev mX7_setByte : xMd := (yX7_setByte, cX7_setByte, 3, none, 0, 0)
abbrev mX7_append : xMd := (yX7_append, cX7_append, 2, none, 1, 22)
abbrev mX8_init : xMd := (yX8_init, cX8_init, 2, none, 2, 44)
abbrev mX8_clear : xMd := (yX8_clear, cX8_clear, 5, none, 1, 20)
abbrev mX8_take : xMd := (yX8_take, cX8_take, 2, (some (.object "RadixPages$Node")), 1, 20)
abbrev mX8_release : xMd := (yX8_release, cX8_release, 2, none, 0, 0)
abbrev mX8_seek : xMd := (yX8_seek, cX8_seek, 3, none, 3, 67)
abbrev mX8_stepFrom : xMd := (yX8_stepFrom, cX8_stepFrom, 4, (some (.object "RadixPages$Node")), 2, 44)
abbrev mX8_nodeOf : xMd := (yX8_nodeOf, cX8_nodeOf, 3, (some (.object "RadixPages$Node")), 4, 89)
abbrev mX8_store : xMd := (yX8_store, cX8_store, 4, (some .int), 5, 116)
abbrev mX8_storeFirst : xMd := (yX8_storeFirst, cX8_storeFirst, 5, (some .int), 2, 45)
abbrev mX8_storeHere : xMd := (yX8_storeHere, cX8_storeHere, 4, (some .int), 1, 22)
abbrev mX8_storeByChild : xMd := (yX8_storeByChild, cX8_storeByChild, 5, (some .int), 4, 89)
abbrev mX8_storeByCut : xMd := (yX8_storeByCut, cX8_storeByCut, 8, (some .int), 4, 89)
abbrev mX8_hang : xMd := (yX8_hang, cX8_hang, 7, none, 3, 63)
abbrev mX8_insertAbove : xMd := (yX8_insertAbove, cX8_insertAbove, 4, none, 3, 66)
abbrev mX8_putInPlace : xMd := (yX8_putInPlace, cX8_putInPlace, 3, none, 2, 44)
abbrev mX8_drop : xMd := (yX8_drop, cX8_drop, 3, (some .int), 5, 111)
abbrev mX8_detach : xMd := (yX8_detach, cX8_detach, 3, none, 4, 88)
abbrev mX8_join : xMd := (yX8_join, cX8_join, 3, none, 3, 66)
abbrev mX8_keysBetween : xMd := (yX8_keysBetween, cX8_keysBetween, 4, (some .int), 2, 41)
abbrev mX8_keysUnder : xMd := (yX8_keysUnder, cX8_keysUnder, 2, (some .int), 4, 89)
abbrev mX8_keysAhead : xMd := (yX8_keysAhead, cX8_keysAhead, 2, (some .int), 4, 89)
abbrev mX8_firstNotAhead : xMd := (yX8_firstNotAhead, cX8_firstNotAhead, 4, (some (.object "RadixPages$Node")), 1, 22)
abbrev mX8_keyNumber : xMd := (yX8_keyNumber, cX8_keyNumber, 4, (some (.object "RadixPages$Node")), 2, 41)
abbrev mX8_nodeNumber : xMd := (yX8_nodeNumber, cX8_nodeNumber, 4, (some (.object "RadixPages$Node")), 2, 41)
abbrev mX8_nodesOfFormat : xMd := (yX8_nodesOfFormat, cX8_nodesOfFormat, 4, (some .int), 2, 41)
abbrev mX8_freshNodes : xMd := (yX8_freshNodes, cX8_freshNodes, 3, (some .int), 2, 41)
abbrev mX8_nodesOnPages : xMd := (yX8_nodesOnPages, cX8_nodesOnPages, 3, (some .int), 2, 41)
abbrev mX8_depth : xMd := (yX8_depth, cX8_depth, 3, (some .int), 2, 41)
abbrev mX8_settle : xMd := (yX8_settle, cX8_settle, 2, none, 2, 41)
abbrev mX8_become : xMd := (yX8_become, cX8_become, 3, none, 2, 44)
abbrev mX9_init : xMd := (yX9_init, cX9_init, 1, none, 3, 65)
abbrev mX9_type : xMd := (yX9_type, cX9_type, 5, (some .int), 5, 128)
abbrev mX9_cut : xMd := (yX9_cut, cX9_cut, 3, (some .int), 5, 128)
abbrev mX9_tapeAt : xMd := (yX9_tapeAt, cX9_tapeAt, 2, (some .int), 1, 21)
abbrev mX9_put : xMd := (yX9_put, cX9_put, 3, (some .int), 6, 139)
abbrev mX9_remove : xMd := (yX9_remove, cX9_remove, 1, (some .int), 6, 133)
abbrev mX9_get : xMd := (yX9_get, cX9_get, 2, (some .long), 5, 111)
abbrev mX9_with : xMd := (yX9_with, cX9_with, 1, (some .int), 5, 110)
abbrev mX9_before : xMd := (yX9_before, cX9_before, 1, (some .int), 5, 110)
abbrev mX9_nth : xMd := (yX9_nth, cX9_nth, 3, (some .int), 3, 64)
abbrev mX9_commit : xMd := (yX9_commit, cX9_commit, 2, (some .int), 5, 116)
abbrev mX9_back : xMd := (yX9_back, cX9_back, 2, (some .int), 3, 66)
abbrev mX9_count : xMd := (yX9_count, cX9_count, 2, (some .int), 4, 83)
abbrev mX9_node : xMd := (yX9_node, cX9_node, 4, (some .int), 3, 64)
abbrev mX9_power : xMd := (yX9_power, cX9_power, 3, (some .int), 1, 22)
abbrev mX9_start : xMd := (yX9_start, cX9_start, 1, (some .int), 6, 148)
abbrev mX9_halt : xMd := (yX9_halt, cX9_halt, 1, (some .int), 0, 0)
abbrev mX9_octet : xMd := (yX9_octet, cX9_octet, 3, (some .int), 5, 128)
abbrev mX9_poke : xMd := (yX9_poke, cX9_poke, 4, (some .int), 5, 128)
abbrev mX9_freePages : xMd := (yX9_freePages, cX9_freePages, 1, (some .int), 3, 63)
abbrev mX10_init : xMd := (yX10_init, cX10_init, 1, none, 2, 44)
abbrev mX10_thrown : xMd := (yX10_thrown, cX10_thrown, 1, (some .int), 0, 0)
abbrev mX10_in : xMd := (yX10_in, cX10_in, 6, (some .boolean), 0, 0)
abbrev mX10_clear : xMd := (yX10_clear, cX10_clear, 2, none, 1, 23)
abbrev mX10_copy : xMd := (yX10_copy, cX10_copy, 5, none, 0, 0)
abbrev mX10_keep : xMd := (yX10_keep, cX10_keep, 1, none, 1, 24)
abbrev mX10_type : xMd := (yX10_type, cX10_type, 5, (some .int), 1, 25)
abbrev mX10_cut : xMd := (yX10_cut, cX10_cut, 3, (some .int), 1, 25)
abbrev mX10_tapeAt : xMd := (yX10_tapeAt, cX10_tapeAt, 2, (some .int), 1, 25)
abbrev mX10_newNode : xMd := (yX10_newNode, cX10_newNode, 4, (some .int), 0, 0)
abbrev mX10_nodes : xMd := (yX10_nodes, cX10_nodes, 3, (some .int), 0, 0)
abbrev mX10_childFrom : xMd := (yX10_childFrom, cX10_childFrom, 5, (some .int), 0, 0)
abbrev mX10_child : xMd := (yX10_child, cX10_child, 4, (some .int), 1, 24)
abbrev mX10_children : xMd := (yX10_children, cX10_children, 4, (some .int), 0, 0)
abbrev mX10_room : xMd := (yX10_room, cX10_room, 1, (some .int), 0, 0)
abbrev mX10_next : xMd := (yX10_next, cX10_next, 4, (some .int), 1, 24)
abbrev mX10_freshen : xMd := (yX10_freshen, cX10_freshen, 3, none, 0, 0)
abbrev mX10_lead : xMd := (yX10_lead, cX10_lead, 4, (some .int), 0, 0)
abbrev mX10_seek : xMd := (yX10_seek, cX10_seek, 3, none, 2, 47)
abbrev mX10_isFound : xMd := (yX10_isFound, cX10_isFound, 1, (some .boolean), 3, 69)
abbrev mX10_setPrefix : xMd := (yX10_setPrefix, cX10_setPrefix, 4, none, 0, 0)
abbrev mX10_give : xMd := (yX10_give, cX10_give, 4, none, 0, 0)
abbrev mX10_isKey : xMd := (yX10_isKey, cX10_isKey, 1, (some .boolean), 0, 0)
abbrev mX10_put : xMd := (yX10_put, cX10_put, 6, (some .int), 4, 89)
abbrev mX10_cutInTwo : xMd := (yX10_cutInTwo, cX10_cutInTwo, 4, none, 1, 23)
abbrev mX10_remove : xMd := (yX10_remove, cX10_remove, 4, (some .int), 4, 89)
abbrev mX10_putTogether : xMd := (yX10_putTogether, cX10_putTogether, 5, none, 1, 24)
abbrev mX10_get : xMd := (yX10_get, cX10_get, 1, (some .long), 4, 89)
abbrev mX10_tell : xMd := (yX10_tell, cX10_tell, 5, none, 1, 23)
abbrev mX10_begins : xMd := (yX10_begins, cX10_begins, 3, (some .boolean), 0, 0)
abbrev mX10_isBefore : xMd := (yX10_isBefore, cX10_isBefore, 2, (some .boolean), 0, 0)
abbrev mX10_with : xMd := (yX10_with, cX10_with, 1, (some .int), 3, 70)
abbrev mX10_countKeys : xMd := (yX10_countKeys, cX10_countKeys, 4, (some .int), 2, 47)
abbrev mX10_before : xMd := (yX10_before, cX10_before, 1, (some .int), 3, 70)
abbrev mX10_keys : xMd := (yX10_keys, cX10_keys, 3, (some .int), 0, 0)
abbrev mX10_nth : xMd := (yX10_nth, cX10_nth, 5, (some .int), 2, 47)
abbrev mX10_sum : xMd := (yX10_sum, cX10_sum, 5, (some .long), 0, 0)
abbrev mX10_number : xMd := (yX10_number, cX10_number, 6, none, 0, 0)
abbrev mX10_write : xMd := (yX10_write, cX10_write, 5, (some .boolean), 1, 25)
abbrev mX10_beginSheet : xMd := (yX10_beginSheet, cX10_beginSheet, 2, none, 0, 0)
abbrev mX10_writeNode : xMd := (yX10_writeNode, cX10_writeNode, 4, (some .boolean), 2, 49)
abbrev mX10_deepest : xMd := (yX10_deepest, cX10_deepest, 4, (some .int), 1, 24)
abbrev mX10_freshMany : xMd := (yX10_freshMany, cX10_freshMany, 3, (some .int), 0, 0)
abbrev mX10_findTaken : xMd := (yX10_findTaken, cX10_findTaken, 3, (some .int), 0, 0)
abbrev mX10_commit : xMd := (yX10_commit, cX10_commit, 4, (some .int), 3, 72)
abbrev mX10_back : xMd := (yX10_back, cX10_back, 2, (some .int), 1, 24)
abbrev mX10_depth : xMd := (yX10_depth, cX10_depth, 5, (some .int), 0, 0)
abbrev mX10_count : xMd := (yX10_count, cX10_count, 4, (some .int), 1, 24)
abbrev mX10_node : xMd := (yX10_node, cX10_node, 3, (some .int), 3, 71)
abbrev mX10_ofNode : xMd := (yX10_ofNode, cX10_ofNode, 5, (some .int), 2, 47)
abbrev mX10_power : xMd := (yX10_power, cX10_power, 3, (some .int), 1, 25)
abbrev mX10_halt : xMd := (yX10_halt, cX10_halt, 1, (some .int), 0, 0)
abbrev mX10_numberAt : xMd := (yX10_numberAt, cX10_numberAt, 6, (some .long), 0, 0)
abbrev mX10_headOf : xMd := (yX10_headOf, cX10_headOf, 7, (some .long), 1, 25)
abbrev mX10_readNode : xMd := (yX10_readNode, cX10_readNode, 11, (some .boolean), 2, 54)
abbrev mX10_readChildren : xMd := (yX10_readChildren, cX10_readChildren, 12, (some .boolean), 1, 23)
abbrev mX10_readTree : xMd := (yX10_readTree, cX10_readTree, 5, (some .boolean), 3, 84)
abbrev mX10_start : xMd := (yX10_start, cX10_start, 11, (some .int), 4, 108)
abbrev mX10_octet : xMd := (yX10_octet, cX10_octet, 3, (some .int), 1, 25)
abbrev mX10_poke : xMd := (yX10_poke, cX10_poke, 4, (some .int), 1, 25)
abbrev mL_type : xMd := (yL_type, cL_type, 6, (some .int), 6, 152)
abbrev mL_cut : xMd := (yL_cut, cL_cut, 4, (some .int), 6, 150)
abbrev mL_octet : xMd := (yL_octet, cL_octet, 5, (some .int), 6, 150)
abbrev mL_poke : xMd := (yL_poke, cL_poke, 6, (some .int), 6, 151)
theorem lays0 : ∀ w ∈ u_ws RX0 TX0 3, w ∈ gl := fun w h => List.mem_filter.mpr ⟨(by decide +kernel : ∀ w ∈ u_ws RX0 TX0 3, w ∈ lw_tbl) w h, (by decide +kernel : ∀ w ∈ u_ws RX0 TX0 3, goodWord w = true) w h⟩
theorem lays3 : ∀ w ∈ u_ws RX3 TX3 13, w ∈ gl := fun w h => List.mem_filter.mpr ⟨(by decide +kernel : ∀ w ∈ u_ws RX3 TX3 13, w ∈ lw_tbl) w h, (by decide +kernel : ∀ w ∈ u_ws RX3 TX3 13, goodWord w = true) w h⟩
theorem lays5 : ∀ w ∈ u_ws RX5 TX5 1, w ∈ gl := fun w h => List.mem_filter.mpr ⟨(by decide +kernel : ∀ w ∈ u_ws RX5 TX5 1, w ∈ lw_tbl) w h, (by decide +kernel : ∀ w ∈ u_ws RX5 TX5 1, goodWord w = true) w h⟩
theorem lays6 : ∀ w ∈ u_ws RX6 TX6 4, w ∈ gl := fun w h => List.mem_filter.mpr ⟨(by decide +kernel : ∀ w ∈ u_ws RX6 TX6 4, w ∈ lw_tbl) w h, (by decide +kernel : ∀ w ∈ u_ws RX6 TX6 4, goodWord w = true) w h⟩
theorem lays7 : ∀ w ∈ u_ws RX7 TX7 2, w ∈ gl := fun w h => List.mem_filter.mpr ⟨(by decide +kernel : ∀ w ∈ u_ws RX7 TX7 2, w ∈ lw_tbl) w h, (by decide +kernel : ∀ w ∈ u_ws RX7 TX7 2, goodWord w = true) w h⟩
theorem lays8 : ∀ w ∈ u_ws RX8 TX8 8, w ∈ gl := fun w h => List.mem_filter.mpr ⟨(by decide +kernel : ∀ w ∈ u_ws RX8 TX8 8, w ∈ lw_tbl) w h, (by decide +kernel : ∀ w ∈ u_ws RX8 TX8 8, goodWord w = true) w h⟩
theorem lays9 : ∀ w ∈ u_ws RX9 TX9 6, w ∈ gl := fun w h => List.mem_filter.mpr ⟨(by decide +kernel : ∀ w ∈ u_ws RX9 TX9 6, w ∈ lw_tbl) w h, (by decide +kernel : ∀ w ∈ u_ws RX9 TX9 6, goodWord w = true) w h⟩
theorem lays10 : ∀ w ∈ u_ws RX10 TX10 27, w ∈ gl := fun w h => List.mem_filter.mpr ⟨(by decide +kernel : ∀ w ∈ u_ws RX10 TX10 27, w ∈ lw_tbl) w h, (by decide +kernel : ∀ w ∈ u_ws RX10 TX10 27, goodWord w = true) w h⟩
theorem code_X0_init : Cond.code mX0_init.1 mX0_init.2.1 mX0_init.2.2.1 mX0_init.2.2.2.1 ∈ gl := gl_mem 247 (by decide +kernel) (by decide +kernel)
theorem code_X0_has : Cond.code mX0_has.1 mX0_has.2.1 mX0_has.2.2.1 mX0_has.2.2.2.1 ∈ gl := gl_mem 612 (by decide +kernel) (by decide +kernel)
theorem code_X0_byteAt : Cond.code mX0_byteAt.1 mX0_byteAt.2.1 mX0_byteAt.2.2.1 mX0_byteAt.2.2.2.1 ∈ gl := gl_mem 901 (by decide +kernel) (by decide +kernel)
theorem code_X0_setByte : Cond.code mX0_setByte.1 mX0_setByte.2.1 mX0_setByte.2.2.1 mX0_setByte.2.2.2.1 ∈ gl := gl_mem 619 (by decide +kernel) (by decide +kernel)
theorem code_X0_setPower : Cond.code mX0_setPower.1 mX0_setPower.2.1 mX0_setPower.2.2.1 mX0_setPower.2.2.2.1 ∈ gl := gl_mem 684 (by decide +kernel) (by decide +kernel)
theorem code_X0_read : Cond.code mX0_read.1 mX0_read.2.1 mX0_read.2.2.1 mX0_read.2.2.2.1 ∈ gl := gl_mem 700 (by decide +kernel) (by decide +kernel)
theorem code_X0_write : Cond.code mX0_write.1 mX0_write.2.1 mX0_write.2.2.1 mX0_write.2.2.2.1 ∈ gl := gl_mem 609 (by decide +kernel) (by decide +kernel)
theorem code_X1_is : Cond.code mX1_is.1 mX1_is.2.1 mX1_is.2.2.1 mX1_is.2.2.2.1 ∈ gl := gl_mem 739 (by decide +kernel) (by decide +kernel)
theorem code_X1_mostChildren : Cond.code mX1_mostChildren.1 mX1_mostChildren.2.1 mX1_mostChildren.2.2.1 mX1_mostChildren.2.2.2.1 ∈ gl := gl_mem 422 (by decide +kernel) (by decide +kernel)
theorem code_X1_grown : Cond.code mX1_grown.1 mX1_grown.2.1 mX1_grown.2.2.1 mX1_grown.2.2.2.1 ∈ gl := gl_mem 419 (by decide +kernel) (by decide +kernel)
theorem code_X1_shrunk : Cond.code mX1_shrunk.1 mX1_shrunk.2.1 mX1_shrunk.2.2.1 mX1_shrunk.2.2.2.1 ∈ gl := gl_mem 474 (by decide +kernel) (by decide +kernel)
theorem code_X2_fill : Cond.code mX2_fill.1 mX2_fill.2.1 mX2_fill.2.2.1 mX2_fill.2.2.2.1 ∈ gl := gl_mem 627 (by decide +kernel) (by decide +kernel)
theorem code_X2_sequence : Cond.code mX2_sequence.1 mX2_sequence.2.1 mX2_sequence.2.2.1 mX2_sequence.2.2.2.1 ∈ gl := gl_mem 703 (by decide +kernel) (by decide +kernel)
theorem code_X2_rootPage : Cond.code mX2_rootPage.1 mX2_rootPage.2.1 mX2_rootPage.2.2.1 mX2_rootPage.2.2.2.1 ∈ gl := gl_mem 716 (by decide +kernel) (by decide +kernel)
theorem code_X2_keys : Cond.code mX2_keys.1 mX2_keys.2.1 mX2_keys.2.2.1 mX2_keys.2.2.2.1 ∈ gl := gl_mem 720 (by decide +kernel) (by decide +kernel)
theorem code_X3_init : Cond.code mX3_init.1 mX3_init.2.1 mX3_init.2.2.1 mX3_init.2.2.2.1 ∈ gl := gl_mem 122 (by decide +kernel) (by decide +kernel)
theorem code_X3_reset : Cond.code mX3_reset.1 mX3_reset.2.1 mX3_reset.2.2.1 mX3_reset.2.2.2.1 ∈ gl := gl_mem 127 (by decide +kernel) (by decide +kernel)
theorem code_X3_prefixAt : Cond.code mX3_prefixAt.1 mX3_prefixAt.2.1 mX3_prefixAt.2.2.1 mX3_prefixAt.2.2.2.1 ∈ gl := gl_mem 363 (by decide +kernel) (by decide +kernel)
theorem code_X3_setPrefixAt : Cond.code mX3_setPrefixAt.1 mX3_setPrefixAt.2.1 mX3_setPrefixAt.2.2.1 mX3_setPrefixAt.2.2.2.1 ∈ gl := gl_mem 339 (by decide +kernel) (by decide +kernel)
theorem code_X3_appendToPrefix : Cond.code mX3_appendToPrefix.1 mX3_appendToPrefix.2.1 mX3_appendToPrefix.2.2.1 mX3_appendToPrefix.2.2.2.1 ∈ gl := gl_mem 335 (by decide +kernel) (by decide +kernel)
theorem code_X3_dropFromPrefix : Cond.code mX3_dropFromPrefix.1 mX3_dropFromPrefix.2.1 mX3_dropFromPrefix.2.2.1 mX3_dropFromPrefix.2.2.2.1 ∈ gl := gl_mem 409 (by decide +kernel) (by decide +kernel)
theorem code_X3_takePrefixOfParent : Cond.code mX3_takePrefixOfParent.1 mX3_takePrefixOfParent.2.1 mX3_takePrefixOfParent.2.2.1 mX3_takePrefixOfParent.2.2.2.1 ∈ gl := gl_mem 456 (by decide +kernel) (by decide +kernel)
theorem code_X3_matching : Cond.code mX3_matching.1 mX3_matching.2.1 mX3_matching.2.2.1 mX3_matching.2.2.2.1 ∈ gl := gl_mem 359 (by decide +kernel) (by decide +kernel)
theorem code_X3_setValue : Cond.code mX3_setValue.1 mX3_setValue.2.1 mX3_setValue.2.2.1 mX3_setValue.2.2.2.1 ∈ gl := gl_mem 347 (by decide +kernel) (by decide +kernel)
theorem code_X3_loseValue : Cond.code mX3_loseValue.1 mX3_loseValue.2.1 mX3_loseValue.2.2.1 mX3_loseValue.2.2.2.1 ∈ gl := gl_mem 448 (by decide +kernel) (by decide +kernel)
theorem code_X3_lastBelow : Cond.code mX3_lastBelow.1 mX3_lastBelow.2.1 mX3_lastBelow.2.2.1 mX3_lastBelow.2.2.2.1 ∈ gl := gl_mem 401 (by decide +kernel) (by decide +kernel)
theorem code_X3_firstFrom : Cond.code mX3_firstFrom.1 mX3_firstFrom.2.1 mX3_firstFrom.2.2.1 mX3_firstFrom.2.2.2.1 ∈ gl := gl_mem 376 (by decide +kernel) (by decide +kernel)
theorem code_X3_childBy : Cond.code mX3_childBy.1 mX3_childBy.2.1 mX3_childBy.2.2.1 mX3_childBy.2.2.2.1 ∈ gl := gl_mem 372 (by decide +kernel) (by decide +kernel)
theorem code_X3_setNextOf : Cond.code mX3_setNextOf.1 mX3_setNextOf.2.1 mX3_setNextOf.2.2.1 mX3_setNextOf.2.2.2.1 ∈ gl := gl_mem 405 (by decide +kernel) (by decide +kernel)
theorem code_X3_gain : Cond.code mX3_gain.1 mX3_gain.2.1 mX3_gain.2.2.1 mX3_gain.2.2.2.1 ∈ gl := gl_mem 416 (by decide +kernel) (by decide +kernel)
theorem code_X3_lose : Cond.code mX3_lose.1 mX3_lose.2.1 mX3_lose.2.2.1 mX3_lose.2.2.2.1 ∈ gl := gl_mem 471 (by decide +kernel) (by decide +kernel)
theorem code_X3_yieldTo : Cond.code mX3_yieldTo.1 mX3_yieldTo.2.1 mX3_yieldTo.2.2.1 mX3_yieldTo.2.2.2.1 ∈ gl := gl_mem 397 (by decide +kernel) (by decide +kernel)
theorem code_X3_freshen : Cond.code mX3_freshen.1 mX3_freshen.2.1 mX3_freshen.2.2.1 mX3_freshen.2.2.2.1 ∈ gl := gl_mem 351 (by decide +kernel) (by decide +kernel)
theorem code_X3_following : Cond.code mX3_following.1 mX3_following.2.1 mX3_following.2.2.1 mX3_following.2.2.2.1 ∈ gl := gl_mem 500 (by decide +kernel) (by decide +kernel)
theorem code_X3_behind : Cond.code mX3_behind.1 mX3_behind.2.1 mX3_behind.2.2.1 mX3_behind.2.2.2.1 ∈ gl := gl_mem 493 (by decide +kernel) (by decide +kernel)
theorem code_X3_lowest : Cond.code mX3_lowest.1 mX3_lowest.2.1 mX3_lowest.2.2.1 mX3_lowest.2.2.2.1 ∈ gl := gl_mem 571 (by decide +kernel) (by decide +kernel)
theorem code_X3_above : Cond.code mX3_above.1 mX3_above.2.1 mX3_above.2.2.1 mX3_above.2.2.2.1 ∈ gl := gl_mem 623 (by decide +kernel) (by decide +kernel)
theorem code_X3_lead : Cond.code mX3_lead.1 mX3_lead.2.1 mX3_lead.2.2.1 mX3_lead.2.2.2.1 ∈ gl := gl_mem 530 (by decide +kernel) (by decide +kernel)
theorem code_X3_level : Cond.code mX3_level.1 mX3_level.2.1 mX3_level.2.2.1 mX3_level.2.2.2.1 ∈ gl := gl_mem 666 (by decide +kernel) (by decide +kernel)
theorem code_X3_spell : Cond.code mX3_spell.1 mX3_spell.2.1 mX3_spell.2.2.1 mX3_spell.2.2.2.1 ∈ gl := gl_mem 526 (by decide +kernel) (by decide +kernel)
theorem code_X3_hasReason : Cond.code mX3_hasReason.1 mX3_hasReason.2.1 mX3_hasReason.2.2.1 mX3_hasReason.2.2.2.1 ∈ gl := gl_mem 762 (by decide +kernel) (by decide +kernel)
theorem code_X3_twinOf : Cond.code mX3_twinOf.1 mX3_twinOf.2.1 mX3_twinOf.2.2.1 mX3_twinOf.2.2.2.1 ∈ gl := gl_mem 646 (by decide +kernel) (by decide +kernel)
theorem code_X3_mirror : Cond.code mX3_mirror.1 mX3_mirror.2.1 mX3_mirror.2.2.1 mX3_mirror.2.2.2.1 ∈ gl := gl_mem 643 (by decide +kernel) (by decide +kernel)
theorem code_X4_fill : Cond.code mX4_fill.1 mX4_fill.2.1 mX4_fill.2.2.1 mX4_fill.2.2.2.1 ∈ gl := gl_mem 582 (by decide +kernel) (by decide +kernel)
theorem code_X4_fillTable : Cond.code mX4_fillTable.1 mX4_fillTable.2.1 mX4_fillTable.2.2.1 mX4_fillTable.2.2.2.1 ∈ gl := gl_mem 598 (by decide +kernel) (by decide +kernel)
theorem code_X5_init : Cond.code mX5_init.1 mX5_init.2.1 mX5_init.2.2.1 mX5_init.2.2.2.1 ∈ gl := gl_mem 265 (by decide +kernel) (by decide +kernel)
theorem code_X5_at : Cond.code mX5_at.1 mX5_at.2.1 mX5_at.2.2.1 mX5_at.2.2.2.1 ∈ gl := gl_mem 711 (by decide +kernel) (by decide +kernel)
theorem code_X5_set : Cond.code mX5_set.1 mX5_set.2.1 mX5_set.2.2.1 mX5_set.2.2.2.1 ∈ gl := gl_mem 590 (by decide +kernel) (by decide +kernel)
theorem code_X5_longAt : Cond.code mX5_longAt.1 mX5_longAt.2.1 mX5_longAt.2.2.1 mX5_longAt.2.2.2.1 ∈ gl := gl_mem 707 (by decide +kernel) (by decide +kernel)
theorem code_X5_setLong : Cond.code mX5_setLong.1 mX5_setLong.2.1 mX5_setLong.2.2.1 mX5_setLong.2.2.2.1 ∈ gl := gl_mem 594 (by decide +kernel) (by decide +kernel)
theorem code_X5_wipe : Cond.code mX5_wipe.1 mX5_wipe.2.1 mX5_wipe.2.2.1 mX5_wipe.2.2.2.1 ∈ gl := gl_mem 586 (by decide +kernel) (by decide +kernel)
theorem code_X5_seal : Cond.code mX5_seal.1 mX5_seal.2.1 mX5_seal.2.2.1 mX5_seal.2.2.2.1 ∈ gl := gl_mem 603 (by decide +kernel) (by decide +kernel)
theorem code_X5_same : Cond.code mX5_same.1 mX5_same.2.1 mX5_same.2.2.1 mX5_same.2.2.2.1 ∈ gl := gl_mem 724 (by decide +kernel) (by decide +kernel)
theorem code_X6_init : Cond.code mX6_init.1 mX6_init.2.1 mX6_init.2.2.1 mX6_init.2.2.2.1 ∈ gl := gl_mem 241 (by decide +kernel) (by decide +kernel)
theorem code_X6_save : Cond.code mX6_save.1 mX6_save.2.1 mX6_save.2.2.1 mX6_save.2.2.2.1 ∈ gl := gl_mem 554 (by decide +kernel) (by decide +kernel)
theorem code_X6_saveNode : Cond.code mX6_saveNode.1 mX6_saveNode.2.1 mX6_saveNode.2.2.1 mX6_saveNode.2.2.2.1 ∈ gl := gl_mem 575 (by decide +kernel) (by decide +kernel)
theorem code_X6_freeAllPages : Cond.code mX6_freeAllPages.1 mX6_freeAllPages.2.1 mX6_freeAllPages.2.2.1 mX6_freeAllPages.2.2.2.1 ∈ gl := gl_mem 562 (by decide +kernel) (by decide +kernel)
theorem code_X6_markPagesOf : Cond.code mX6_markPagesOf.1 mX6_markPagesOf.2.1 mX6_markPagesOf.2.2.1 mX6_markPagesOf.2.2.2.1 ∈ gl := gl_mem 558 (by decide +kernel) (by decide +kernel)
theorem code_X6_takePage : Cond.code mX6_takePage.1 mX6_takePage.2.1 mX6_takePage.2.2.1 mX6_takePage.2.2.2.1 ∈ gl := gl_mem 566 (by decide +kernel) (by decide +kernel)
theorem code_X6_takeLeastPage : Cond.code mX6_takeLeastPage.1 mX6_takeLeastPage.2.1 mX6_takeLeastPage.2.2.1 mX6_takeLeastPage.2.2.2.1 ∈ gl := gl_mem 579 (by decide +kernel) (by decide +kernel)
theorem code_X6_load : Cond.code mX6_load.1 mX6_load.2.1 mX6_load.2.2.1 mX6_load.2.2.2.1 ∈ gl := gl_mem 692 (by decide +kernel) (by decide +kernel)
theorem code_X6_rightSequence : Cond.code mX6_rightSequence.1 mX6_rightSequence.2.1 mX6_rightSequence.2.2.1 mX6_rightSequence.2.2.2.1 ∈ gl := gl_mem 696 (by decide +kernel) (by decide +kernel)
theorem code_X6_loadBy : Cond.code mX6_loadBy.1 mX6_loadBy.2.1 mX6_loadBy.2.2.1 mX6_loadBy.2.2.2.1 ∈ gl := gl_mem 729 (by decide +kernel) (by decide +kernel)
theorem code_X6_loadNode : Cond.code mX6_loadNode.1 mX6_loadNode.2.1 mX6_loadNode.2.2.1 mX6_loadNode.2.2.2.1 ∈ gl := gl_mem 734 (by decide +kernel) (by decide +kernel)
theorem code_X6_hangListed : Cond.code mX6_hangListed.1 mX6_hangListed.2.1 mX6_hangListed.2.2.1 mX6_hangListed.2.2.2.1 ∈ gl := gl_mem 747 (by decide +kernel) (by decide +kernel)
theorem code_X6_hangMapped : Cond.code mX6_hangMapped.1 mX6_hangMapped.2.1 mX6_hangMapped.2.2.1 mX6_hangMapped.2.2.2.1 ∈ gl := gl_mem 757 (by decide +kernel) (by decide +kernel)
theorem code_X6_hangBehind : Cond.code mX6_hangBehind.1 mX6_hangBehind.2.1 mX6_hangBehind.2.2.1 mX6_hangBehind.2.2.2.1 ∈ gl := gl_mem 752 (by decide +kernel) (by decide +kernel)
theorem code_X7_init : Cond.code mX7_init.1 mX7_init.2.1 mX7_init.2.2.1 mX7_init.2.2.2.1 ∈ gl := gl_mem 98 (by decide +kernel) (by decide +kernel)
theorem code_X7_isKey : Cond.code mX7_isKey.1 mX7_isKey.2.1 mX7_isKey.2.2.1 mX7_isKey.2.2.2.1 ∈ gl := gl_mem 321 (by decide +kernel) (by decide +kernel)
theorem code_X7_byteAt : Cond.code mX7_byteAt.1 mX7_byteAt.2.1 mX7_byteAt.2.2.1 mX7_byteAt.2.2.2.1 ∈ gl := gl_mem 313 (by decide +kernel) (by decide +kernel)
theorem code_X7_setByte : Cond.code mX7_setByte.1 mX7_setByte.2.1 mX7_setByte.2.2.1 mX7_setByte.2.2.2.1 ∈ gl := gl_mem 534 (by decide +kernel) (by decide +kernel)
theorem code_X7_append : Cond.code mX7_append.1 mX7_append.2.1 mX7_append.2.2.1 mX7_append.2.2.2.1 ∈ gl := gl_mem 863 (by decide +kernel) (by decide +kernel)
theorem code_X8_init : Cond.code mX8_init.1 mX8_init.2.1 mX8_init.2.2.1 mX8_init.2.2.2.1 ∈ gl := gl_mem 115 (by decide +kernel) (by decide +kernel)
theorem code_X8_clear : Cond.code mX8_clear.1 mX8_clear.2.1 mX8_clear.2.2.1 mX8_clear.2.2.2.1 ∈ gl := gl_mem 205 (by decide +kernel) (by decide +kernel)
theorem code_X8_take : Cond.code mX8_take.1 mX8_take.2.1 mX8_take.2.2.1 mX8_take.2.2.2.1 ∈ gl := gl_mem 384 (by decide +kernel) (by decide +kernel)
theorem code_X8_release : Cond.code mX8_release.1 mX8_release.2.1 mX8_release.2.2.1 mX8_release.2.2.2.1 ∈ gl := gl_mem 463 (by decide +kernel) (by decide +kernel)
theorem code_X8_seek : Cond.code mX8_seek.1 mX8_seek.2.1 mX8_seek.2.2.1 mX8_seek.2.2.2.1 ∈ gl := gl_mem 355 (by decide +kernel) (by decide +kernel)
theorem code_X8_stepFrom : Cond.code mX8_stepFrom.1 mX8_stepFrom.2.1 mX8_stepFrom.2.2.1 mX8_stepFrom.2.2.2.1 ∈ gl := gl_mem 368 (by decide +kernel) (by decide +kernel)
theorem code_X8_nodeOf : Cond.code mX8_nodeOf.1 mX8_nodeOf.2.1 mX8_nodeOf.2.2.1 mX8_nodeOf.2.2.2.1 ∈ gl := gl_mem 444 (by decide +kernel) (by decide +kernel)
theorem code_X8_store : Cond.code mX8_store.1 mX8_store.2.1 mX8_store.2.2.1 mX8_store.2.2.2.1 ∈ gl := gl_mem 326 (by decide +kernel) (by decide +kernel)
theorem code_X8_storeFirst : Cond.code mX8_storeFirst.1 mX8_storeFirst.2.1 mX8_storeFirst.2.2.1 mX8_storeFirst.2.2.2.1 ∈ gl := gl_mem 330 (by decide +kernel) (by decide +kernel)
theorem code_X8_storeHere : Cond.code mX8_storeHere.1 mX8_storeHere.2.1 mX8_storeHere.2.2.1 mX8_storeHere.2.2.2.1 ∈ gl := gl_mem 343 (by decide +kernel) (by decide +kernel)
theorem code_X8_storeByChild : Cond.code mX8_storeByChild.1 mX8_storeByChild.2.1 mX8_storeByChild.2.2.1 mX8_storeByChild.2.2.2.1 ∈ gl := gl_mem 432 (by decide +kernel) (by decide +kernel)
theorem code_X8_storeByCut : Cond.code mX8_storeByCut.1 mX8_storeByCut.2.1 mX8_storeByCut.2.2.1 mX8_storeByCut.2.2.2.1 ∈ gl := gl_mem 380 (by decide +kernel) (by decide +kernel)
theorem code_X8_hang : Cond.code mX8_hang.1 mX8_hang.2.1 mX8_hang.2.2.1 mX8_hang.2.2.2.1 ∈ gl := gl_mem 428 (by decide +kernel) (by decide +kernel)
theorem code_X8_insertAbove : Cond.code mX8_insertAbove.1 mX8_insertAbove.2.1 mX8_insertAbove.2.2.1 mX8_insertAbove.2.2.2.1 ∈ gl := gl_mem 388 (by decide +kernel) (by decide +kernel)
theorem code_X8_putInPlace : Cond.code mX8_putInPlace.1 mX8_putInPlace.2.1 mX8_putInPlace.2.2.1 mX8_putInPlace.2.2.2.1 ∈ gl := gl_mem 393 (by decide +kernel) (by decide +kernel)
theorem code_X8_drop : Cond.code mX8_drop.1 mX8_drop.2.1 mX8_drop.2.2.1 mX8_drop.2.2.2.1 ∈ gl := gl_mem 440 (by decide +kernel) (by decide +kernel)
theorem code_X8_detach : Cond.code mX8_detach.1 mX8_detach.2.1 mX8_detach.2.2.1 mX8_detach.2.2.2.1 ∈ gl := gl_mem 467 (by decide +kernel) (by decide +kernel)
theorem code_X8_join : Cond.code mX8_join.1 mX8_join.2.1 mX8_join.2.2.1 mX8_join.2.2.2.1 ∈ gl := gl_mem 452 (by decide +kernel) (by decide +kernel)
theorem code_X8_keysBetween : Cond.code mX8_keysBetween.1 mX8_keysBetween.2.1 mX8_keysBetween.2.2.1 mX8_keysBetween.2.2.2.1 ∈ gl := gl_mem 496 (by decide +kernel) (by decide +kernel)
theorem code_X8_keysUnder : Cond.code mX8_keysUnder.1 mX8_keysUnder.2.1 mX8_keysUnder.2.2.1 mX8_keysUnder.2.2.2.1 ∈ gl := gl_mem 489 (by decide +kernel) (by decide +kernel)
theorem code_X8_keysAhead : Cond.code mX8_keysAhead.1 mX8_keysAhead.2.1 mX8_keysAhead.2.2.1 mX8_keysAhead.2.2.2.1 ∈ gl := gl_mem 509 (by decide +kernel) (by decide +kernel)
theorem code_X8_firstNotAhead : Cond.code mX8_firstNotAhead.1 mX8_firstNotAhead.2.1 mX8_firstNotAhead.2.2.1 mX8_firstNotAhead.2.2.2.1 ∈ gl := gl_mem 513 (by decide +kernel) (by decide +kernel)
theorem code_X8_keyNumber : Cond.code mX8_keyNumber.1 mX8_keyNumber.2.1 mX8_keyNumber.2.2.1 mX8_keyNumber.2.2.2.1 ∈ gl := gl_mem 522 (by decide +kernel) (by decide +kernel)
theorem code_X8_nodeNumber : Cond.code mX8_nodeNumber.1 mX8_nodeNumber.2.1 mX8_nodeNumber.2.2.1 mX8_nodeNumber.2.2.2.1 ∈ gl := gl_mem 675 (by decide +kernel) (by decide +kernel)
theorem code_X8_nodesOfFormat : Cond.code mX8_nodesOfFormat.1 mX8_nodesOfFormat.2.1 mX8_nodesOfFormat.2.2.1 mX8_nodesOfFormat.2.2.2.1 ∈ gl := gl_mem 658 (by decide +kernel) (by decide +kernel)
theorem code_X8_freshNodes : Cond.code mX8_freshNodes.1 mX8_freshNodes.2.1 mX8_freshNodes.2.2.1 mX8_freshNodes.2.2.2.1 ∈ gl := gl_mem 542 (by decide +kernel) (by decide +kernel)
theorem code_X8_nodesOnPages : Cond.code mX8_nodesOnPages.1 mX8_nodesOnPages.2.1 mX8_nodesOnPages.2.2.1 mX8_nodesOnPages.2.2.2.1 ∈ gl := gl_mem 550 (by decide +kernel) (by decide +kernel)
theorem code_X8_depth : Cond.code mX8_depth.1 mX8_depth.2.1 mX8_depth.2.2.1 mX8_depth.2.2.2.1 ∈ gl := gl_mem 662 (by decide +kernel) (by decide +kernel)
theorem code_X8_settle : Cond.code mX8_settle.1 mX8_settle.2.1 mX8_settle.2.2.1 mX8_settle.2.2.2.1 ∈ gl := gl_mem 635 (by decide +kernel) (by decide +kernel)
theorem code_X8_become : Cond.code mX8_become.1 mX8_become.2.1 mX8_become.2.2.1 mX8_become.2.2.2.1 ∈ gl := gl_mem 639 (by decide +kernel) (by decide +kernel)
theorem code_X9_init : Cond.code mX9_init.1 mX9_init.2.1 mX9_init.2.2.1 mX9_init.2.2.2.1 ∈ gl := gl_mem 90 (by decide +kernel) (by decide +kernel)
theorem code_X9_type : Cond.code mX9_type.1 mX9_type.2.1 mX9_type.2.2.1 mX9_type.2.2.2.1 ∈ gl := gl_mem 776 (by decide +kernel) (by decide +kernel)
theorem code_X9_cut : Cond.code mX9_cut.1 mX9_cut.2.1 mX9_cut.2.2.1 mX9_cut.2.2.2.1 ∈ gl := gl_mem 871 (by decide +kernel) (by decide +kernel)
theorem code_X9_tapeAt : Cond.code mX9_tapeAt.1 mX9_tapeAt.2.1 mX9_tapeAt.2.2.1 mX9_tapeAt.2.2.2.1 ∈ gl := gl_mem 309 (by decide +kernel) (by decide +kernel)
theorem code_X9_put : Cond.code mX9_put.1 mX9_put.2.1 mX9_put.2.2.1 mX9_put.2.2.2.1 ∈ gl := gl_mem 317 (by decide +kernel) (by decide +kernel)
theorem code_X9_remove : Cond.code mX9_remove.1 mX9_remove.2.1 mX9_remove.2.2.1 mX9_remove.2.2.2.1 ∈ gl := gl_mem 436 (by decide +kernel) (by decide +kernel)
theorem code_X9_get : Cond.code mX9_get.1 mX9_get.2.1 mX9_get.2.2.1 mX9_get.2.2.2.1 ∈ gl := gl_mem 480 (by decide +kernel) (by decide +kernel)
theorem code_X9_with : Cond.code mX9_with.1 mX9_with.2.1 mX9_with.2.2.1 mX9_with.2.2.2.1 ∈ gl := gl_mem 485 (by decide +kernel) (by decide +kernel)
theorem code_X9_before : Cond.code mX9_before.1 mX9_before.2.1 mX9_before.2.2.1 mX9_before.2.2.2.1 ∈ gl := gl_mem 505 (by decide +kernel) (by decide +kernel)
theorem code_X9_nth : Cond.code mX9_nth.1 mX9_nth.2.1 mX9_nth.2.2.1 mX9_nth.2.2.2.1 ∈ gl := gl_mem 518 (by decide +kernel) (by decide +kernel)
theorem code_X9_commit : Cond.code mX9_commit.1 mX9_commit.2.1 mX9_commit.2.2.1 mX9_commit.2.2.2.1 ∈ gl := gl_mem 538 (by decide +kernel) (by decide +kernel)
theorem code_X9_back : Cond.code mX9_back.1 mX9_back.2.1 mX9_back.2.2.1 mX9_back.2.2.2.1 ∈ gl := gl_mem 650 (by decide +kernel) (by decide +kernel)
theorem code_X9_count : Cond.code mX9_count.1 mX9_count.2.1 mX9_count.2.2.1 mX9_count.2.2.2.1 ∈ gl := gl_mem 654 (by decide +kernel) (by decide +kernel)
theorem code_X9_node : Cond.code mX9_node.1 mX9_node.2.1 mX9_node.2.2.1 mX9_node.2.2.2.1 ∈ gl := gl_mem 671 (by decide +kernel) (by decide +kernel)
theorem code_X9_power : Cond.code mX9_power.1 mX9_power.2.1 mX9_power.2.2.1 mX9_power.2.2.2.1 ∈ gl := gl_mem 680 (by decide +kernel) (by decide +kernel)
theorem code_X9_start : Cond.code mX9_start.1 mX9_start.2.1 mX9_start.2.2.1 mX9_start.2.2.2.1 ∈ gl := gl_mem 688 (by decide +kernel) (by decide +kernel)
theorem code_X9_halt : Cond.code mX9_halt.1 mX9_halt.2.1 mX9_halt.2.2.1 mX9_halt.2.2.2.1 ∈ gl := gl_mem 767 (by decide +kernel) (by decide +kernel)
theorem code_X9_octet : Cond.code mX9_octet.1 mX9_octet.2.1 mX9_octet.2.2.1 mX9_octet.2.2.2.1 ∈ gl := gl_mem 880 (by decide +kernel) (by decide +kernel)
theorem code_X9_poke : Cond.code mX9_poke.1 mX9_poke.2.1 mX9_poke.2.2.1 mX9_poke.2.2.2.1 ∈ gl := gl_mem 908 (by decide +kernel) (by decide +kernel)
theorem code_X9_freePages : Cond.code mX9_freePages.1 mX9_freePages.2.1 mX9_freePages.2.2.1 mX9_freePages.2.2.2.1 ∈ gl := gl_mem 546 (by decide +kernel) (by decide +kernel)
theorem code_X10_init : Cond.code mX10_init.1 mX10_init.2.1 mX10_init.2.2.1 mX10_init.2.2.2.1 ∈ gl := gl_mem 914 (by decide +kernel) (by decide +kernel)
theorem code_X10_thrown : Cond.code mX10_thrown.1 mX10_thrown.2.1 mX10_thrown.2.2.1 mX10_thrown.2.2.2.1 ∈ gl := gl_mem 1019 (by decide +kernel) (by decide +kernel)
theorem code_X10_in : Cond.code mX10_in.1 mX10_in.2.1 mX10_in.2.2.1 mX10_in.2.2.2.1 ∈ gl := gl_mem 1027 (by decide +kernel) (by decide +kernel)
theorem code_X10_clear : Cond.code mX10_clear.1 mX10_clear.2.1 mX10_clear.2.2.1 mX10_clear.2.2.2.1 ∈ gl := gl_mem 920 (by decide +kernel) (by decide +kernel)
theorem code_X10_copy : Cond.code mX10_copy.1 mX10_copy.2.1 mX10_copy.2.2.1 mX10_copy.2.2.2.1 ∈ gl := gl_mem 932 (by decide +kernel) (by decide +kernel)
theorem code_X10_keep : Cond.code mX10_keep.1 mX10_keep.2.1 mX10_keep.2.2.1 mX10_keep.2.2.2.1 ∈ gl := gl_mem 928 (by decide +kernel) (by decide +kernel)
theorem code_X10_type : Cond.code mX10_type.1 mX10_type.2.1 mX10_type.2.2.1 mX10_type.2.2.2.1 ∈ gl := gl_mem 1023 (by decide +kernel) (by decide +kernel)
theorem code_X10_cut : Cond.code mX10_cut.1 mX10_cut.2.1 mX10_cut.2.2.1 mX10_cut.2.2.2.1 ∈ gl := gl_mem 1032 (by decide +kernel) (by decide +kernel)
theorem code_X10_tapeAt : Cond.code mX10_tapeAt.1 mX10_tapeAt.2.1 mX10_tapeAt.2.2.1 mX10_tapeAt.2.2.2.1 ∈ gl := gl_mem 1036 (by decide +kernel) (by decide +kernel)
theorem code_X10_newNode : Cond.code mX10_newNode.1 mX10_newNode.2.1 mX10_newNode.2.2.1 mX10_newNode.2.2.2.1 ∈ gl := gl_mem 924 (by decide +kernel) (by decide +kernel)
theorem code_X10_nodes : Cond.code mX10_nodes.1 mX10_nodes.2.1 mX10_nodes.2.2.1 mX10_nodes.2.2.2.1 ∈ gl := gl_mem 1081 (by decide +kernel) (by decide +kernel)
theorem code_X10_childFrom : Cond.code mX10_childFrom.1 mX10_childFrom.2.1 mX10_childFrom.2.2.1 mX10_childFrom.2.2.2.1 ∈ gl := gl_mem 1061 (by decide +kernel) (by decide +kernel)
theorem code_X10_child : Cond.code mX10_child.1 mX10_child.2.1 mX10_child.2.2.1 mX10_child.2.2.2.1 ∈ gl := gl_mem 1057 (by decide +kernel) (by decide +kernel)
theorem code_X10_children : Cond.code mX10_children.1 mX10_children.2.1 mX10_children.2.2.1 mX10_children.2.2.2.1 ∈ gl := gl_mem 1069 (by decide +kernel) (by decide +kernel)
theorem code_X10_room : Cond.code mX10_room.1 mX10_room.2.1 mX10_room.2.2.1 mX10_room.2.2.2.1 ∈ gl := gl_mem 1088 (by decide +kernel) (by decide +kernel)
theorem code_X10_next : Cond.code mX10_next.1 mX10_next.2.1 mX10_next.2.2.1 mX10_next.2.2.2.1 ∈ gl := gl_mem 1128 (by decide +kernel) (by decide +kernel)
theorem code_X10_freshen : Cond.code mX10_freshen.1 mX10_freshen.2.1 mX10_freshen.2.2.1 mX10_freshen.2.2.2.1 ∈ gl := gl_mem 1065 (by decide +kernel) (by decide +kernel)
theorem code_X10_lead : Cond.code mX10_lead.1 mX10_lead.2.1 mX10_lead.2.2.1 mX10_lead.2.2.2.1 ∈ gl := gl_mem 1116 (by decide +kernel) (by decide +kernel)
theorem code_X10_seek : Cond.code mX10_seek.1 mX10_seek.2.1 mX10_seek.2.2.1 mX10_seek.2.2.2.1 ∈ gl := gl_mem 1053 (by decide +kernel) (by decide +kernel)
theorem code_X10_isFound : Cond.code mX10_isFound.1 mX10_isFound.2.1 mX10_isFound.2.2.1 mX10_isFound.2.2.2.1 ∈ gl := gl_mem 1049 (by decide +kernel) (by decide +kernel)
theorem code_X10_setPrefix : Cond.code mX10_setPrefix.1 mX10_setPrefix.2.1 mX10_setPrefix.2.2.1 mX10_setPrefix.2.2.2.1 ∈ gl := gl_mem 1073 (by decide +kernel) (by decide +kernel)
theorem code_X10_give : Cond.code mX10_give.1 mX10_give.2.1 mX10_give.2.2.1 mX10_give.2.2.2.1 ∈ gl := gl_mem 1077 (by decide +kernel) (by decide +kernel)
theorem code_X10_isKey : Cond.code mX10_isKey.1 mX10_isKey.2.1 mX10_isKey.2.2.1 mX10_isKey.2.2.2.1 ∈ gl := gl_mem 1044 (by decide +kernel) (by decide +kernel)
theorem code_X10_put : Cond.code mX10_put.1 mX10_put.2.1 mX10_put.2.2.1 mX10_put.2.2.2.1 ∈ gl := gl_mem 1040 (by decide +kernel) (by decide +kernel)
theorem code_X10_cutInTwo : Cond.code mX10_cutInTwo.1 mX10_cutInTwo.2.1 mX10_cutInTwo.2.2.1 mX10_cutInTwo.2.2.2.1 ∈ gl := gl_mem 1085 (by decide +kernel) (by decide +kernel)
theorem code_X10_remove : Cond.code mX10_remove.1 mX10_remove.2.1 mX10_remove.2.2.1 mX10_remove.2.2.2.1 ∈ gl := gl_mem 1092 (by decide +kernel) (by decide +kernel)
theorem code_X10_putTogether : Cond.code mX10_putTogether.1 mX10_putTogether.2.1 mX10_putTogether.2.2.1 mX10_putTogether.2.2.2.1 ∈ gl := gl_mem 1096 (by decide +kernel) (by decide +kernel)
theorem code_X10_get : Cond.code mX10_get.1 mX10_get.2.1 mX10_get.2.2.1 mX10_get.2.2.2.1 ∈ gl := gl_mem 1100 (by decide +kernel) (by decide +kernel)
theorem code_X10_tell : Cond.code mX10_tell.1 mX10_tell.2.1 mX10_tell.2.2.1 mX10_tell.2.2.2.1 ∈ gl := gl_mem 1112 (by decide +kernel) (by decide +kernel)
theorem code_X10_begins : Cond.code mX10_begins.1 mX10_begins.2.1 mX10_begins.2.2.1 mX10_begins.2.2.2.1 ∈ gl := gl_mem 1120 (by decide +kernel) (by decide +kernel)
theorem code_X10_isBefore : Cond.code mX10_isBefore.1 mX10_isBefore.2.1 mX10_isBefore.2.2.1 mX10_isBefore.2.2.2.1 ∈ gl := gl_mem 1124 (by decide +kernel) (by decide +kernel)
theorem code_X10_with : Cond.code mX10_with.1 mX10_with.2.1 mX10_with.2.2.1 mX10_with.2.2.2.1 ∈ gl := gl_mem 1104 (by decide +kernel) (by decide +kernel)
theorem code_X10_countKeys : Cond.code mX10_countKeys.1 mX10_countKeys.2.1 mX10_countKeys.2.2.1 mX10_countKeys.2.2.2.1 ∈ gl := gl_mem 1108 (by decide +kernel) (by decide +kernel)
theorem code_X10_before : Cond.code mX10_before.1 mX10_before.2.1 mX10_before.2.2.1 mX10_before.2.2.2.1 ∈ gl := gl_mem 1132 (by decide +kernel) (by decide +kernel)
theorem code_X10_keys : Cond.code mX10_keys.1 mX10_keys.2.1 mX10_keys.2.2.1 mX10_keys.2.2.2.1 ∈ gl := gl_mem 1140 (by decide +kernel) (by decide +kernel)
theorem code_X10_nth : Cond.code mX10_nth.1 mX10_nth.2.1 mX10_nth.2.2.1 mX10_nth.2.2.2.1 ∈ gl := gl_mem 1136 (by decide +kernel) (by decide +kernel)
theorem code_X10_sum : Cond.code mX10_sum.1 mX10_sum.2.1 mX10_sum.2.2.1 mX10_sum.2.2.2.1 ∈ gl := gl_mem 1175 (by decide +kernel) (by decide +kernel)
theorem code_X10_number : Cond.code mX10_number.1 mX10_number.2.1 mX10_number.2.2.1 mX10_number.2.2.2.1 ∈ gl := gl_mem 1168 (by decide +kernel) (by decide +kernel)
theorem code_X10_write : Cond.code mX10_write.1 mX10_write.2.1 mX10_write.2.2.1 mX10_write.2.2.2.1 ∈ gl := gl_mem 1172 (by decide +kernel) (by decide +kernel)
theorem code_X10_beginSheet : Cond.code mX10_beginSheet.1 mX10_beginSheet.2.1 mX10_beginSheet.2.2.1 mX10_beginSheet.2.2.2.1 ∈ gl := gl_mem 1164 (by decide +kernel) (by decide +kernel)
theorem code_X10_writeNode : Cond.code mX10_writeNode.1 mX10_writeNode.2.1 mX10_writeNode.2.2.1 mX10_writeNode.2.2.2.1 ∈ gl := gl_mem 1160 (by decide +kernel) (by decide +kernel)
theorem code_X10_deepest : Cond.code mX10_deepest.1 mX10_deepest.2.1 mX10_deepest.2.2.1 mX10_deepest.2.2.2.1 ∈ gl := gl_mem 1156 (by decide +kernel) (by decide +kernel)
theorem code_X10_freshMany : Cond.code mX10_freshMany.1 mX10_freshMany.2.1 mX10_freshMany.2.2.1 mX10_freshMany.2.2.2.1 ∈ gl := gl_mem 1148 (by decide +kernel) (by decide +kernel)
theorem code_X10_findTaken : Cond.code mX10_findTaken.1 mX10_findTaken.2.1 mX10_findTaken.2.2.1 mX10_findTaken.2.2.2.1 ∈ gl := gl_mem 1152 (by decide +kernel) (by decide +kernel)
theorem code_X10_commit : Cond.code mX10_commit.1 mX10_commit.2.1 mX10_commit.2.2.1 mX10_commit.2.2.2.1 ∈ gl := gl_mem 1144 (by decide +kernel) (by decide +kernel)
theorem code_X10_back : Cond.code mX10_back.1 mX10_back.2.1 mX10_back.2.2.1 mX10_back.2.2.2.1 ∈ gl := gl_mem 1181 (by decide +kernel) (by decide +kernel)
theorem code_X10_depth : Cond.code mX10_depth.1 mX10_depth.2.1 mX10_depth.2.2.1 mX10_depth.2.2.2.1 ∈ gl := gl_mem 1189 (by decide +kernel) (by decide +kernel)
theorem code_X10_count : Cond.code mX10_count.1 mX10_count.2.1 mX10_count.2.2.1 mX10_count.2.2.2.1 ∈ gl := gl_mem 1185 (by decide +kernel) (by decide +kernel)
theorem code_X10_node : Cond.code mX10_node.1 mX10_node.2.1 mX10_node.2.2.1 mX10_node.2.2.2.1 ∈ gl := gl_mem 1193 (by decide +kernel) (by decide +kernel)
theorem code_X10_ofNode : Cond.code mX10_ofNode.1 mX10_ofNode.2.1 mX10_ofNode.2.2.1 mX10_ofNode.2.2.2.1 ∈ gl := gl_mem 1198 (by decide +kernel) (by decide +kernel)
theorem code_X10_power : Cond.code mX10_power.1 mX10_power.2.1 mX10_power.2.2.1 mX10_power.2.2.2.1 ∈ gl := gl_mem 1202 (by decide +kernel) (by decide +kernel)
theorem code_X10_halt : Cond.code mX10_halt.1 mX10_halt.2.1 mX10_halt.2.2.1 mX10_halt.2.2.2.1 ∈ gl := gl_mem 1209 (by decide +kernel) (by decide +kernel)
theorem code_X10_numberAt : Cond.code mX10_numberAt.1 mX10_numberAt.2.1 mX10_numberAt.2.2.1 mX10_numberAt.2.2.2.1 ∈ gl := gl_mem 1220 (by decide +kernel) (by decide +kernel)
theorem code_X10_headOf : Cond.code mX10_headOf.1 mX10_headOf.2.1 mX10_headOf.2.2.1 mX10_headOf.2.2.2.1 ∈ gl := gl_mem 1217 (by decide +kernel) (by decide +kernel)
theorem code_X10_readNode : Cond.code mX10_readNode.1 mX10_readNode.2.1 mX10_readNode.2.2.1 mX10_readNode.2.2.2.1 ∈ gl := gl_mem 1229 (by decide +kernel) (by decide +kernel)
theorem code_X10_readChildren : Cond.code mX10_readChildren.1 mX10_readChildren.2.1 mX10_readChildren.2.2.1 mX10_readChildren.2.2.2.1 ∈ gl := gl_mem 1234 (by decide +kernel) (by decide +kernel)
theorem code_X10_readTree : Cond.code mX10_readTree.1 mX10_readTree.2.1 mX10_readTree.2.2.1 mX10_readTree.2.2.2.1 ∈ gl := gl_mem 1225 (by decide +kernel) (by decide +kernel)
theorem code_X10_start : Cond.code mX10_start.1 mX10_start.2.1 mX10_start.2.2.1 mX10_start.2.2.2.1 ∈ gl := gl_mem 1213 (by decide +kernel) (by decide +kernel)
theorem code_X10_octet : Cond.code mX10_octet.1 mX10_octet.2.1 mX10_octet.2.2.1 mX10_octet.2.2.2.1 ∈ gl := gl_mem 1238 (by decide +kernel) (by decide +kernel)
theorem code_X10_poke : Cond.code mX10_poke.1 mX10_poke.2.1 mX10_poke.2.2.1 mX10_poke.2.2.2.1 ∈ gl := gl_mem 1242 (by decide +kernel) (by decide +kernel)
theorem ini_RL : Cond.initialized RL ∈ gl := gl_mem 66 (by decide +kernel) (by decide +kernel)
theorem ini_RX9 : Cond.initialized RX9 ∈ gl := gl_mem 67 (by decide +kernel) (by decide +kernel)
theorem ini_RX7 : Cond.initialized RX7 ∈ gl := gl_mem 68 (by decide +kernel) (by decide +kernel)
theorem ini_RX8 : Cond.initialized RX8 ∈ gl := gl_mem 69 (by decide +kernel) (by decide +kernel)
theorem ini_RX3 : Cond.initialized RX3 ∈ gl := gl_mem 70 (by decide +kernel) (by decide +kernel)
theorem ini_RX6 : Cond.initialized RX6 ∈ gl := gl_mem 71 (by decide +kernel) (by decide +kernel)
theorem ini_RX0 : Cond.initialized RX0 ∈ gl := gl_mem 72 (by decide +kernel) (by decide +kernel)
theorem ini_RX5 : Cond.initialized RX5 ∈ gl := gl_mem 73 (by decide +kernel) (by decide +kernel)
theorem ini_RX10 : Cond.initialized RX10 ∈ gl := gl_mem 74 (by decide +kernel) (by decide +kernel)
theorem ini_RX1 : Cond.initialized RX1 ∈ gl := gl_mem 81 (by decide +kernel) (by decide +kernel)
theorem ini_RX4 : Cond.initialized RX4 ∈ gl := gl_mem 82 (by decide +kernel) (by decide +kernel)
theorem ini_RX2 : Cond.initialized RX2 ∈ gl := gl_mem 84 (by decide +kernel) (by decide +kernel)
theorem ini_Math : Cond.initialized "java/lang/Math" ∈ gl := gl_mem 80 (by decide +kernel) (by decide +kernel)
theorem ini_System : Cond.initialized "java/lang/System" ∈ gl := gl_mem 83 (by decide +kernel) (by decide +kernel)
theorem sel_X3_reset : Cond.selects yX3_reset.cls yX3_reset yX3_reset ∈ gl := gl_mem 0 (by decide +kernel) (by decide +kernel)
theorem sel_X8_storeFirst : Cond.selects yX8_storeFirst.cls yX8_storeFirst yX8_storeFirst ∈ gl := gl_mem 1 (by decide +kernel) (by decide +kernel)
theorem sel_X3_setPrefixAt : Cond.selects yX3_setPrefixAt.cls yX3_setPrefixAt yX3_setPrefixAt ∈ gl := gl_mem 2 (by decide +kernel) (by decide +kernel)
theorem sel_X8_storeHere : Cond.selects yX8_storeHere.cls yX8_storeHere yX8_storeHere ∈ gl := gl_mem 3 (by decide +kernel) (by decide +kernel)
theorem sel_X8_seek : Cond.selects yX8_seek.cls yX8_seek yX8_seek ∈ gl := gl_mem 4 (by decide +kernel) (by decide +kernel)
theorem sel_X8_stepFrom : Cond.selects yX8_stepFrom.cls yX8_stepFrom yX8_stepFrom ∈ gl := gl_mem 5 (by decide +kernel) (by decide +kernel)
theorem sel_X8_storeByCut : Cond.selects yX8_storeByCut.cls yX8_storeByCut yX8_storeByCut ∈ gl := gl_mem 6 (by decide +kernel) (by decide +kernel)
theorem sel_X8_insertAbove : Cond.selects yX8_insertAbove.cls yX8_insertAbove yX8_insertAbove ∈ gl := gl_mem 7 (by decide +kernel) (by decide +kernel)
theorem sel_X8_putInPlace : Cond.selects yX8_putInPlace.cls yX8_putInPlace yX8_putInPlace ∈ gl := gl_mem 8 (by decide +kernel) (by decide +kernel)
theorem sel_X3_lastBelow : Cond.selects yX3_lastBelow.cls yX3_lastBelow yX3_lastBelow ∈ gl := gl_mem 9 (by decide +kernel) (by decide +kernel)
theorem sel_X3_setNextOf : Cond.selects yX3_setNextOf.cls yX3_setNextOf yX3_setNextOf ∈ gl := gl_mem 10 (by decide +kernel) (by decide +kernel)
theorem sel_X8_hang : Cond.selects yX8_hang.cls yX8_hang yX8_hang ∈ gl := gl_mem 11 (by decide +kernel) (by decide +kernel)
theorem sel_X8_storeByChild : Cond.selects yX8_storeByChild.cls yX8_storeByChild yX8_storeByChild ∈ gl := gl_mem 12 (by decide +kernel) (by decide +kernel)
theorem sel_X8_join : Cond.selects yX8_join.cls yX8_join yX8_join ∈ gl := gl_mem 13 (by decide +kernel) (by decide +kernel)
theorem sel_X8_release : Cond.selects yX8_release.cls yX8_release yX8_release ∈ gl := gl_mem 14 (by decide +kernel) (by decide +kernel)
theorem sel_X8_detach : Cond.selects yX8_detach.cls yX8_detach yX8_detach ∈ gl := gl_mem 15 (by decide +kernel) (by decide +kernel)
theorem sel_X8_firstNotAhead : Cond.selects yX8_firstNotAhead.cls yX8_firstNotAhead yX8_firstNotAhead ∈ gl := gl_mem 16 (by decide +kernel) (by decide +kernel)
theorem sel_X9_freePages : Cond.selects yX9_freePages.cls yX9_freePages yX9_freePages ∈ gl := gl_mem 17 (by decide +kernel) (by decide +kernel)
theorem sel_X6_markPagesOf : Cond.selects yX6_markPagesOf.cls yX6_markPagesOf yX6_markPagesOf ∈ gl := gl_mem 18 (by decide +kernel) (by decide +kernel)
theorem sel_X6_freeAllPages : Cond.selects yX6_freeAllPages.cls yX6_freeAllPages yX6_freeAllPages ∈ gl := gl_mem 19 (by decide +kernel) (by decide +kernel)
theorem sel_X6_takePage : Cond.selects yX6_takePage.cls yX6_takePage yX6_takePage ∈ gl := gl_mem 20 (by decide +kernel) (by decide +kernel)
theorem sel_X6_saveNode : Cond.selects yX6_saveNode.cls yX6_saveNode yX6_saveNode ∈ gl := gl_mem 21 (by decide +kernel) (by decide +kernel)
theorem sel_X6_takeLeastPage : Cond.selects yX6_takeLeastPage.cls yX6_takeLeastPage yX6_takeLeastPage ∈ gl := gl_mem 22 (by decide +kernel) (by decide +kernel)
theorem sel_X6_rightSequence : Cond.selects yX6_rightSequence.cls yX6_rightSequence yX6_rightSequence ∈ gl := gl_mem 23 (by decide +kernel) (by decide +kernel)
theorem sel_X6_loadBy : Cond.selects yX6_loadBy.cls yX6_loadBy yX6_loadBy ∈ gl := gl_mem 24 (by decide +kernel) (by decide +kernel)
theorem sel_X6_loadNode : Cond.selects yX6_loadNode.cls yX6_loadNode yX6_loadNode ∈ gl := gl_mem 25 (by decide +kernel) (by decide +kernel)
theorem sel_X6_hangListed : Cond.selects yX6_hangListed.cls yX6_hangListed yX6_hangListed ∈ gl := gl_mem 26 (by decide +kernel) (by decide +kernel)
theorem sel_X6_hangBehind : Cond.selects yX6_hangBehind.cls yX6_hangBehind yX6_hangBehind ∈ gl := gl_mem 27 (by decide +kernel) (by decide +kernel)
theorem sel_X6_hangMapped : Cond.selects yX6_hangMapped.cls yX6_hangMapped yX6_hangMapped ∈ gl := gl_mem 28 (by decide +kernel) (by decide +kernel)
theorem sel_X10_clear : Cond.selects yX10_clear.cls yX10_clear yX10_clear ∈ gl := gl_mem 30 (by decide +kernel) (by decide +kernel)
theorem sel_X10_newNode : Cond.selects yX10_newNode.cls yX10_newNode yX10_newNode ∈ gl := gl_mem 31 (by decide +kernel) (by decide +kernel)
theorem sel_X10_keep : Cond.selects yX10_keep.cls yX10_keep yX10_keep ∈ gl := gl_mem 32 (by decide +kernel) (by decide +kernel)
theorem sel_X10_copy : Cond.selects yX10_copy.cls yX10_copy yX10_copy ∈ gl := gl_mem 33 (by decide +kernel) (by decide +kernel)
theorem sel_X10_isKey : Cond.selects yX10_isKey.cls yX10_isKey yX10_isKey ∈ gl := gl_mem 34 (by decide +kernel) (by decide +kernel)
theorem sel_X10_isFound : Cond.selects yX10_isFound.cls yX10_isFound yX10_isFound ∈ gl := gl_mem 35 (by decide +kernel) (by decide +kernel)
theorem sel_X10_seek : Cond.selects yX10_seek.cls yX10_seek yX10_seek ∈ gl := gl_mem 36 (by decide +kernel) (by decide +kernel)
theorem sel_X10_child : Cond.selects yX10_child.cls yX10_child yX10_child ∈ gl := gl_mem 37 (by decide +kernel) (by decide +kernel)
theorem sel_X10_childFrom : Cond.selects yX10_childFrom.cls yX10_childFrom yX10_childFrom ∈ gl := gl_mem 38 (by decide +kernel) (by decide +kernel)
theorem sel_X10_freshen : Cond.selects yX10_freshen.cls yX10_freshen yX10_freshen ∈ gl := gl_mem 39 (by decide +kernel) (by decide +kernel)
theorem sel_X10_children : Cond.selects yX10_children.cls yX10_children yX10_children ∈ gl := gl_mem 40 (by decide +kernel) (by decide +kernel)
theorem sel_X10_setPrefix : Cond.selects yX10_setPrefix.cls yX10_setPrefix yX10_setPrefix ∈ gl := gl_mem 41 (by decide +kernel) (by decide +kernel)
theorem sel_X10_give : Cond.selects yX10_give.cls yX10_give yX10_give ∈ gl := gl_mem 42 (by decide +kernel) (by decide +kernel)
theorem sel_X10_nodes : Cond.selects yX10_nodes.cls yX10_nodes yX10_nodes ∈ gl := gl_mem 43 (by decide +kernel) (by decide +kernel)
theorem sel_X10_cutInTwo : Cond.selects yX10_cutInTwo.cls yX10_cutInTwo yX10_cutInTwo ∈ gl := gl_mem 44 (by decide +kernel) (by decide +kernel)
theorem sel_X10_putTogether : Cond.selects yX10_putTogether.cls yX10_putTogether yX10_putTogether ∈ gl := gl_mem 45 (by decide +kernel) (by decide +kernel)
theorem sel_X10_countKeys : Cond.selects yX10_countKeys.cls yX10_countKeys yX10_countKeys ∈ gl := gl_mem 46 (by decide +kernel) (by decide +kernel)
theorem sel_X10_tell : Cond.selects yX10_tell.cls yX10_tell yX10_tell ∈ gl := gl_mem 47 (by decide +kernel) (by decide +kernel)
theorem sel_X10_lead : Cond.selects yX10_lead.cls yX10_lead yX10_lead ∈ gl := gl_mem 48 (by decide +kernel) (by decide +kernel)
theorem sel_X10_begins : Cond.selects yX10_begins.cls yX10_begins yX10_begins ∈ gl := gl_mem 49 (by decide +kernel) (by decide +kernel)
theorem sel_X10_isBefore : Cond.selects yX10_isBefore.cls yX10_isBefore yX10_isBefore ∈ gl := gl_mem 50 (by decide +kernel) (by decide +kernel)
theorem sel_X10_next : Cond.selects yX10_next.cls yX10_next yX10_next ∈ gl := gl_mem 51 (by decide +kernel) (by decide +kernel)
theorem sel_X10_keys : Cond.selects yX10_keys.cls yX10_keys yX10_keys ∈ gl := gl_mem 52 (by decide +kernel) (by decide +kernel)
theorem sel_X10_freshMany : Cond.selects yX10_freshMany.cls yX10_freshMany yX10_freshMany ∈ gl := gl_mem 53 (by decide +kernel) (by decide +kernel)
theorem sel_X10_findTaken : Cond.selects yX10_findTaken.cls yX10_findTaken yX10_findTaken ∈ gl := gl_mem 54 (by decide +kernel) (by decide +kernel)
theorem sel_X10_deepest : Cond.selects yX10_deepest.cls yX10_deepest yX10_deepest ∈ gl := gl_mem 55 (by decide +kernel) (by decide +kernel)
theorem sel_X10_writeNode : Cond.selects yX10_writeNode.cls yX10_writeNode yX10_writeNode ∈ gl := gl_mem 56 (by decide +kernel) (by decide +kernel)
theorem sel_X10_beginSheet : Cond.selects yX10_beginSheet.cls yX10_beginSheet yX10_beginSheet ∈ gl := gl_mem 57 (by decide +kernel) (by decide +kernel)
theorem sel_X10_number : Cond.selects yX10_number.cls yX10_number yX10_number ∈ gl := gl_mem 58 (by decide +kernel) (by decide +kernel)
theorem sel_X10_write : Cond.selects yX10_write.cls yX10_write yX10_write ∈ gl := gl_mem 59 (by decide +kernel) (by decide +kernel)
theorem sel_X10_depth : Cond.selects yX10_depth.cls yX10_depth yX10_depth ∈ gl := gl_mem 60 (by decide +kernel) (by decide +kernel)
theorem sel_X10_ofNode : Cond.selects yX10_ofNode.cls yX10_ofNode yX10_ofNode ∈ gl := gl_mem 61 (by decide +kernel) (by decide +kernel)
theorem sel_X10_headOf : Cond.selects yX10_headOf.cls yX10_headOf yX10_headOf ∈ gl := gl_mem 62 (by decide +kernel) (by decide +kernel)
theorem sel_X10_readTree : Cond.selects yX10_readTree.cls yX10_readTree yX10_readTree ∈ gl := gl_mem 63 (by decide +kernel) (by decide +kernel)
theorem sel_X10_readNode : Cond.selects yX10_readNode.cls yX10_readNode yX10_readNode ∈ gl := gl_mem 64 (by decide +kernel) (by decide +kernel)
theorem sel_X10_readChildren : Cond.selects yX10_readChildren.cls yX10_readChildren yX10_readChildren ∈ gl := gl_mem 65 (by decide +kernel) (by decide +kernel)
theorem inst_X9_init : Cond.instanceMethod yX9_init ∈ gl := gl_mem 89 (by decide +kernel) (by decide +kernel)
theorem inst_X7_init : Cond.instanceMethod yX7_init ∈ gl := gl_mem 97 (by decide +kernel) (by decide +kernel)
theorem inst_X8_init : Cond.instanceMethod yX8_init ∈ gl := gl_mem 114 (by decide +kernel) (by decide +kernel)
theorem inst_X3_init : Cond.instanceMethod yX3_init ∈ gl := gl_mem 121 (by decide +kernel) (by decide +kernel)
theorem inst_X3_reset : Cond.instanceMethod yX3_reset ∈ gl := gl_mem 126 (by decide +kernel) (by decide +kernel)
theorem inst_X8_clear : Cond.instanceMethod yX8_clear ∈ gl := gl_mem 203 (by decide +kernel) (by decide +kernel)
theorem sel_X8_clear : Cond.selects yX8_clear.cls yX8_clear yX8_clear ∈ gl := gl_mem 204 (by decide +kernel) (by decide +kernel)
theorem inst_X6_init : Cond.instanceMethod yX6_init ∈ gl := gl_mem 240 (by decide +kernel) (by decide +kernel)
theorem inst_X0_init : Cond.instanceMethod yX0_init ∈ gl := gl_mem 246 (by decide +kernel) (by decide +kernel)
theorem inst_X5_init : Cond.instanceMethod yX5_init ∈ gl := gl_mem 264 (by decide +kernel) (by decide +kernel)
theorem inst_X9_tapeAt : Cond.instanceMethod yX9_tapeAt ∈ gl := gl_mem 307 (by decide +kernel) (by decide +kernel)
theorem sel_X9_tapeAt : Cond.selects yX9_tapeAt.cls yX9_tapeAt yX9_tapeAt ∈ gl := gl_mem 308 (by decide +kernel) (by decide +kernel)
theorem inst_X7_byteAt : Cond.instanceMethod yX7_byteAt ∈ gl := gl_mem 311 (by decide +kernel) (by decide +kernel)
theorem sel_X7_byteAt : Cond.selects yX7_byteAt.cls yX7_byteAt yX7_byteAt ∈ gl := gl_mem 312 (by decide +kernel) (by decide +kernel)
theorem inst_X9_put : Cond.instanceMethod yX9_put ∈ gl := gl_mem 315 (by decide +kernel) (by decide +kernel)
theorem sel_X9_put : Cond.selects yX9_put.cls yX9_put yX9_put ∈ gl := gl_mem 316 (by decide +kernel) (by decide +kernel)
theorem inst_X7_isKey : Cond.instanceMethod yX7_isKey ∈ gl := gl_mem 319 (by decide +kernel) (by decide +kernel)
theorem sel_X7_isKey : Cond.selects yX7_isKey.cls yX7_isKey yX7_isKey ∈ gl := gl_mem 320 (by decide +kernel) (by decide +kernel)
theorem inst_X8_store : Cond.instanceMethod yX8_store ∈ gl := gl_mem 324 (by decide +kernel) (by decide +kernel)
theorem sel_X8_store : Cond.selects yX8_store.cls yX8_store yX8_store ∈ gl := gl_mem 325 (by decide +kernel) (by decide +kernel)
theorem inst_X8_storeFirst : Cond.instanceMethod yX8_storeFirst ∈ gl := gl_mem 329 (by decide +kernel) (by decide +kernel)
theorem inst_X3_appendToPrefix : Cond.instanceMethod yX3_appendToPrefix ∈ gl := gl_mem 333 (by decide +kernel) (by decide +kernel)
theorem sel_X3_appendToPrefix : Cond.selects yX3_appendToPrefix.cls yX3_appendToPrefix yX3_appendToPrefix ∈ gl := gl_mem 334 (by decide +kernel) (by decide +kernel)
theorem inst_X3_setPrefixAt : Cond.instanceMethod yX3_setPrefixAt ∈ gl := gl_mem 338 (by decide +kernel) (by decide +kernel)
theorem inst_X8_storeHere : Cond.instanceMethod yX8_storeHere ∈ gl := gl_mem 342 (by decide +kernel) (by decide +kernel)
theorem inst_X3_setValue : Cond.instanceMethod yX3_setValue ∈ gl := gl_mem 345 (by decide +kernel) (by decide +kernel)
theorem sel_X3_setValue : Cond.selects yX3_setValue.cls yX3_setValue yX3_setValue ∈ gl := gl_mem 346 (by decide +kernel) (by decide +kernel)
theorem inst_X3_freshen : Cond.instanceMethod yX3_freshen ∈ gl := gl_mem 349 (by decide +kernel) (by decide +kernel)
theorem sel_X3_freshen : Cond.selects yX3_freshen.cls yX3_freshen yX3_freshen ∈ gl := gl_mem 350 (by decide +kernel) (by decide +kernel)
theorem inst_X8_seek : Cond.instanceMethod yX8_seek ∈ gl := gl_mem 354 (by decide +kernel) (by decide +kernel)
theorem inst_X3_matching : Cond.instanceMethod yX3_matching ∈ gl := gl_mem 357 (by decide +kernel) (by decide +kernel)
theorem sel_X3_matching : Cond.selects yX3_matching.cls yX3_matching yX3_matching ∈ gl := gl_mem 358 (by decide +kernel) (by decide +kernel)
theorem inst_X3_prefixAt : Cond.instanceMethod yX3_prefixAt ∈ gl := gl_mem 361 (by decide +kernel) (by decide +kernel)
theorem sel_X3_prefixAt : Cond.selects yX3_prefixAt.cls yX3_prefixAt yX3_prefixAt ∈ gl := gl_mem 362 (by decide +kernel) (by decide +kernel)
theorem inst_X8_stepFrom : Cond.instanceMethod yX8_stepFrom ∈ gl := gl_mem 367 (by decide +kernel) (by decide +kernel)
theorem inst_X3_childBy : Cond.instanceMethod yX3_childBy ∈ gl := gl_mem 370 (by decide +kernel) (by decide +kernel)
theorem sel_X3_childBy : Cond.selects yX3_childBy.cls yX3_childBy yX3_childBy ∈ gl := gl_mem 371 (by decide +kernel) (by decide +kernel)
theorem inst_X3_firstFrom : Cond.instanceMethod yX3_firstFrom ∈ gl := gl_mem 374 (by decide +kernel) (by decide +kernel)
theorem sel_X3_firstFrom : Cond.selects yX3_firstFrom.cls yX3_firstFrom yX3_firstFrom ∈ gl := gl_mem 375 (by decide +kernel) (by decide +kernel)
theorem inst_X8_storeByCut : Cond.instanceMethod yX8_storeByCut ∈ gl := gl_mem 379 (by decide +kernel) (by decide +kernel)
theorem inst_X8_take : Cond.instanceMethod yX8_take ∈ gl := gl_mem 382 (by decide +kernel) (by decide +kernel)
theorem sel_X8_take : Cond.selects yX8_take.cls yX8_take yX8_take ∈ gl := gl_mem 383 (by decide +kernel) (by decide +kernel)
theorem inst_X8_insertAbove : Cond.instanceMethod yX8_insertAbove ∈ gl := gl_mem 387 (by decide +kernel) (by decide +kernel)
theorem inst_X8_putInPlace : Cond.instanceMethod yX8_putInPlace ∈ gl := gl_mem 392 (by decide +kernel) (by decide +kernel)
theorem inst_X3_yieldTo : Cond.instanceMethod yX3_yieldTo ∈ gl := gl_mem 395 (by decide +kernel) (by decide +kernel)
theorem sel_X3_yieldTo : Cond.selects yX3_yieldTo.cls yX3_yieldTo yX3_yieldTo ∈ gl := gl_mem 396 (by decide +kernel) (by decide +kernel)
theorem inst_X3_lastBelow : Cond.instanceMethod yX3_lastBelow ∈ gl := gl_mem 400 (by decide +kernel) (by decide +kernel)
theorem inst_X3_setNextOf : Cond.instanceMethod yX3_setNextOf ∈ gl := gl_mem 404 (by decide +kernel) (by decide +kernel)
theorem inst_X3_dropFromPrefix : Cond.instanceMethod yX3_dropFromPrefix ∈ gl := gl_mem 407 (by decide +kernel) (by decide +kernel)
theorem sel_X3_dropFromPrefix : Cond.selects yX3_dropFromPrefix.cls yX3_dropFromPrefix yX3_dropFromPrefix ∈ gl := gl_mem 408 (by decide +kernel) (by decide +kernel)
theorem inst_X3_gain : Cond.instanceMethod yX3_gain ∈ gl := gl_mem 414 (by decide +kernel) (by decide +kernel)
theorem sel_X3_gain : Cond.selects yX3_gain.cls yX3_gain yX3_gain ∈ gl := gl_mem 415 (by decide +kernel) (by decide +kernel)
theorem stat_X1_grown : Cond.static yX1_grown ∈ gl := gl_mem 418 (by decide +kernel) (by decide +kernel)
theorem stat_X1_mostChildren : Cond.static yX1_mostChildren ∈ gl := gl_mem 421 (by decide +kernel) (by decide +kernel)
theorem inst_X8_hang : Cond.instanceMethod yX8_hang ∈ gl := gl_mem 427 (by decide +kernel) (by decide +kernel)
theorem inst_X8_storeByChild : Cond.instanceMethod yX8_storeByChild ∈ gl := gl_mem 431 (by decide +kernel) (by decide +kernel)
theorem inst_X9_remove : Cond.instanceMethod yX9_remove ∈ gl := gl_mem 434 (by decide +kernel) (by decide +kernel)
theorem sel_X9_remove : Cond.selects yX9_remove.cls yX9_remove yX9_remove ∈ gl := gl_mem 435 (by decide +kernel) (by decide +kernel)
theorem inst_X8_drop : Cond.instanceMethod yX8_drop ∈ gl := gl_mem 438 (by decide +kernel) (by decide +kernel)
theorem sel_X8_drop : Cond.selects yX8_drop.cls yX8_drop yX8_drop ∈ gl := gl_mem 439 (by decide +kernel) (by decide +kernel)
theorem inst_X8_nodeOf : Cond.instanceMethod yX8_nodeOf ∈ gl := gl_mem 442 (by decide +kernel) (by decide +kernel)
theorem sel_X8_nodeOf : Cond.selects yX8_nodeOf.cls yX8_nodeOf yX8_nodeOf ∈ gl := gl_mem 443 (by decide +kernel) (by decide +kernel)
theorem inst_X3_loseValue : Cond.instanceMethod yX3_loseValue ∈ gl := gl_mem 446 (by decide +kernel) (by decide +kernel)
theorem sel_X3_loseValue : Cond.selects yX3_loseValue.cls yX3_loseValue yX3_loseValue ∈ gl := gl_mem 447 (by decide +kernel) (by decide +kernel)
theorem inst_X8_join : Cond.instanceMethod yX8_join ∈ gl := gl_mem 451 (by decide +kernel) (by decide +kernel)
theorem inst_X3_takePrefixOfParent : Cond.instanceMethod yX3_takePrefixOfParent ∈ gl := gl_mem 454 (by decide +kernel) (by decide +kernel)
theorem sel_X3_takePrefixOfParent : Cond.selects yX3_takePrefixOfParent.cls yX3_takePrefixOfParent yX3_takePrefixOfParent ∈ gl := gl_mem 455 (by decide +kernel) (by decide +kernel)
theorem inst_X8_release : Cond.instanceMethod yX8_release ∈ gl := gl_mem 462 (by decide +kernel) (by decide +kernel)
theorem inst_X8_detach : Cond.instanceMethod yX8_detach ∈ gl := gl_mem 466 (by decide +kernel) (by decide +kernel)
theorem inst_X3_lose : Cond.instanceMethod yX3_lose ∈ gl := gl_mem 469 (by decide +kernel) (by decide +kernel)
theorem sel_X3_lose : Cond.selects yX3_lose.cls yX3_lose yX3_lose ∈ gl := gl_mem 470 (by decide +kernel) (by decide +kernel)
theorem stat_X1_shrunk : Cond.static yX1_shrunk ∈ gl := gl_mem 473 (by decide +kernel) (by decide +kernel)
theorem inst_X9_get : Cond.instanceMethod yX9_get ∈ gl := gl_mem 478 (by decide +kernel) (by decide +kernel)
theorem sel_X9_get : Cond.selects yX9_get.cls yX9_get yX9_get ∈ gl := gl_mem 479 (by decide +kernel) (by decide +kernel)
theorem inst_X9_with : Cond.instanceMethod yX9_with ∈ gl := gl_mem 483 (by decide +kernel) (by decide +kernel)
theorem sel_X9_with : Cond.selects yX9_with.cls yX9_with yX9_with ∈ gl := gl_mem 484 (by decide +kernel) (by decide +kernel)
theorem inst_X8_keysUnder : Cond.instanceMethod yX8_keysUnder ∈ gl := gl_mem 487 (by decide +kernel) (by decide +kernel)
theorem sel_X8_keysUnder : Cond.selects yX8_keysUnder.cls yX8_keysUnder yX8_keysUnder ∈ gl := gl_mem 488 (by decide +kernel) (by decide +kernel)
theorem inst_X3_behind : Cond.instanceMethod yX3_behind ∈ gl := gl_mem 491 (by decide +kernel) (by decide +kernel)
theorem sel_X3_behind : Cond.selects yX3_behind.cls yX3_behind yX3_behind ∈ gl := gl_mem 492 (by decide +kernel) (by decide +kernel)
theorem stat_X8_keysBetween : Cond.static yX8_keysBetween ∈ gl := gl_mem 495 (by decide +kernel) (by decide +kernel)
theorem inst_X3_following : Cond.instanceMethod yX3_following ∈ gl := gl_mem 498 (by decide +kernel) (by decide +kernel)
theorem sel_X3_following : Cond.selects yX3_following.cls yX3_following yX3_following ∈ gl := gl_mem 499 (by decide +kernel) (by decide +kernel)
theorem inst_X9_before : Cond.instanceMethod yX9_before ∈ gl := gl_mem 503 (by decide +kernel) (by decide +kernel)
theorem sel_X9_before : Cond.selects yX9_before.cls yX9_before yX9_before ∈ gl := gl_mem 504 (by decide +kernel) (by decide +kernel)
theorem inst_X8_keysAhead : Cond.instanceMethod yX8_keysAhead ∈ gl := gl_mem 507 (by decide +kernel) (by decide +kernel)
theorem sel_X8_keysAhead : Cond.selects yX8_keysAhead.cls yX8_keysAhead yX8_keysAhead ∈ gl := gl_mem 508 (by decide +kernel) (by decide +kernel)
theorem inst_X8_firstNotAhead : Cond.instanceMethod yX8_firstNotAhead ∈ gl := gl_mem 512 (by decide +kernel) (by decide +kernel)
theorem inst_X9_nth : Cond.instanceMethod yX9_nth ∈ gl := gl_mem 516 (by decide +kernel) (by decide +kernel)
theorem sel_X9_nth : Cond.selects yX9_nth.cls yX9_nth yX9_nth ∈ gl := gl_mem 517 (by decide +kernel) (by decide +kernel)
theorem inst_X8_keyNumber : Cond.instanceMethod yX8_keyNumber ∈ gl := gl_mem 520 (by decide +kernel) (by decide +kernel)
theorem sel_X8_keyNumber : Cond.selects yX8_keyNumber.cls yX8_keyNumber yX8_keyNumber ∈ gl := gl_mem 521 (by decide +kernel) (by decide +kernel)
theorem inst_X3_spell : Cond.instanceMethod yX3_spell ∈ gl := gl_mem 524 (by decide +kernel) (by decide +kernel)
theorem sel_X3_spell : Cond.selects yX3_spell.cls yX3_spell yX3_spell ∈ gl := gl_mem 525 (by decide +kernel) (by decide +kernel)
theorem inst_X3_lead : Cond.instanceMethod yX3_lead ∈ gl := gl_mem 528 (by decide +kernel) (by decide +kernel)
theorem sel_X3_lead : Cond.selects yX3_lead.cls yX3_lead yX3_lead ∈ gl := gl_mem 529 (by decide +kernel) (by decide +kernel)
theorem inst_X7_setByte : Cond.instanceMethod yX7_setByte ∈ gl := gl_mem 532 (by decide +kernel) (by decide +kernel)
theorem sel_X7_setByte : Cond.selects yX7_setByte.cls yX7_setByte yX7_setByte ∈ gl := gl_mem 533 (by decide +kernel) (by decide +kernel)
theorem inst_X9_commit : Cond.instanceMethod yX9_commit ∈ gl := gl_mem 536 (by decide +kernel) (by decide +kernel)
theorem sel_X9_commit : Cond.selects yX9_commit.cls yX9_commit yX9_commit ∈ gl := gl_mem 537 (by decide +kernel) (by decide +kernel)
theorem inst_X8_freshNodes : Cond.instanceMethod yX8_freshNodes ∈ gl := gl_mem 540 (by decide +kernel) (by decide +kernel)
theorem sel_X8_freshNodes : Cond.selects yX8_freshNodes.cls yX8_freshNodes yX8_freshNodes ∈ gl := gl_mem 541 (by decide +kernel) (by decide +kernel)
theorem inst_X9_freePages : Cond.instanceMethod yX9_freePages ∈ gl := gl_mem 545 (by decide +kernel) (by decide +kernel)
theorem inst_X8_nodesOnPages : Cond.instanceMethod yX8_nodesOnPages ∈ gl := gl_mem 548 (by decide +kernel) (by decide +kernel)
theorem sel_X8_nodesOnPages : Cond.selects yX8_nodesOnPages.cls yX8_nodesOnPages yX8_nodesOnPages ∈ gl := gl_mem 549 (by decide +kernel) (by decide +kernel)
theorem inst_X6_save : Cond.instanceMethod yX6_save ∈ gl := gl_mem 552 (by decide +kernel) (by decide +kernel)
theorem sel_X6_save : Cond.selects yX6_save.cls yX6_save yX6_save ∈ gl := gl_mem 553 (by decide +kernel) (by decide +kernel)
theorem inst_X6_markPagesOf : Cond.instanceMethod yX6_markPagesOf ∈ gl := gl_mem 557 (by decide +kernel) (by decide +kernel)
theorem inst_X6_freeAllPages : Cond.instanceMethod yX6_freeAllPages ∈ gl := gl_mem 561 (by decide +kernel) (by decide +kernel)
theorem inst_X6_takePage : Cond.instanceMethod yX6_takePage ∈ gl := gl_mem 565 (by decide +kernel) (by decide +kernel)
theorem inst_X3_lowest : Cond.instanceMethod yX3_lowest ∈ gl := gl_mem 569 (by decide +kernel) (by decide +kernel)
theorem sel_X3_lowest : Cond.selects yX3_lowest.cls yX3_lowest yX3_lowest ∈ gl := gl_mem 570 (by decide +kernel) (by decide +kernel)
theorem inst_X6_saveNode : Cond.instanceMethod yX6_saveNode ∈ gl := gl_mem 574 (by decide +kernel) (by decide +kernel)
theorem inst_X6_takeLeastPage : Cond.instanceMethod yX6_takeLeastPage ∈ gl := gl_mem 578 (by decide +kernel) (by decide +kernel)
theorem stat_X4_fill : Cond.static yX4_fill ∈ gl := gl_mem 581 (by decide +kernel) (by decide +kernel)
theorem inst_X5_wipe : Cond.instanceMethod yX5_wipe ∈ gl := gl_mem 584 (by decide +kernel) (by decide +kernel)
theorem sel_X5_wipe : Cond.selects yX5_wipe.cls yX5_wipe yX5_wipe ∈ gl := gl_mem 585 (by decide +kernel) (by decide +kernel)
theorem inst_X5_set : Cond.instanceMethod yX5_set ∈ gl := gl_mem 588 (by decide +kernel) (by decide +kernel)
theorem sel_X5_set : Cond.selects yX5_set.cls yX5_set yX5_set ∈ gl := gl_mem 589 (by decide +kernel) (by decide +kernel)
theorem inst_X5_setLong : Cond.instanceMethod yX5_setLong ∈ gl := gl_mem 592 (by decide +kernel) (by decide +kernel)
theorem sel_X5_setLong : Cond.selects yX5_setLong.cls yX5_setLong yX5_setLong ∈ gl := gl_mem 593 (by decide +kernel) (by decide +kernel)
theorem stat_X4_fillTable : Cond.static yX4_fillTable ∈ gl := gl_mem 597 (by decide +kernel) (by decide +kernel)
theorem inst_X5_seal : Cond.instanceMethod yX5_seal ∈ gl := gl_mem 601 (by decide +kernel) (by decide +kernel)
theorem sel_X5_seal : Cond.selects yX5_seal.cls yX5_seal yX5_seal ∈ gl := gl_mem 602 (by decide +kernel) (by decide +kernel)
theorem inst_X0_write : Cond.instanceMethod yX0_write ∈ gl := gl_mem 607 (by decide +kernel) (by decide +kernel)
theorem sel_X0_write : Cond.selects yX0_write.cls yX0_write yX0_write ∈ gl := gl_mem 608 (by decide +kernel) (by decide +kernel)
theorem stat_X0_has : Cond.static yX0_has ∈ gl := gl_mem 611 (by decide +kernel) (by decide +kernel)
theorem inst_X0_setByte : Cond.instanceMethod yX0_setByte ∈ gl := gl_mem 617 (by decide +kernel) (by decide +kernel)
theorem sel_X0_setByte : Cond.selects yX0_setByte.cls yX0_setByte yX0_setByte ∈ gl := gl_mem 618 (by decide +kernel) (by decide +kernel)
theorem inst_X3_above : Cond.instanceMethod yX3_above ∈ gl := gl_mem 621 (by decide +kernel) (by decide +kernel)
theorem sel_X3_above : Cond.selects yX3_above.cls yX3_above yX3_above ∈ gl := gl_mem 622 (by decide +kernel) (by decide +kernel)
theorem stat_X2_fill : Cond.static yX2_fill ∈ gl := gl_mem 626 (by decide +kernel) (by decide +kernel)
theorem inst_X8_settle : Cond.instanceMethod yX8_settle ∈ gl := gl_mem 633 (by decide +kernel) (by decide +kernel)
theorem sel_X8_settle : Cond.selects yX8_settle.cls yX8_settle yX8_settle ∈ gl := gl_mem 634 (by decide +kernel) (by decide +kernel)
theorem inst_X8_become : Cond.instanceMethod yX8_become ∈ gl := gl_mem 637 (by decide +kernel) (by decide +kernel)
theorem sel_X8_become : Cond.selects yX8_become.cls yX8_become yX8_become ∈ gl := gl_mem 638 (by decide +kernel) (by decide +kernel)
theorem inst_X3_mirror : Cond.instanceMethod yX3_mirror ∈ gl := gl_mem 641 (by decide +kernel) (by decide +kernel)
theorem sel_X3_mirror : Cond.selects yX3_mirror.cls yX3_mirror yX3_mirror ∈ gl := gl_mem 642 (by decide +kernel) (by decide +kernel)
theorem stat_X3_twinOf : Cond.static yX3_twinOf ∈ gl := gl_mem 645 (by decide +kernel) (by decide +kernel)
theorem inst_X9_back : Cond.instanceMethod yX9_back ∈ gl := gl_mem 648 (by decide +kernel) (by decide +kernel)
theorem sel_X9_back : Cond.selects yX9_back.cls yX9_back yX9_back ∈ gl := gl_mem 649 (by decide +kernel) (by decide +kernel)
theorem inst_X9_count : Cond.instanceMethod yX9_count ∈ gl := gl_mem 652 (by decide +kernel) (by decide +kernel)
theorem sel_X9_count : Cond.selects yX9_count.cls yX9_count yX9_count ∈ gl := gl_mem 653 (by decide +kernel) (by decide +kernel)
theorem inst_X8_nodesOfFormat : Cond.instanceMethod yX8_nodesOfFormat ∈ gl := gl_mem 656 (by decide +kernel) (by decide +kernel)
theorem sel_X8_nodesOfFormat : Cond.selects yX8_nodesOfFormat.cls yX8_nodesOfFormat yX8_nodesOfFormat ∈ gl := gl_mem 657 (by decide +kernel) (by decide +kernel)
theorem inst_X8_depth : Cond.instanceMethod yX8_depth ∈ gl := gl_mem 660 (by decide +kernel) (by decide +kernel)
theorem sel_X8_depth : Cond.selects yX8_depth.cls yX8_depth yX8_depth ∈ gl := gl_mem 661 (by decide +kernel) (by decide +kernel)
theorem inst_X3_level : Cond.instanceMethod yX3_level ∈ gl := gl_mem 664 (by decide +kernel) (by decide +kernel)
theorem sel_X3_level : Cond.selects yX3_level.cls yX3_level yX3_level ∈ gl := gl_mem 665 (by decide +kernel) (by decide +kernel)
theorem inst_X9_node : Cond.instanceMethod yX9_node ∈ gl := gl_mem 669 (by decide +kernel) (by decide +kernel)
theorem sel_X9_node : Cond.selects yX9_node.cls yX9_node yX9_node ∈ gl := gl_mem 670 (by decide +kernel) (by decide +kernel)
theorem inst_X8_nodeNumber : Cond.instanceMethod yX8_nodeNumber ∈ gl := gl_mem 673 (by decide +kernel) (by decide +kernel)
theorem sel_X8_nodeNumber : Cond.selects yX8_nodeNumber.cls yX8_nodeNumber yX8_nodeNumber ∈ gl := gl_mem 674 (by decide +kernel) (by decide +kernel)
theorem inst_X9_power : Cond.instanceMethod yX9_power ∈ gl := gl_mem 678 (by decide +kernel) (by decide +kernel)
theorem sel_X9_power : Cond.selects yX9_power.cls yX9_power yX9_power ∈ gl := gl_mem 679 (by decide +kernel) (by decide +kernel)
theorem inst_X0_setPower : Cond.instanceMethod yX0_setPower ∈ gl := gl_mem 682 (by decide +kernel) (by decide +kernel)
theorem sel_X0_setPower : Cond.selects yX0_setPower.cls yX0_setPower yX0_setPower ∈ gl := gl_mem 683 (by decide +kernel) (by decide +kernel)
theorem inst_X9_start : Cond.instanceMethod yX9_start ∈ gl := gl_mem 686 (by decide +kernel) (by decide +kernel)
theorem sel_X9_start : Cond.selects yX9_start.cls yX9_start yX9_start ∈ gl := gl_mem 687 (by decide +kernel) (by decide +kernel)
theorem inst_X6_load : Cond.instanceMethod yX6_load ∈ gl := gl_mem 690 (by decide +kernel) (by decide +kernel)
theorem sel_X6_load : Cond.selects yX6_load.cls yX6_load yX6_load ∈ gl := gl_mem 691 (by decide +kernel) (by decide +kernel)
theorem inst_X6_rightSequence : Cond.instanceMethod yX6_rightSequence ∈ gl := gl_mem 695 (by decide +kernel) (by decide +kernel)
theorem inst_X0_read : Cond.instanceMethod yX0_read ∈ gl := gl_mem 698 (by decide +kernel) (by decide +kernel)
theorem sel_X0_read : Cond.selects yX0_read.cls yX0_read yX0_read ∈ gl := gl_mem 699 (by decide +kernel) (by decide +kernel)
theorem stat_X2_sequence : Cond.static yX2_sequence ∈ gl := gl_mem 702 (by decide +kernel) (by decide +kernel)
theorem inst_X5_longAt : Cond.instanceMethod yX5_longAt ∈ gl := gl_mem 705 (by decide +kernel) (by decide +kernel)
theorem sel_X5_longAt : Cond.selects yX5_longAt.cls yX5_longAt yX5_longAt ∈ gl := gl_mem 706 (by decide +kernel) (by decide +kernel)
theorem inst_X5_at : Cond.instanceMethod yX5_at ∈ gl := gl_mem 709 (by decide +kernel) (by decide +kernel)
theorem sel_X5_at : Cond.selects yX5_at.cls yX5_at yX5_at ∈ gl := gl_mem 710 (by decide +kernel) (by decide +kernel)
theorem stat_X2_rootPage : Cond.static yX2_rootPage ∈ gl := gl_mem 715 (by decide +kernel) (by decide +kernel)
theorem stat_X2_keys : Cond.static yX2_keys ∈ gl := gl_mem 719 (by decide +kernel) (by decide +kernel)
theorem inst_X5_same : Cond.instanceMethod yX5_same ∈ gl := gl_mem 722 (by decide +kernel) (by decide +kernel)
theorem sel_X5_same : Cond.selects yX5_same.cls yX5_same yX5_same ∈ gl := gl_mem 723 (by decide +kernel) (by decide +kernel)
theorem inst_X6_loadBy : Cond.instanceMethod yX6_loadBy ∈ gl := gl_mem 728 (by decide +kernel) (by decide +kernel)
theorem inst_X6_loadNode : Cond.instanceMethod yX6_loadNode ∈ gl := gl_mem 733 (by decide +kernel) (by decide +kernel)
theorem stat_X1_is : Cond.static yX1_is ∈ gl := gl_mem 738 (by decide +kernel) (by decide +kernel)
theorem inst_X6_hangListed : Cond.instanceMethod yX6_hangListed ∈ gl := gl_mem 746 (by decide +kernel) (by decide +kernel)
theorem inst_X6_hangBehind : Cond.instanceMethod yX6_hangBehind ∈ gl := gl_mem 751 (by decide +kernel) (by decide +kernel)
theorem inst_X6_hangMapped : Cond.instanceMethod yX6_hangMapped ∈ gl := gl_mem 756 (by decide +kernel) (by decide +kernel)
theorem inst_X3_hasReason : Cond.instanceMethod yX3_hasReason ∈ gl := gl_mem 760 (by decide +kernel) (by decide +kernel)
theorem sel_X3_hasReason : Cond.selects yX3_hasReason.cls yX3_hasReason yX3_hasReason ∈ gl := gl_mem 761 (by decide +kernel) (by decide +kernel)
theorem inst_X9_halt : Cond.instanceMethod yX9_halt ∈ gl := gl_mem 765 (by decide +kernel) (by decide +kernel)
theorem sel_X9_halt : Cond.selects yX9_halt.cls yX9_halt yX9_halt ∈ gl := gl_mem 766 (by decide +kernel) (by decide +kernel)
theorem stat_L_type : Cond.static yL_type ∈ gl := gl_mem 769 (by decide +kernel) (by decide +kernel)
theorem inst_X9_type : Cond.instanceMethod yX9_type ∈ gl := gl_mem 774 (by decide +kernel) (by decide +kernel)
theorem sel_X9_type : Cond.selects yX9_type.cls yX9_type yX9_type ∈ gl := gl_mem 775 (by decide +kernel) (by decide +kernel)
theorem inst_X7_append : Cond.instanceMethod yX7_append ∈ gl := gl_mem 861 (by decide +kernel) (by decide +kernel)
theorem sel_X7_append : Cond.selects yX7_append.cls yX7_append yX7_append ∈ gl := gl_mem 862 (by decide +kernel) (by decide +kernel)
theorem stat_L_cut : Cond.static yL_cut ∈ gl := gl_mem 866 (by decide +kernel) (by decide +kernel)
theorem inst_X9_cut : Cond.instanceMethod yX9_cut ∈ gl := gl_mem 869 (by decide +kernel) (by decide +kernel)
theorem sel_X9_cut : Cond.selects yX9_cut.cls yX9_cut yX9_cut ∈ gl := gl_mem 870 (by decide +kernel) (by decide +kernel)
theorem stat_L_octet : Cond.static yL_octet ∈ gl := gl_mem 874 (by decide +kernel) (by decide +kernel)
theorem inst_X9_octet : Cond.instanceMethod yX9_octet ∈ gl := gl_mem 878 (by decide +kernel) (by decide +kernel)
theorem sel_X9_octet : Cond.selects yX9_octet.cls yX9_octet yX9_octet ∈ gl := gl_mem 879 (by decide +kernel) (by decide +kernel)
theorem inst_X0_byteAt : Cond.instanceMethod yX0_byteAt ∈ gl := gl_mem 899 (by decide +kernel) (by decide +kernel)
theorem sel_X0_byteAt : Cond.selects yX0_byteAt.cls yX0_byteAt yX0_byteAt ∈ gl := gl_mem 900 (by decide +kernel) (by decide +kernel)
theorem stat_L_poke : Cond.static yL_poke ∈ gl := gl_mem 903 (by decide +kernel) (by decide +kernel)
theorem inst_X9_poke : Cond.instanceMethod yX9_poke ∈ gl := gl_mem 906 (by decide +kernel) (by decide +kernel)
theorem sel_X9_poke : Cond.selects yX9_poke.cls yX9_poke yX9_poke ∈ gl := gl_mem 907 (by decide +kernel) (by decide +kernel)
theorem inst_X10_init : Cond.instanceMethod yX10_init ∈ gl := gl_mem 913 (by decide +kernel) (by decide +kernel)
theorem inst_X10_clear : Cond.instanceMethod yX10_clear ∈ gl := gl_mem 919 (by decide +kernel) (by decide +kernel)
theorem inst_X10_newNode : Cond.instanceMethod yX10_newNode ∈ gl := gl_mem 923 (by decide +kernel) (by decide +kernel)
theorem inst_X10_keep : Cond.instanceMethod yX10_keep ∈ gl := gl_mem 927 (by decide +kernel) (by decide +kernel)
theorem inst_X10_copy : Cond.instanceMethod yX10_copy ∈ gl := gl_mem 931 (by decide +kernel) (by decide +kernel)
theorem inst_X10_thrown : Cond.instanceMethod yX10_thrown ∈ gl := gl_mem 1017 (by decide +kernel) (by decide +kernel)
theorem sel_X10_thrown : Cond.selects yX10_thrown.cls yX10_thrown yX10_thrown ∈ gl := gl_mem 1018 (by decide +kernel) (by decide +kernel)
theorem inst_X10_type : Cond.instanceMethod yX10_type ∈ gl := gl_mem 1021 (by decide +kernel) (by decide +kernel)
theorem sel_X10_type : Cond.selects yX10_type.cls yX10_type yX10_type ∈ gl := gl_mem 1022 (by decide +kernel) (by decide +kernel)
theorem stat_X10_in : Cond.static yX10_in ∈ gl := gl_mem 1026 (by decide +kernel) (by decide +kernel)
theorem inst_X10_cut : Cond.instanceMethod yX10_cut ∈ gl := gl_mem 1030 (by decide +kernel) (by decide +kernel)
theorem sel_X10_cut : Cond.selects yX10_cut.cls yX10_cut yX10_cut ∈ gl := gl_mem 1031 (by decide +kernel) (by decide +kernel)
theorem inst_X10_tapeAt : Cond.instanceMethod yX10_tapeAt ∈ gl := gl_mem 1034 (by decide +kernel) (by decide +kernel)
theorem sel_X10_tapeAt : Cond.selects yX10_tapeAt.cls yX10_tapeAt yX10_tapeAt ∈ gl := gl_mem 1035 (by decide +kernel) (by decide +kernel)
theorem inst_X10_put : Cond.instanceMethod yX10_put ∈ gl := gl_mem 1038 (by decide +kernel) (by decide +kernel)
theorem sel_X10_put : Cond.selects yX10_put.cls yX10_put yX10_put ∈ gl := gl_mem 1039 (by decide +kernel) (by decide +kernel)
theorem inst_X10_isKey : Cond.instanceMethod yX10_isKey ∈ gl := gl_mem 1043 (by decide +kernel) (by decide +kernel)
theorem inst_X10_isFound : Cond.instanceMethod yX10_isFound ∈ gl := gl_mem 1048 (by decide +kernel) (by decide +kernel)
theorem inst_X10_seek : Cond.instanceMethod yX10_seek ∈ gl := gl_mem 1052 (by decide +kernel) (by decide +kernel)
theorem inst_X10_child : Cond.instanceMethod yX10_child ∈ gl := gl_mem 1056 (by decide +kernel) (by decide +kernel)
theorem inst_X10_childFrom : Cond.instanceMethod yX10_childFrom ∈ gl := gl_mem 1060 (by decide +kernel) (by decide +kernel)
theorem inst_X10_freshen : Cond.instanceMethod yX10_freshen ∈ gl := gl_mem 1064 (by decide +kernel) (by decide +kernel)
theorem inst_X10_children : Cond.instanceMethod yX10_children ∈ gl := gl_mem 1068 (by decide +kernel) (by decide +kernel)
theorem inst_X10_setPrefix : Cond.instanceMethod yX10_setPrefix ∈ gl := gl_mem 1072 (by decide +kernel) (by decide +kernel)
theorem inst_X10_give : Cond.instanceMethod yX10_give ∈ gl := gl_mem 1076 (by decide +kernel) (by decide +kernel)
theorem inst_X10_nodes : Cond.instanceMethod yX10_nodes ∈ gl := gl_mem 1080 (by decide +kernel) (by decide +kernel)
theorem inst_X10_cutInTwo : Cond.instanceMethod yX10_cutInTwo ∈ gl := gl_mem 1084 (by decide +kernel) (by decide +kernel)
theorem stat_X10_room : Cond.static yX10_room ∈ gl := gl_mem 1087 (by decide +kernel) (by decide +kernel)
theorem inst_X10_remove : Cond.instanceMethod yX10_remove ∈ gl := gl_mem 1090 (by decide +kernel) (by decide +kernel)
theorem sel_X10_remove : Cond.selects yX10_remove.cls yX10_remove yX10_remove ∈ gl := gl_mem 1091 (by decide +kernel) (by decide +kernel)
theorem inst_X10_putTogether : Cond.instanceMethod yX10_putTogether ∈ gl := gl_mem 1095 (by decide +kernel) (by decide +kernel)
theorem inst_X10_get : Cond.instanceMethod yX10_get ∈ gl := gl_mem 1098 (by decide +kernel) (by decide +kernel)
theorem sel_X10_get : Cond.selects yX10_get.cls yX10_get yX10_get ∈ gl := gl_mem 1099 (by decide +kernel) (by decide +kernel)
theorem inst_X10_with : Cond.instanceMethod yX10_with ∈ gl := gl_mem 1102 (by decide +kernel) (by decide +kernel)
theorem sel_X10_with : Cond.selects yX10_with.cls yX10_with yX10_with ∈ gl := gl_mem 1103 (by decide +kernel) (by decide +kernel)
theorem inst_X10_countKeys : Cond.instanceMethod yX10_countKeys ∈ gl := gl_mem 1107 (by decide +kernel) (by decide +kernel)
theorem inst_X10_tell : Cond.instanceMethod yX10_tell ∈ gl := gl_mem 1111 (by decide +kernel) (by decide +kernel)
theorem inst_X10_lead : Cond.instanceMethod yX10_lead ∈ gl := gl_mem 1115 (by decide +kernel) (by decide +kernel)
theorem inst_X10_begins : Cond.instanceMethod yX10_begins ∈ gl := gl_mem 1119 (by decide +kernel) (by decide +kernel)
theorem inst_X10_isBefore : Cond.instanceMethod yX10_isBefore ∈ gl := gl_mem 1123 (by decide +kernel) (by decide +kernel)
theorem inst_X10_next : Cond.instanceMethod yX10_next ∈ gl := gl_mem 1127 (by decide +kernel) (by decide +kernel)
theorem inst_X10_before : Cond.instanceMethod yX10_before ∈ gl := gl_mem 1130 (by decide +kernel) (by decide +kernel)
theorem sel_X10_before : Cond.selects yX10_before.cls yX10_before yX10_before ∈ gl := gl_mem 1131 (by decide +kernel) (by decide +kernel)
theorem inst_X10_nth : Cond.instanceMethod yX10_nth ∈ gl := gl_mem 1134 (by decide +kernel) (by decide +kernel)
theorem sel_X10_nth : Cond.selects yX10_nth.cls yX10_nth yX10_nth ∈ gl := gl_mem 1135 (by decide +kernel) (by decide +kernel)
theorem inst_X10_keys : Cond.instanceMethod yX10_keys ∈ gl := gl_mem 1139 (by decide +kernel) (by decide +kernel)
theorem inst_X10_commit : Cond.instanceMethod yX10_commit ∈ gl := gl_mem 1142 (by decide +kernel) (by decide +kernel)
theorem sel_X10_commit : Cond.selects yX10_commit.cls yX10_commit yX10_commit ∈ gl := gl_mem 1143 (by decide +kernel) (by decide +kernel)
theorem inst_X10_freshMany : Cond.instanceMethod yX10_freshMany ∈ gl := gl_mem 1147 (by decide +kernel) (by decide +kernel)
theorem inst_X10_findTaken : Cond.instanceMethod yX10_findTaken ∈ gl := gl_mem 1151 (by decide +kernel) (by decide +kernel)
theorem inst_X10_deepest : Cond.instanceMethod yX10_deepest ∈ gl := gl_mem 1155 (by decide +kernel) (by decide +kernel)
theorem inst_X10_writeNode : Cond.instanceMethod yX10_writeNode ∈ gl := gl_mem 1159 (by decide +kernel) (by decide +kernel)
theorem inst_X10_beginSheet : Cond.instanceMethod yX10_beginSheet ∈ gl := gl_mem 1163 (by decide +kernel) (by decide +kernel)
theorem inst_X10_number : Cond.instanceMethod yX10_number ∈ gl := gl_mem 1167 (by decide +kernel) (by decide +kernel)
theorem inst_X10_write : Cond.instanceMethod yX10_write ∈ gl := gl_mem 1171 (by decide +kernel) (by decide +kernel)
theorem stat_X10_sum : Cond.static yX10_sum ∈ gl := gl_mem 1174 (by decide +kernel) (by decide +kernel)
theorem inst_X10_back : Cond.instanceMethod yX10_back ∈ gl := gl_mem 1179 (by decide +kernel) (by decide +kernel)
theorem sel_X10_back : Cond.selects yX10_back.cls yX10_back yX10_back ∈ gl := gl_mem 1180 (by decide +kernel) (by decide +kernel)
theorem inst_X10_count : Cond.instanceMethod yX10_count ∈ gl := gl_mem 1183 (by decide +kernel) (by decide +kernel)
theorem sel_X10_count : Cond.selects yX10_count.cls yX10_count yX10_count ∈ gl := gl_mem 1184 (by decide +kernel) (by decide +kernel)
theorem inst_X10_depth : Cond.instanceMethod yX10_depth ∈ gl := gl_mem 1188 (by decide +kernel) (by decide +kernel)
theorem inst_X10_node : Cond.instanceMethod yX10_node ∈ gl := gl_mem 1191 (by decide +kernel) (by decide +kernel)
theorem sel_X10_node : Cond.selects yX10_node.cls yX10_node yX10_node ∈ gl := gl_mem 1192 (by decide +kernel) (by decide +kernel)
theorem inst_X10_ofNode : Cond.instanceMethod yX10_ofNode ∈ gl := gl_mem 1197 (by decide +kernel) (by decide +kernel)
theorem inst_X10_power : Cond.instanceMethod yX10_power ∈ gl := gl_mem 1200 (by decide +kernel) (by decide +kernel)
theorem sel_X10_power : Cond.selects yX10_power.cls yX10_power yX10_power ∈ gl := gl_mem 1201 (by decide +kernel) (by decide +kernel)
theorem inst_X10_halt : Cond.instanceMethod yX10_halt ∈ gl := gl_mem 1207 (by decide +kernel) (by decide +kernel)
theorem sel_X10_halt : Cond.selects yX10_halt.cls yX10_halt yX10_halt ∈ gl := gl_mem 1208 (by decide +kernel) (by decide +kernel)
theorem inst_X10_start : Cond.instanceMethod yX10_start ∈ gl := gl_mem 1211 (by decide +kernel) (by decide +kernel)
theorem sel_X10_start : Cond.selects yX10_start.cls yX10_start yX10_start ∈ gl := gl_mem 1212 (by decide +kernel) (by decide +kernel)
theorem inst_X10_headOf : Cond.instanceMethod yX10_headOf ∈ gl := gl_mem 1216 (by decide +kernel) (by decide +kernel)
theorem stat_X10_numberAt : Cond.static yX10_numberAt ∈ gl := gl_mem 1219 (by decide +kernel) (by decide +kernel)
theorem inst_X10_readTree : Cond.instanceMethod yX10_readTree ∈ gl := gl_mem 1224 (by decide +kernel) (by decide +kernel)
theorem inst_X10_readNode : Cond.instanceMethod yX10_readNode ∈ gl := gl_mem 1228 (by decide +kernel) (by decide +kernel)
theorem inst_X10_readChildren : Cond.instanceMethod yX10_readChildren ∈ gl := gl_mem 1233 (by decide +kernel) (by decide +kernel)
theorem inst_X10_octet : Cond.instanceMethod yX10_octet ∈ gl := gl_mem 1236 (by decide +kernel) (by decide +kernel)
theorem sel_X10_octet : Cond.selects yX10_octet.cls yX10_octet yX10_octet ∈ gl := gl_mem 1237 (by decide +kernel) (by decide +kernel)
theorem inst_X10_poke : Cond.instanceMethod yX10_poke ∈ gl := gl_mem 1240 (by decide +kernel) (by decide +kernel)
theorem sel_X10_poke : Cond.selects yX10_poke.cls yX10_poke yX10_poke ∈ gl := gl_mem 1241 (by decide +kernel) (by decide +kernel)
theorem obj_inst : Cond.instanceMethod objectInit ∈ gl := gl_mem 92 (by decide +kernel) (by decide +kernel)
theorem obj_code : Cond.code objectInit ⟨#[0xb1]⟩ 1 none ∈ gl := gl_mem 93 (by decide +kernel) (by decide +kernel)
theorem stat_max : Cond.static Lib.Math.max.name ∈ gl := gl_mem 411 (by decide +kernel) (by decide +kernel)
theorem code_max : Cond.code Lib.Math.max.name Lib.Math.max.code 2 (some .int) ∈ gl := gl_mem 412 (by decide +kernel) (by decide +kernel)
theorem stat_min : Cond.static Lib.Math.min.name ∈ gl := gl_mem 458 (by decide +kernel) (by decide +kernel)
theorem code_min : Cond.code Lib.Math.min.name Lib.Math.min.code 2 (some .int) ∈ gl := gl_mem 459 (by decide +kernel) (by decide +kernel)
theorem nat_copy : Cond.native arraycopyName ∈ gl := gl_mem 615 (by decide +kernel) (by decide +kernel)
theorem stat_copy : Cond.static arraycopyName ∈ gl := gl_mem 614 (by decide +kernel) (by decide +kernel)
theorem arr_int : Cond.arrayClass (newarray.typeOf .int) ∈ gl := gl_mem 110 (by decide +kernel) (by decide +kernel)
theorem arr_byte : Cond.arrayClass (newarray.typeOf .byte) ∈ gl := gl_mem 260 (by decide +kernel) (by decide +kernel)
theorem arr_boolean : Cond.arrayClass (newarray.typeOf .boolean) ∈ gl := gl_mem 286 (by decide +kernel) (by decide +kernel)
theorem arr_long : Cond.arrayClass (newarray.typeOf .long) ∈ gl := gl_mem 1015 (by decide +kernel) (by decide +kernel)
theorem fl_RX7_9 : xFl RX7 9 4 0 2 := ⟨RX7, TX7, 2, rfl, by decide, by decide, lays7, gl_mem 100 (by decide +kernel) (by decide +kernel), rfl⟩
theorem fp_RX7_9 : xFp true RX7 9 4 0 2 (.array .int) := ⟨RX7, TX7, 2, tyX7, rfl, by decide, by decide, lays7, gl_mem 100 (by decide +kernel) (by decide +kernel), rfl, tyX7_ok, nmX7, by decide +kernel, by decide +kernel, fun _ => rfl⟩
theorem fl_RX7_15 : xFl RX7 15 4 1 0 := ⟨RX7, TX7, 2, rfl, by decide, by decide, lays7, gl_mem 101 (by decide +kernel) (by decide +kernel), rfl⟩
theorem fp_RX7_15 : xFp false RX7 15 4 1 0 .int := ⟨RX7, TX7, 2, tyX7, rfl, by decide, by decide, lays7, gl_mem 101 (by decide +kernel) (by decide +kernel), rfl, tyX7_ok, nmX7, by decide +kernel, by decide +kernel, fun h => by cases h⟩
theorem fl_RX9_50 : xFl RX9 50 4 1 0 := ⟨RX7, TX7, 2, rfl, by decide, by decide, lays7, gl_mem 102 (by decide +kernel) (by decide +kernel), rfl⟩
theorem fp_RX9_50 : xFp false RX9 50 4 1 0 .int := ⟨RX7, TX7, 2, tyX7, rfl, by decide, by decide, lays7, gl_mem 102 (by decide +kernel) (by decide +kernel), rfl, tyX7_ok, nmX7, by decide +kernel, by decide +kernel, fun h => by cases h⟩
theorem fl_RX8_61 : xFl RX8 61 4 1 0 := ⟨RX7, TX7, 2, rfl, by decide, by decide, lays7, gl_mem 103 (by decide +kernel) (by decide +kernel), rfl⟩
theorem fp_RX8_61 : xFp false RX8 61 4 1 0 .int := ⟨RX7, TX7, 2, tyX7, rfl, by decide, by decide, lays7, gl_mem 103 (by decide +kernel) (by decide +kernel), rfl, tyX7_ok, nmX7, by decide +kernel, by decide +kernel, fun h => by cases h⟩
theorem fl_RX3_107 : xFl RX3 107 4 1 0 := ⟨RX7, TX7, 2, rfl, by decide, by decide, lays7, gl_mem 104 (by decide +kernel) (by decide +kernel), rfl⟩
theorem fp_RX3_107 : xFp false RX3 107 4 1 0 .int := ⟨RX7, TX7, 2, tyX7, rfl, by decide, by decide, lays7, gl_mem 104 (by decide +kernel) (by decide +kernel), rfl, tyX7_ok, nmX7, by decide +kernel, by decide +kernel, fun h => by cases h⟩
theorem fl_RX3_9 : xFl RX3 9 1 0 2 := ⟨RX3, TX3, 13, rfl, by decide, by decide, lays3, gl_mem 128 (by decide +kernel) (by decide +kernel), rfl⟩
theorem fp_RX3_9 : xFp true RX3 9 1 0 2 (.array .int) := ⟨RX3, TX3, 13, tyX3, rfl, by decide, by decide, lays3, gl_mem 128 (by decide +kernel) (by decide +kernel), rfl, tyX3_ok, nmX3, by decide +kernel, by decide +kernel, fun _ => rfl⟩
theorem fl_RX3_18 : xFl RX3 18 1 1 0 := ⟨RX3, TX3, 13, rfl, by decide, by decide, lays3, gl_mem 129 (by decide +kernel) (by decide +kernel), rfl⟩
theorem fp_RX3_18 : xFp false RX3 18 1 1 0 .int := ⟨RX3, TX3, 13, tyX3, rfl, by decide, by decide, lays3, gl_mem 129 (by decide +kernel) (by decide +kernel), rfl, tyX3_ok, nmX3, by decide +kernel, by decide +kernel, fun h => by cases h⟩
theorem fl_RX4_38 : xFl RX4 38 1 1 0 := ⟨RX3, TX3, 13, rfl, by decide, by decide, lays3, gl_mem 130 (by decide +kernel) (by decide +kernel), rfl⟩
theorem fp_RX4_38 : xFp false RX4 38 1 1 0 .int := ⟨RX3, TX3, 13, tyX3, rfl, by decide, by decide, lays3, gl_mem 130 (by decide +kernel) (by decide +kernel), rfl, tyX3_ok, nmX3, by decide +kernel, by decide +kernel, fun h => by cases h⟩
theorem fl_RX8_58 : xFl RX8 58 1 1 0 := ⟨RX3, TX3, 13, rfl, by decide, by decide, lays3, gl_mem 131 (by decide +kernel) (by decide +kernel), rfl⟩
theorem fp_RX8_58 : xFp false RX8 58 1 1 0 .int := ⟨RX3, TX3, 13, tyX3, rfl, by decide, by decide, lays3, gl_mem 131 (by decide +kernel) (by decide +kernel), rfl, tyX3_ok, nmX3, by decide +kernel, by decide +kernel, fun h => by cases h⟩
theorem fl_RX9_151 : xFl RX9 151 1 1 0 := ⟨RX3, TX3, 13, rfl, by decide, by decide, lays3, gl_mem 132 (by decide +kernel) (by decide +kernel), rfl⟩
theorem fp_RX9_151 : xFp false RX9 151 1 1 0 .int := ⟨RX3, TX3, 13, tyX3, rfl, by decide, by decide, lays3, gl_mem 132 (by decide +kernel) (by decide +kernel), rfl, tyX3_ok, nmX3, by decide +kernel, by decide +kernel, fun h => by cases h⟩
theorem fl_RX3_24 : xFl RX3 24 1 2 0 := ⟨RX3, TX3, 13, rfl, by decide, by decide, lays3, gl_mem 133 (by decide +kernel) (by decide +kernel), rfl⟩
theorem fp_RX3_24 : xFp false RX3 24 1 2 0 .int := ⟨RX3, TX3, 13, tyX3, rfl, by decide, by decide, lays3, gl_mem 133 (by decide +kernel) (by decide +kernel), rfl, tyX3_ok, nmX3, by decide +kernel, by decide +kernel, fun h => by cases h⟩
theorem fl_RX4_16 : xFl RX4 16 1 2 0 := ⟨RX3, TX3, 13, rfl, by decide, by decide, lays3, gl_mem 134 (by decide +kernel) (by decide +kernel), rfl⟩
theorem fp_RX4_16 : xFp false RX4 16 1 2 0 .int := ⟨RX3, TX3, 13, tyX3, rfl, by decide, by decide, lays3, gl_mem 134 (by decide +kernel) (by decide +kernel), rfl, tyX3_ok, nmX3, by decide +kernel, by decide +kernel, fun h => by cases h⟩
theorem fl_RX6_144 : xFl RX6 144 1 2 0 := ⟨RX3, TX3, 13, rfl, by decide, by decide, lays3, gl_mem 135 (by decide +kernel) (by decide +kernel), rfl⟩
theorem fp_RX6_144 : xFp false RX6 144 1 2 0 .int := ⟨RX3, TX3, 13, tyX3, rfl, by decide, by decide, lays3, gl_mem 135 (by decide +kernel) (by decide +kernel), rfl, tyX3_ok, nmX3, by decide +kernel, by decide +kernel, fun h => by cases h⟩
theorem fl_RX9_145 : xFl RX9 145 1 2 0 := ⟨RX3, TX3, 13, rfl, by decide, by decide, lays3, gl_mem 136 (by decide +kernel) (by decide +kernel), rfl⟩
theorem fp_RX9_145 : xFp false RX9 145 1 2 0 .int := ⟨RX3, TX3, 13, tyX3, rfl, by decide, by decide, lays3, gl_mem 136 (by decide +kernel) (by decide +kernel), rfl, tyX3_ok, nmX3, by decide +kernel, by decide +kernel, fun h => by cases h⟩
theorem fl_RX8_163 : xFl RX8 163 1 2 0 := ⟨RX3, TX3, 13, rfl, by decide, by decide, lays3, gl_mem 137 (by decide +kernel) (by decide +kernel), rfl⟩
theorem fp_RX8_163 : xFp false RX8 163 1 2 0 .int := ⟨RX3, TX3, 13, tyX3, rfl, by decide, by decide, lays3, gl_mem 137 (by decide +kernel) (by decide +kernel), rfl, tyX3_ok, nmX3, by decide +kernel, by decide +kernel, fun h => by cases h⟩
theorem fl_RX3_27 : xFl RX3 27 1 3 3 := ⟨RX3, TX3, 13, rfl, by decide, by decide, lays3, gl_mem 138 (by decide +kernel) (by decide +kernel), rfl⟩
theorem fp_RX3_27 : xFp false RX3 27 1 3 3 .boolean := ⟨RX3, TX3, 13, tyX3, rfl, by decide, by decide, lays3, gl_mem 138 (by decide +kernel) (by decide +kernel), rfl, tyX3_ok, nmX3, by decide +kernel, by decide +kernel, fun h => by cases h⟩
theorem fl_RX4_26 : xFl RX4 26 1 3 3 := ⟨RX3, TX3, 13, rfl, by decide, by decide, lays3, gl_mem 139 (by decide +kernel) (by decide +kernel), rfl⟩
theorem fp_RX4_26 : xFp false RX4 26 1 3 3 .boolean := ⟨RX3, TX3, 13, tyX3, rfl, by decide, by decide, lays3, gl_mem 139 (by decide +kernel) (by decide +kernel), rfl, tyX3_ok, nmX3, by decide +kernel, by decide +kernel, fun h => by cases h⟩
theorem fl_RX8_78 : xFl RX8 78 1 3 3 := ⟨RX3, TX3, 13, rfl, by decide, by decide, lays3, gl_mem 140 (by decide +kernel) (by decide +kernel), rfl⟩
theorem fp_RX8_78 : xFp false RX8 78 1 3 3 .boolean := ⟨RX3, TX3, 13, tyX3, rfl, by decide, by decide, lays3, gl_mem 140 (by decide +kernel) (by decide +kernel), rfl, tyX3_ok, nmX3, by decide +kernel, by decide +kernel, fun h => by cases h⟩
theorem fl_RX9_154 : xFl RX9 154 1 3 3 := ⟨RX3, TX3, 13, rfl, by decide, by decide, lays3, gl_mem 141 (by decide +kernel) (by decide +kernel), rfl⟩
theorem fp_RX9_154 : xFp false RX9 154 1 3 3 .boolean := ⟨RX3, TX3, 13, tyX3, rfl, by decide, by decide, lays3, gl_mem 141 (by decide +kernel) (by decide +kernel), rfl, tyX3_ok, nmX3, by decide +kernel, by decide +kernel, fun h => by cases h⟩
theorem fl_RX3_31 : xFl RX3 31 1 4 1 := ⟨RX3, TX3, 13, rfl, by decide, by decide, lays3, gl_mem 142 (by decide +kernel) (by decide +kernel), rfl⟩
theorem fp_RX3_31 : xFp false RX3 31 1 4 1 .long := ⟨RX3, TX3, 13, tyX3, rfl, by decide, by decide, lays3, gl_mem 142 (by decide +kernel) (by decide +kernel), rfl, tyX3_ok, nmX3, by decide +kernel, by decide +kernel, fun h => by cases h⟩
theorem fl_RX4_30 : xFl RX4 30 1 4 1 := ⟨RX3, TX3, 13, rfl, by decide, by decide, lays3, gl_mem 143 (by decide +kernel) (by decide +kernel), rfl⟩
theorem fp_RX4_30 : xFp false RX4 30 1 4 1 .long := ⟨RX3, TX3, 13, tyX3, rfl, by decide, by decide, lays3, gl_mem 143 (by decide +kernel) (by decide +kernel), rfl, tyX3_ok, nmX3, by decide +kernel, by decide +kernel, fun h => by cases h⟩
theorem fl_RX9_85 : xFl RX9 85 1 4 1 := ⟨RX3, TX3, 13, rfl, by decide, by decide, lays3, gl_mem 144 (by decide +kernel) (by decide +kernel), rfl⟩
theorem fp_RX9_85 : xFp false RX9 85 1 4 1 .long := ⟨RX3, TX3, 13, tyX3, rfl, by decide, by decide, lays3, gl_mem 144 (by decide +kernel) (by decide +kernel), rfl, tyX3_ok, nmX3, by decide +kernel, by decide +kernel, fun h => by cases h⟩
theorem fl_RX8_100 : xFl RX8 100 1 4 1 := ⟨RX3, TX3, 13, rfl, by decide, by decide, lays3, gl_mem 145 (by decide +kernel) (by decide +kernel), rfl⟩
theorem fp_RX8_100 : xFp false RX8 100 1 4 1 .long := ⟨RX3, TX3, 13, tyX3, rfl, by decide, by decide, lays3, gl_mem 145 (by decide +kernel) (by decide +kernel), rfl, tyX3_ok, nmX3, by decide +kernel, by decide +kernel, fun h => by cases h⟩
theorem fl_RX6_177 : xFl RX6 177 1 4 1 := ⟨RX3, TX3, 13, rfl, by decide, by decide, lays3, gl_mem 146 (by decide +kernel) (by decide +kernel), rfl⟩
theorem fp_RX6_177 : xFp false RX6 177 1 4 1 .long := ⟨RX3, TX3, 13, tyX3, rfl, by decide, by decide, lays3, gl_mem 146 (by decide +kernel) (by decide +kernel), rfl, tyX3_ok, nmX3, by decide +kernel, by decide +kernel, fun h => by cases h⟩
theorem fl_RX3_35 : xFl RX3 35 1 5 0 := ⟨RX3, TX3, 13, rfl, by decide, by decide, lays3, gl_mem 147 (by decide +kernel) (by decide +kernel), rfl⟩
theorem fp_RX3_35 : xFp false RX3 35 1 5 0 .int := ⟨RX3, TX3, 13, tyX3, rfl, by decide, by decide, lays3, gl_mem 147 (by decide +kernel) (by decide +kernel), rfl, tyX3_ok, nmX3, by decide +kernel, by decide +kernel, fun h => by cases h⟩
theorem fl_RX4_45 : xFl RX4 45 1 5 0 := ⟨RX3, TX3, 13, rfl, by decide, by decide, lays3, gl_mem 148 (by decide +kernel) (by decide +kernel), rfl⟩
theorem fp_RX4_45 : xFp false RX4 45 1 5 0 .int := ⟨RX3, TX3, 13, tyX3, rfl, by decide, by decide, lays3, gl_mem 148 (by decide +kernel) (by decide +kernel), rfl, tyX3_ok, nmX3, by decide +kernel, by decide +kernel, fun h => by cases h⟩
theorem fl_RX6_197 : xFl RX6 197 1 5 0 := ⟨RX3, TX3, 13, rfl, by decide, by decide, lays3, gl_mem 149 (by decide +kernel) (by decide +kernel), rfl⟩
theorem fp_RX6_197 : xFp false RX6 197 1 5 0 .int := ⟨RX3, TX3, 13, tyX3, rfl, by decide, by decide, lays3, gl_mem 149 (by decide +kernel) (by decide +kernel), rfl, tyX3_ok, nmX3, by decide +kernel, by decide +kernel, fun h => by cases h⟩
theorem fl_RX9_148 : xFl RX9 148 1 5 0 := ⟨RX3, TX3, 13, rfl, by decide, by decide, lays3, gl_mem 150 (by decide +kernel) (by decide +kernel), rfl⟩
theorem fp_RX9_148 : xFp false RX9 148 1 5 0 .int := ⟨RX3, TX3, 13, tyX3, rfl, by decide, by decide, lays3, gl_mem 150 (by decide +kernel) (by decide +kernel), rfl, tyX3_ok, nmX3, by decide +kernel, by decide +kernel, fun h => by cases h⟩
theorem fl_RX8_149 : xFl RX8 149 1 5 0 := ⟨RX3, TX3, 13, rfl, by decide, by decide, lays3, gl_mem 151 (by decide +kernel) (by decide +kernel), rfl⟩
theorem fp_RX8_149 : xFp false RX8 149 1 5 0 .int := ⟨RX3, TX3, 13, tyX3, rfl, by decide, by decide, lays3, gl_mem 151 (by decide +kernel) (by decide +kernel), rfl, tyX3_ok, nmX3, by decide +kernel, by decide +kernel, fun h => by cases h⟩
theorem fl_RX3_38 : xFl RX3 38 1 6 0 := ⟨RX3, TX3, 13, rfl, by decide, by decide, lays3, gl_mem 152 (by decide +kernel) (by decide +kernel), rfl⟩
theorem fp_RX3_38 : xFp false RX3 38 1 6 0 .int := ⟨RX3, TX3, 13, tyX3, rfl, by decide, by decide, lays3, gl_mem 152 (by decide +kernel) (by decide +kernel), rfl, tyX3_ok, nmX3, by decide +kernel, by decide +kernel, fun h => by cases h⟩
theorem fl_RX4_61 : xFl RX4 61 1 6 0 := ⟨RX3, TX3, 13, rfl, by decide, by decide, lays3, gl_mem 153 (by decide +kernel) (by decide +kernel), rfl⟩
theorem fp_RX4_61 : xFp false RX4 61 1 6 0 .int := ⟨RX3, TX3, 13, tyX3, rfl, by decide, by decide, lays3, gl_mem 153 (by decide +kernel) (by decide +kernel), rfl, tyX3_ok, nmX3, by decide +kernel, by decide +kernel, fun h => by cases h⟩
theorem fl_RX6_190 : xFl RX6 190 1 6 0 := ⟨RX3, TX3, 13, rfl, by decide, by decide, lays3, gl_mem 154 (by decide +kernel) (by decide +kernel), rfl⟩
theorem fp_RX6_190 : xFp false RX6 190 1 6 0 .int := ⟨RX3, TX3, 13, tyX3, rfl, by decide, by decide, lays3, gl_mem 154 (by decide +kernel) (by decide +kernel), rfl, tyX3_ok, nmX3, by decide +kernel, by decide +kernel, fun h => by cases h⟩
theorem fl_RX8_123 : xFl RX8 123 1 6 0 := ⟨RX3, TX3, 13, rfl, by decide, by decide, lays3, gl_mem 155 (by decide +kernel) (by decide +kernel), rfl⟩
theorem fp_RX8_123 : xFp false RX8 123 1 6 0 .int := ⟨RX3, TX3, 13, tyX3, rfl, by decide, by decide, lays3, gl_mem 155 (by decide +kernel) (by decide +kernel), rfl, tyX3_ok, nmX3, by decide +kernel, by decide +kernel, fun h => by cases h⟩
theorem fl_RX3_41 : xFl RX3 41 1 7 0 := ⟨RX3, TX3, 13, rfl, by decide, by decide, lays3, gl_mem 156 (by decide +kernel) (by decide +kernel), rfl⟩
theorem fp_RX3_41 : xFp false RX3 41 1 7 0 .int := ⟨RX3, TX3, 13, tyX3, rfl, by decide, by decide, lays3, gl_mem 156 (by decide +kernel) (by decide +kernel), rfl, tyX3_ok, nmX3, by decide +kernel, by decide +kernel, fun h => by cases h⟩
theorem fl_RX6_59 : xFl RX6 59 1 7 0 := ⟨RX3, TX3, 13, rfl, by decide, by decide, lays3, gl_mem 157 (by decide +kernel) (by decide +kernel), rfl⟩
theorem fp_RX6_59 : xFp false RX6 59 1 7 0 .int := ⟨RX3, TX3, 13, tyX3, rfl, by decide, by decide, lays3, gl_mem 157 (by decide +kernel) (by decide +kernel), rfl, tyX3_ok, nmX3, by decide +kernel, by decide +kernel, fun h => by cases h⟩
theorem fl_RX4_64 : xFl RX4 64 1 7 0 := ⟨RX3, TX3, 13, rfl, by decide, by decide, lays3, gl_mem 158 (by decide +kernel) (by decide +kernel), rfl⟩
theorem fp_RX4_64 : xFp false RX4 64 1 7 0 .int := ⟨RX3, TX3, 13, tyX3, rfl, by decide, by decide, lays3, gl_mem 158 (by decide +kernel) (by decide +kernel), rfl, tyX3_ok, nmX3, by decide +kernel, by decide +kernel, fun h => by cases h⟩
theorem fl_RX9_136 : xFl RX9 136 1 7 0 := ⟨RX3, TX3, 13, rfl, by decide, by decide, lays3, gl_mem 159 (by decide +kernel) (by decide +kernel), rfl⟩
theorem fp_RX9_136 : xFp false RX9 136 1 7 0 .int := ⟨RX3, TX3, 13, tyX3, rfl, by decide, by decide, lays3, gl_mem 159 (by decide +kernel) (by decide +kernel), rfl, tyX3_ok, nmX3, by decide +kernel, by decide +kernel, fun h => by cases h⟩
theorem fl_RX8_197 : xFl RX8 197 1 7 0 := ⟨RX3, TX3, 13, rfl, by decide, by decide, lays3, gl_mem 160 (by decide +kernel) (by decide +kernel), rfl⟩
theorem fp_RX8_197 : xFp false RX8 197 1 7 0 .int := ⟨RX3, TX3, 13, tyX3, rfl, by decide, by decide, lays3, gl_mem 160 (by decide +kernel) (by decide +kernel), rfl, tyX3_ok, nmX3, by decide +kernel, by decide +kernel, fun h => by cases h⟩
theorem fl_RX6_48 : xFl RX6 48 1 8 3 := ⟨RX3, TX3, 13, rfl, by decide, by decide, lays3, gl_mem 161 (by decide +kernel) (by decide +kernel), rfl⟩
theorem fp_RX6_48 : xFp false RX6 48 1 8 3 .boolean := ⟨RX3, TX3, 13, tyX3, rfl, by decide, by decide, lays3, gl_mem 161 (by decide +kernel) (by decide +kernel), rfl, tyX3_ok, nmX3, by decide +kernel, by decide +kernel, fun h => by cases h⟩
theorem fl_RX3_44 : xFl RX3 44 1 8 3 := ⟨RX3, TX3, 13, rfl, by decide, by decide, lays3, gl_mem 162 (by decide +kernel) (by decide +kernel), rfl⟩
theorem fp_RX3_44 : xFp false RX3 44 1 8 3 .boolean := ⟨RX3, TX3, 13, tyX3, rfl, by decide, by decide, lays3, gl_mem 162 (by decide +kernel) (by decide +kernel), rfl, tyX3_ok, nmX3, by decide +kernel, by decide +kernel, fun h => by cases h⟩
theorem fl_RX8_194 : xFl RX8 194 1 8 3 := ⟨RX3, TX3, 13, rfl, by decide, by decide, lays3, gl_mem 163 (by decide +kernel) (by decide +kernel), rfl⟩
theorem fp_RX8_194 : xFp false RX8 194 1 8 3 .boolean := ⟨RX3, TX3, 13, tyX3, rfl, by decide, by decide, lays3, gl_mem 163 (by decide +kernel) (by decide +kernel), rfl, tyX3_ok, nmX3, by decide +kernel, by decide +kernel, fun h => by cases h⟩
theorem fl_RX3_47 : xFl RX3 47 1 9 2 := ⟨RX3, TX3, 13, rfl, by decide, by decide, lays3, gl_mem 164 (by decide +kernel) (by decide +kernel), rfl⟩
theorem fp_RX3_47 : xFp false RX3 47 1 9 2 (.object "RadixPages$Node") := ⟨RX3, TX3, 13, tyX3, rfl, by decide, by decide, lays3, gl_mem 164 (by decide +kernel) (by decide +kernel), rfl, tyX3_ok, nmX3, by decide +kernel, by decide +kernel, fun h => by cases h⟩
theorem fl_RX6_200 : xFl RX6 200 1 9 2 := ⟨RX3, TX3, 13, rfl, by decide, by decide, lays3, gl_mem 165 (by decide +kernel) (by decide +kernel), rfl⟩
theorem fp_RX6_200 : xFp false RX6 200 1 9 2 (.object "RadixPages$Node") := ⟨RX3, TX3, 13, tyX3, rfl, by decide, by decide, lays3, gl_mem 165 (by decide +kernel) (by decide +kernel), rfl, tyX3_ok, nmX3, by decide +kernel, by decide +kernel, fun h => by cases h⟩
theorem fl_RX8_155 : xFl RX8 155 1 9 2 := ⟨RX3, TX3, 13, rfl, by decide, by decide, lays3, gl_mem 166 (by decide +kernel) (by decide +kernel), rfl⟩
theorem fp_RX8_155 : xFp false RX8 155 1 9 2 (.object "RadixPages$Node") := ⟨RX3, TX3, 13, tyX3, rfl, by decide, by decide, lays3, gl_mem 166 (by decide +kernel) (by decide +kernel), rfl, tyX3_ok, nmX3, by decide +kernel, by decide +kernel, fun h => by cases h⟩
theorem fl_RX3_51 : xFl RX3 51 1 10 2 := ⟨RX3, TX3, 13, rfl, by decide, by decide, lays3, gl_mem 167 (by decide +kernel) (by decide +kernel), rfl⟩
theorem fp_RX3_51 : xFp false RX3 51 1 10 2 (.object "RadixPages$Node") := ⟨RX3, TX3, 13, tyX3, rfl, by decide, by decide, lays3, gl_mem 167 (by decide +kernel) (by decide +kernel), rfl, tyX3_ok, nmX3, by decide +kernel, by decide +kernel, fun h => by cases h⟩
theorem fl_RX4_55 : xFl RX4 55 1 10 2 := ⟨RX3, TX3, 13, rfl, by decide, by decide, lays3, gl_mem 168 (by decide +kernel) (by decide +kernel), rfl⟩
theorem fp_RX4_55 : xFp false RX4 55 1 10 2 (.object "RadixPages$Node") := ⟨RX3, TX3, 13, tyX3, rfl, by decide, by decide, lays3, gl_mem 168 (by decide +kernel) (by decide +kernel), rfl, tyX3_ok, nmX3, by decide +kernel, by decide +kernel, fun h => by cases h⟩
theorem fl_RX8_172 : xFl RX8 172 1 10 2 := ⟨RX3, TX3, 13, rfl, by decide, by decide, lays3, gl_mem 169 (by decide +kernel) (by decide +kernel), rfl⟩
theorem fp_RX8_172 : xFp false RX8 172 1 10 2 (.object "RadixPages$Node") := ⟨RX3, TX3, 13, tyX3, rfl, by decide, by decide, lays3, gl_mem 169 (by decide +kernel) (by decide +kernel), rfl, tyX3_ok, nmX3, by decide +kernel, by decide +kernel, fun h => by cases h⟩
theorem fl_RX8_28 : xFl RX8 28 1 11 2 := ⟨RX3, TX3, 13, rfl, by decide, by decide, lays3, gl_mem 170 (by decide +kernel) (by decide +kernel), rfl⟩
theorem fp_RX8_28 : xFp false RX8 28 1 11 2 (.object "RadixPages$Node") := ⟨RX3, TX3, 13, tyX3, rfl, by decide, by decide, lays3, gl_mem 170 (by decide +kernel) (by decide +kernel), rfl, tyX3_ok, nmX3, by decide +kernel, by decide +kernel, fun h => by cases h⟩
theorem fl_RX3_54 : xFl RX3 54 1 11 2 := ⟨RX3, TX3, 13, rfl, by decide, by decide, lays3, gl_mem 171 (by decide +kernel) (by decide +kernel), rfl⟩
theorem fp_RX3_54 : xFp false RX3 54 1 11 2 (.object "RadixPages$Node") := ⟨RX3, TX3, 13, tyX3, rfl, by decide, by decide, lays3, gl_mem 171 (by decide +kernel) (by decide +kernel), rfl, tyX3_ok, nmX3, by decide +kernel, by decide +kernel, fun h => by cases h⟩
theorem fl_RX4_70 : xFl RX4 70 1 11 2 := ⟨RX3, TX3, 13, rfl, by decide, by decide, lays3, gl_mem 172 (by decide +kernel) (by decide +kernel), rfl⟩
theorem fp_RX4_70 : xFp false RX4 70 1 11 2 (.object "RadixPages$Node") := ⟨RX3, TX3, 13, tyX3, rfl, by decide, by decide, lays3, gl_mem 172 (by decide +kernel) (by decide +kernel), rfl, tyX3_ok, nmX3, by decide +kernel, by decide +kernel, fun h => by cases h⟩
theorem fl_RX3_113 : xFl RX3 113 1 12 2 := ⟨RX3, TX3, 13, rfl, by decide, by decide, lays3, gl_mem 173 (by decide +kernel) (by decide +kernel), rfl⟩
theorem fp_RX3_113 : xFp false RX3 113 1 12 2 (.object "RadixPages$Node") := ⟨RX3, TX3, 13, tyX3, rfl, by decide, by decide, lays3, gl_mem 173 (by decide +kernel) (by decide +kernel), rfl, tyX3_ok, nmX3, by decide +kernel, by decide +kernel, fun h => by cases h⟩
theorem fl_RX8_210 : xFl RX8 210 1 12 2 := ⟨RX3, TX3, 13, rfl, by decide, by decide, lays3, gl_mem 174 (by decide +kernel) (by decide +kernel), rfl⟩
theorem fp_RX8_210 : xFp false RX8 210 1 12 2 (.object "RadixPages$Node") := ⟨RX3, TX3, 13, tyX3, rfl, by decide, by decide, lays3, gl_mem 174 (by decide +kernel) (by decide +kernel), rfl, tyX3_ok, nmX3, by decide +kernel, by decide +kernel, fun h => by cases h⟩
theorem fl_RX8_11 : xFl RX8 11 5 0 2 := ⟨RX8, TX8, 8, rfl, by decide, by decide, lays8, gl_mem 207 (by decide +kernel) (by decide +kernel), rfl⟩
theorem fp_RX8_11 : xFp true RX8 11 5 0 2 (.array (.object "RadixPages$Node")) := ⟨RX8, TX8, 8, tyX8, rfl, by decide, by decide, lays8, gl_mem 207 (by decide +kernel) (by decide +kernel), rfl, tyX8_ok, nmX8, by decide +kernel, by decide +kernel, fun _ => rfl⟩
theorem fl_RX8_25 : xFl RX8 25 5 1 2 := ⟨RX8, TX8, 8, rfl, by decide, by decide, lays8, gl_mem 208 (by decide +kernel) (by decide +kernel), rfl⟩
theorem fp_RX8_25 : xFp false RX8 25 5 1 2 (.object "RadixPages$Node") := ⟨RX8, TX8, 8, tyX8, rfl, by decide, by decide, lays8, gl_mem 208 (by decide +kernel) (by decide +kernel), rfl, tyX8_ok, nmX8, by decide +kernel, by decide +kernel, fun h => by cases h⟩
theorem fl_RX8_18 : xFl RX8 18 5 2 2 := ⟨RX8, TX8, 8, rfl, by decide, by decide, lays8, gl_mem 209 (by decide +kernel) (by decide +kernel), rfl⟩
theorem fp_RX8_18 : xFp false RX8 18 5 2 2 (.object "RadixPages$Node") := ⟨RX8, TX8, 8, tyX8, rfl, by decide, by decide, lays8, gl_mem 209 (by decide +kernel) (by decide +kernel), rfl, tyX8_ok, nmX8, by decide +kernel, by decide +kernel, fun h => by cases h⟩
theorem fl_RX6_36 : xFl RX6 36 5 2 2 := ⟨RX8, TX8, 8, rfl, by decide, by decide, lays8, gl_mem 210 (by decide +kernel) (by decide +kernel), rfl⟩
theorem fp_RX6_36 : xFp false RX6 36 5 2 2 (.object "RadixPages$Node") := ⟨RX8, TX8, 8, tyX8, rfl, by decide, by decide, lays8, gl_mem 210 (by decide +kernel) (by decide +kernel), rfl, tyX8_ok, nmX8, by decide +kernel, by decide +kernel, fun h => by cases h⟩
theorem fl_RX9_132 : xFl RX9 132 5 2 2 := ⟨RX8, TX8, 8, rfl, by decide, by decide, lays8, gl_mem 211 (by decide +kernel) (by decide +kernel), rfl⟩
theorem fp_RX9_132 : xFp false RX9 132 5 2 2 (.object "RadixPages$Node") := ⟨RX8, TX8, 8, tyX8, rfl, by decide, by decide, lays8, gl_mem 211 (by decide +kernel) (by decide +kernel), rfl, tyX8_ok, nmX8, by decide +kernel, by decide +kernel, fun h => by cases h⟩
theorem fl_RX8_37 : xFl RX8 37 5 3 0 := ⟨RX8, TX8, 8, rfl, by decide, by decide, lays8, gl_mem 212 (by decide +kernel) (by decide +kernel), rfl⟩
theorem fp_RX8_37 : xFp false RX8 37 5 3 0 .int := ⟨RX8, TX8, 8, tyX8, rfl, by decide, by decide, lays8, gl_mem 212 (by decide +kernel) (by decide +kernel), rfl, tyX8_ok, nmX8, by decide +kernel, by decide +kernel, fun h => by cases h⟩
theorem fl_RX9_126 : xFl RX9 126 5 3 0 := ⟨RX8, TX8, 8, rfl, by decide, by decide, lays8, gl_mem 213 (by decide +kernel) (by decide +kernel), rfl⟩
theorem fp_RX9_126 : xFp false RX9 126 5 3 0 .int := ⟨RX8, TX8, 8, tyX8, rfl, by decide, by decide, lays8, gl_mem 213 (by decide +kernel) (by decide +kernel), rfl, tyX8_ok, nmX8, by decide +kernel, by decide +kernel, fun h => by cases h⟩
theorem fl_RX6_63 : xFl RX6 63 5 4 0 := ⟨RX8, TX8, 8, rfl, by decide, by decide, lays8, gl_mem 214 (by decide +kernel) (by decide +kernel), rfl⟩
theorem fp_RX6_63 : xFp false RX6 63 5 4 0 .int := ⟨RX8, TX8, 8, tyX8, rfl, by decide, by decide, lays8, gl_mem 214 (by decide +kernel) (by decide +kernel), rfl, tyX8_ok, nmX8, by decide +kernel, by decide +kernel, fun h => by cases h⟩
theorem fl_RX8_41 : xFl RX8 41 5 4 0 := ⟨RX8, TX8, 8, rfl, by decide, by decide, lays8, gl_mem 215 (by decide +kernel) (by decide +kernel), rfl⟩
theorem fp_RX8_41 : xFp false RX8 41 5 4 0 .int := ⟨RX8, TX8, 8, tyX8, rfl, by decide, by decide, lays8, gl_mem 215 (by decide +kernel) (by decide +kernel), rfl, tyX8_ok, nmX8, by decide +kernel, by decide +kernel, fun h => by cases h⟩
theorem fl_RX9_123 : xFl RX9 123 5 4 0 := ⟨RX8, TX8, 8, rfl, by decide, by decide, lays8, gl_mem 216 (by decide +kernel) (by decide +kernel), rfl⟩
theorem fp_RX9_123 : xFp false RX9 123 5 4 0 .int := ⟨RX8, TX8, 8, tyX8, rfl, by decide, by decide, lays8, gl_mem 216 (by decide +kernel) (by decide +kernel), rfl, tyX8_ok, nmX8, by decide +kernel, by decide +kernel, fun h => by cases h⟩
theorem fl_RX8_34 : xFl RX8 34 5 5 2 := ⟨RX8, TX8, 8, rfl, by decide, by decide, lays8, gl_mem 217 (by decide +kernel) (by decide +kernel), rfl⟩
theorem fp_RX8_34 : xFp false RX8 34 5 5 2 (.object "RadixPages$Node") := ⟨RX8, TX8, 8, tyX8, rfl, by decide, by decide, lays8, gl_mem 217 (by decide +kernel) (by decide +kernel), rfl, tyX8_ok, nmX8, by decide +kernel, by decide +kernel, fun h => by cases h⟩
theorem fl_RX8_51 : xFl RX8 51 5 6 0 := ⟨RX8, TX8, 8, rfl, by decide, by decide, lays8, gl_mem 218 (by decide +kernel) (by decide +kernel), rfl⟩
theorem fp_RX8_51 : xFp false RX8 51 5 6 0 .int := ⟨RX8, TX8, 8, tyX8, rfl, by decide, by decide, lays8, gl_mem 218 (by decide +kernel) (by decide +kernel), rfl, tyX8_ok, nmX8, by decide +kernel, by decide +kernel, fun h => by cases h⟩
theorem fl_RX8_44 : xFl RX8 44 5 7 0 := ⟨RX8, TX8, 8, rfl, by decide, by decide, lays8, gl_mem 219 (by decide +kernel) (by decide +kernel), rfl⟩
theorem fp_RX8_44 : xFp false RX8 44 5 7 0 .int := ⟨RX8, TX8, 8, tyX8, rfl, by decide, by decide, lays8, gl_mem 219 (by decide +kernel) (by decide +kernel), rfl, tyX8_ok, nmX8, by decide +kernel, by decide +kernel, fun h => by cases h⟩
theorem fl_RX0_10 : xFl RX0 10 0 0 2 := ⟨RX0, TX0, 3, rfl, by decide, by decide, lays0, gl_mem 250 (by decide +kernel) (by decide +kernel), rfl⟩
theorem fp_RX0_10 : xFp true RX0 10 0 0 2 (.array .byte) := ⟨RX0, TX0, 3, tyX0, rfl, by decide, by decide, lays0, gl_mem 250 (by decide +kernel) (by decide +kernel), rfl, tyX0_ok, nmX0, by decide +kernel, by decide +kernel, fun _ => rfl⟩
theorem fl_RX0_16 : xFl RX0 16 0 1 0 := ⟨RX0, TX0, 3, rfl, by decide, by decide, lays0, gl_mem 251 (by decide +kernel) (by decide +kernel), rfl⟩
theorem fp_RX0_16 : xFp false RX0 16 0 1 0 .int := ⟨RX0, TX0, 3, tyX0, rfl, by decide, by decide, lays0, gl_mem 251 (by decide +kernel) (by decide +kernel), rfl, tyX0_ok, nmX0, by decide +kernel, by decide +kernel, fun h => by cases h⟩
theorem fl_RX0_20 : xFl RX0 20 0 2 0 := ⟨RX0, TX0, 3, rfl, by decide, by decide, lays0, gl_mem 252 (by decide +kernel) (by decide +kernel), rfl⟩
theorem fp_RX0_20 : xFp false RX0 20 0 2 0 .int := ⟨RX0, TX0, 3, tyX0, rfl, by decide, by decide, lays0, gl_mem 252 (by decide +kernel) (by decide +kernel), rfl, tyX0_ok, nmX0, by decide +kernel, by decide +kernel, fun h => by cases h⟩
theorem fl_RX5_9 : xFl RX5 9 2 0 2 := ⟨RX5, TX5, 1, rfl, by decide, by decide, lays5, gl_mem 267 (by decide +kernel) (by decide +kernel), rfl⟩
theorem fp_RX5_9 : xFp true RX5 9 2 0 2 (.array .byte) := ⟨RX5, TX5, 1, tyX5, rfl, by decide, by decide, lays5, gl_mem 267 (by decide +kernel) (by decide +kernel), rfl, tyX5_ok, nmX5, by decide +kernel, by decide +kernel, fun _ => rfl⟩
theorem fl_RX6_12 : xFl RX6 12 3 0 2 := ⟨RX6, TX6, 4, rfl, by decide, by decide, lays6, gl_mem 272 (by decide +kernel) (by decide +kernel), rfl⟩
theorem fp_RX6_12 : xFp true RX6 12 3 0 2 (.object "RadixPages$Disk") := ⟨RX6, TX6, 4, tyX6, rfl, by decide, by decide, lays6, gl_mem 272 (by decide +kernel) (by decide +kernel), rfl, tyX6_ok, nmX6, by decide +kernel, by decide +kernel, fun _ => rfl⟩
theorem fl_RX9_162 : xFl RX9 162 3 0 2 := ⟨RX6, TX6, 4, rfl, by decide, by decide, lays6, gl_mem 273 (by decide +kernel) (by decide +kernel), rfl⟩
theorem fl_RX6_21 : xFl RX6 21 3 1 2 := ⟨RX6, TX6, 4, rfl, by decide, by decide, lays6, gl_mem 274 (by decide +kernel) (by decide +kernel), rfl⟩
theorem fp_RX6_21 : xFp true RX6 21 3 1 2 (.object "RadixPages$Row") := ⟨RX6, TX6, 4, tyX6, rfl, by decide, by decide, lays6, gl_mem 274 (by decide +kernel) (by decide +kernel), rfl, tyX6_ok, nmX6, by decide +kernel, by decide +kernel, fun _ => rfl⟩
theorem fl_RX6_25 : xFl RX6 25 3 2 2 := ⟨RX6, TX6, 4, rfl, by decide, by decide, lays6, gl_mem 275 (by decide +kernel) (by decide +kernel), rfl⟩
theorem fp_RX6_25 : xFp true RX6 25 3 2 2 (.object "RadixPages$Row") := ⟨RX6, TX6, 4, tyX6, rfl, by decide, by decide, lays6, gl_mem 275 (by decide +kernel) (by decide +kernel), rfl, tyX6_ok, nmX6, by decide +kernel, by decide +kernel, fun _ => rfl⟩
theorem fl_RX6_28 : xFl RX6 28 3 3 2 := ⟨RX6, TX6, 4, rfl, by decide, by decide, lays6, gl_mem 276 (by decide +kernel) (by decide +kernel), rfl⟩
theorem fp_RX6_28 : xFp true RX6 28 3 3 2 (.array .boolean) := ⟨RX6, TX6, 4, tyX6, rfl, by decide, by decide, lays6, gl_mem 276 (by decide +kernel) (by decide +kernel), rfl, tyX6_ok, nmX6, by decide +kernel, by decide +kernel, fun _ => rfl⟩
theorem fl_RX9_12 : xFl RX9 12 6 0 2 := ⟨RX9, TX9, 6, rfl, by decide, by decide, lays9, gl_mem 287 (by decide +kernel) (by decide +kernel), rfl⟩
theorem fp_RX9_12 : xFp true RX9 12 6 0 2 (.object "RadixPages$Tape") := ⟨RX9, TX9, 6, tyX9, rfl, by decide, by decide, lays9, gl_mem 287 (by decide +kernel) (by decide +kernel), rfl, tyX9_ok, nmX9, by decide +kernel, by decide +kernel, fun _ => rfl⟩
theorem fl_RX9_21 : xFl RX9 21 6 1 2 := ⟨RX9, TX9, 6, rfl, by decide, by decide, lays9, gl_mem 288 (by decide +kernel) (by decide +kernel), rfl⟩
theorem fp_RX9_21 : xFp true RX9 21 6 1 2 (.object "RadixPages$Tree") := ⟨RX9, TX9, 6, tyX9, rfl, by decide, by decide, lays9, gl_mem 288 (by decide +kernel) (by decide +kernel), rfl, tyX9_ok, nmX9, by decide +kernel, by decide +kernel, fun _ => rfl⟩
theorem fl_RX9_25 : xFl RX9 25 6 2 2 := ⟨RX9, TX9, 6, rfl, by decide, by decide, lays9, gl_mem 289 (by decide +kernel) (by decide +kernel), rfl⟩
theorem fp_RX9_25 : xFp true RX9 25 6 2 2 (.object "RadixPages$Tree") := ⟨RX9, TX9, 6, tyX9, rfl, by decide, by decide, lays9, gl_mem 289 (by decide +kernel) (by decide +kernel), rfl, tyX9_ok, nmX9, by decide +kernel, by decide +kernel, fun _ => rfl⟩
theorem fl_RX9_31 : xFl RX9 31 6 3 2 := ⟨RX9, TX9, 6, rfl, by decide, by decide, lays9, gl_mem 290 (by decide +kernel) (by decide +kernel), rfl⟩
theorem fp_RX9_31 : xFp true RX9 31 6 3 2 (.object "RadixPages$Store") := ⟨RX9, TX9, 6, tyX9, rfl, by decide, by decide, lays9, gl_mem 290 (by decide +kernel) (by decide +kernel), rfl, tyX9_ok, nmX9, by decide +kernel, by decide +kernel, fun _ => rfl⟩
theorem fl_RX9_35 : xFl RX9 35 6 4 0 := ⟨RX9, TX9, 6, rfl, by decide, by decide, lays9, gl_mem 291 (by decide +kernel) (by decide +kernel), rfl⟩
theorem fp_RX9_35 : xFp false RX9 35 6 4 0 .int := ⟨RX9, TX9, 6, tyX9, rfl, by decide, by decide, lays9, gl_mem 291 (by decide +kernel) (by decide +kernel), rfl, tyX9_ok, nmX9, by decide +kernel, by decide +kernel, fun h => by cases h⟩
theorem fl_RX9_39 : xFl RX9 39 6 5 3 := ⟨RX9, TX9, 6, rfl, by decide, by decide, lays9, gl_mem 292 (by decide +kernel) (by decide +kernel), rfl⟩
theorem fp_RX9_39 : xFp false RX9 39 6 5 3 .boolean := ⟨RX9, TX9, 6, tyX9, rfl, by decide, by decide, lays9, gl_mem 292 (by decide +kernel) (by decide +kernel), rfl, tyX9_ok, nmX9, by decide +kernel, by decide +kernel, fun h => by cases h⟩
theorem fl_RX10_68 : xFl RX10 68 7 0 0 := ⟨RX10, TX10, 27, rfl, by decide, by decide, lays10, gl_mem 933 (by decide +kernel) (by decide +kernel), rfl⟩
theorem fp_RX10_68 : xFp false RX10 68 7 0 0 .int := ⟨RX10, TX10, 27, tyX10, rfl, by decide, by decide, lays10, gl_mem 933 (by decide +kernel) (by decide +kernel), rfl, tyX10_ok, nmX10, by decide +kernel, by decide +kernel, fun h => by cases h⟩
theorem fl_RX10_7 : xFl RX10 7 7 1 2 := ⟨RX10, TX10, 27, rfl, by decide, by decide, lays10, gl_mem 934 (by decide +kernel) (by decide +kernel), rfl⟩
theorem fp_RX10_7 : xFp true RX10 7 7 1 2 (.array .int) := ⟨RX10, TX10, 27, tyX10, rfl, by decide, by decide, lays10, gl_mem 934 (by decide +kernel) (by decide +kernel), rfl, tyX10_ok, nmX10, by decide +kernel, by decide +kernel, fun _ => rfl⟩
theorem fl_RX10_91 : xFl RX10 91 7 2 0 := ⟨RX10, TX10, 27, rfl, by decide, by decide, lays10, gl_mem 935 (by decide +kernel) (by decide +kernel), rfl⟩
theorem fp_RX10_91 : xFp false RX10 91 7 2 0 .int := ⟨RX10, TX10, 27, tyX10, rfl, by decide, by decide, lays10, gl_mem 935 (by decide +kernel) (by decide +kernel), rfl, tyX10_ok, nmX10, by decide +kernel, by decide +kernel, fun h => by cases h⟩
theorem fl_RX10_114 : xFl RX10 114 7 3 3 := ⟨RX10, TX10, 27, rfl, by decide, by decide, lays10, gl_mem 936 (by decide +kernel) (by decide +kernel), rfl⟩
theorem fp_RX10_114 : xFp false RX10 114 7 3 3 .boolean := ⟨RX10, TX10, 27, tyX10, rfl, by decide, by decide, lays10, gl_mem 936 (by decide +kernel) (by decide +kernel), rfl, tyX10_ok, nmX10, by decide +kernel, by decide +kernel, fun h => by cases h⟩
theorem fl_RX10_13 : xFl RX10 13 7 4 2 := ⟨RX10, TX10, 27, rfl, by decide, by decide, lays10, gl_mem 937 (by decide +kernel) (by decide +kernel), rfl⟩
theorem fp_RX10_13 : xFp true RX10 13 7 4 2 (.array .boolean) := ⟨RX10, TX10, 27, tyX10, rfl, by decide, by decide, lays10, gl_mem 937 (by decide +kernel) (by decide +kernel), rfl, tyX10_ok, nmX10, by decide +kernel, by decide +kernel, fun _ => rfl⟩
theorem fl_RX10_17 : xFl RX10 17 7 5 2 := ⟨RX10, TX10, 27, rfl, by decide, by decide, lays10, gl_mem 938 (by decide +kernel) (by decide +kernel), rfl⟩
theorem fp_RX10_17 : xFp true RX10 17 7 5 2 (.array .int) := ⟨RX10, TX10, 27, tyX10, rfl, by decide, by decide, lays10, gl_mem 938 (by decide +kernel) (by decide +kernel), rfl, tyX10_ok, nmX10, by decide +kernel, by decide +kernel, fun _ => rfl⟩
theorem fl_RX10_20 : xFl RX10 20 7 6 2 := ⟨RX10, TX10, 27, rfl, by decide, by decide, lays10, gl_mem 939 (by decide +kernel) (by decide +kernel), rfl⟩
theorem fp_RX10_20 : xFp true RX10 20 7 6 2 (.array .int) := ⟨RX10, TX10, 27, tyX10, rfl, by decide, by decide, lays10, gl_mem 939 (by decide +kernel) (by decide +kernel), rfl, tyX10_ok, nmX10, by decide +kernel, by decide +kernel, fun _ => rfl⟩
theorem fl_RX10_23 : xFl RX10 23 7 7 2 := ⟨RX10, TX10, 27, rfl, by decide, by decide, lays10, gl_mem 940 (by decide +kernel) (by decide +kernel), rfl⟩
theorem fp_RX10_23 : xFp true RX10 23 7 7 2 (.array .int) := ⟨RX10, TX10, 27, tyX10, rfl, by decide, by decide, lays10, gl_mem 940 (by decide +kernel) (by decide +kernel), rfl, tyX10_ok, nmX10, by decide +kernel, by decide +kernel, fun _ => rfl⟩
theorem fl_RX10_26 : xFl RX10 26 7 8 2 := ⟨RX10, TX10, 27, rfl, by decide, by decide, lays10, gl_mem 941 (by decide +kernel) (by decide +kernel), rfl⟩
theorem fp_RX10_26 : xFp true RX10 26 7 8 2 (.array .int) := ⟨RX10, TX10, 27, tyX10, rfl, by decide, by decide, lays10, gl_mem 941 (by decide +kernel) (by decide +kernel), rfl, tyX10_ok, nmX10, by decide +kernel, by decide +kernel, fun _ => rfl⟩
theorem fl_RX10_29 : xFl RX10 29 7 9 2 := ⟨RX10, TX10, 27, rfl, by decide, by decide, lays10, gl_mem 942 (by decide +kernel) (by decide +kernel), rfl⟩
theorem fp_RX10_29 : xFp true RX10 29 7 9 2 (.array .boolean) := ⟨RX10, TX10, 27, tyX10, rfl, by decide, by decide, lays10, gl_mem 942 (by decide +kernel) (by decide +kernel), rfl, tyX10_ok, nmX10, by decide +kernel, by decide +kernel, fun _ => rfl⟩
theorem fl_RX10_32 : xFl RX10 32 7 10 2 := ⟨RX10, TX10, 27, rfl, by decide, by decide, lays10, gl_mem 943 (by decide +kernel) (by decide +kernel), rfl⟩
theorem fp_RX10_32 : xFp true RX10 32 7 10 2 (.array .long) := ⟨RX10, TX10, 27, tyX10, rfl, by decide, by decide, lays10, gl_mem 943 (by decide +kernel) (by decide +kernel), rfl, tyX10_ok, nmX10, by decide +kernel, by decide +kernel, fun _ => rfl⟩
theorem fl_RX10_36 : xFl RX10 36 7 11 2 := ⟨RX10, TX10, 27, rfl, by decide, by decide, lays10, gl_mem 944 (by decide +kernel) (by decide +kernel), rfl⟩
theorem fp_RX10_36 : xFp true RX10 36 7 11 2 (.array .int) := ⟨RX10, TX10, 27, tyX10, rfl, by decide, by decide, lays10, gl_mem 944 (by decide +kernel) (by decide +kernel), rfl, tyX10_ok, nmX10, by decide +kernel, by decide +kernel, fun _ => rfl⟩
theorem fl_RX10_39 : xFl RX10 39 7 12 2 := ⟨RX10, TX10, 27, rfl, by decide, by decide, lays10, gl_mem 945 (by decide +kernel) (by decide +kernel), rfl⟩
theorem fp_RX10_39 : xFp true RX10 39 7 12 2 (.array .int) := ⟨RX10, TX10, 27, tyX10, rfl, by decide, by decide, lays10, gl_mem 945 (by decide +kernel) (by decide +kernel), rfl, tyX10_ok, nmX10, by decide +kernel, by decide +kernel, fun _ => rfl⟩
theorem fl_RX10_42 : xFl RX10 42 7 13 2 := ⟨RX10, TX10, 27, rfl, by decide, by decide, lays10, gl_mem 946 (by decide +kernel) (by decide +kernel), rfl⟩
theorem fp_RX10_42 : xFp true RX10 42 7 13 2 (.array .boolean) := ⟨RX10, TX10, 27, tyX10, rfl, by decide, by decide, lays10, gl_mem 946 (by decide +kernel) (by decide +kernel), rfl, tyX10_ok, nmX10, by decide +kernel, by decide +kernel, fun _ => rfl⟩
theorem fl_RX10_75 : xFl RX10 75 7 14 0 := ⟨RX10, TX10, 27, rfl, by decide, by decide, lays10, gl_mem 947 (by decide +kernel) (by decide +kernel), rfl⟩
theorem fp_RX10_75 : xFp false RX10 75 7 14 0 .int := ⟨RX10, TX10, 27, tyX10, rfl, by decide, by decide, lays10, gl_mem 947 (by decide +kernel) (by decide +kernel), rfl, tyX10_ok, nmX10, by decide +kernel, by decide +kernel, fun h => by cases h⟩
theorem fl_RX10_82 : xFl RX10 82 7 15 0 := ⟨RX10, TX10, 27, rfl, by decide, by decide, lays10, gl_mem 948 (by decide +kernel) (by decide +kernel), rfl⟩
theorem fp_RX10_82 : xFp false RX10 82 7 15 0 .int := ⟨RX10, TX10, 27, tyX10, rfl, by decide, by decide, lays10, gl_mem 948 (by decide +kernel) (by decide +kernel), rfl, tyX10_ok, nmX10, by decide +kernel, by decide +kernel, fun h => by cases h⟩
theorem fl_RX10_212 : xFl RX10 212 7 16 1 := ⟨RX10, TX10, 27, rfl, by decide, by decide, lays10, gl_mem 949 (by decide +kernel) (by decide +kernel), rfl⟩
theorem fp_RX10_212 : xFp false RX10 212 7 16 1 .long := ⟨RX10, TX10, 27, tyX10, rfl, by decide, by decide, lays10, gl_mem 949 (by decide +kernel) (by decide +kernel), rfl, tyX10_ok, nmX10, by decide +kernel, by decide +kernel, fun h => by cases h⟩
theorem fl_RX10_46 : xFl RX10 46 7 17 2 := ⟨RX10, TX10, 27, rfl, by decide, by decide, lays10, gl_mem 950 (by decide +kernel) (by decide +kernel), rfl⟩
theorem fp_RX10_46 : xFp true RX10 46 7 17 2 (.array .int) := ⟨RX10, TX10, 27, tyX10, rfl, by decide, by decide, lays10, gl_mem 950 (by decide +kernel) (by decide +kernel), rfl, tyX10_ok, nmX10, by decide +kernel, by decide +kernel, fun _ => rfl⟩
theorem fl_RX10_49 : xFl RX10 49 7 18 0 := ⟨RX10, TX10, 27, rfl, by decide, by decide, lays10, gl_mem 951 (by decide +kernel) (by decide +kernel), rfl⟩
theorem fp_RX10_49 : xFp false RX10 49 7 18 0 .int := ⟨RX10, TX10, 27, tyX10, rfl, by decide, by decide, lays10, gl_mem 951 (by decide +kernel) (by decide +kernel), rfl, tyX10_ok, nmX10, by decide +kernel, by decide +kernel, fun h => by cases h⟩
theorem fl_RX10_190 : xFl RX10 190 7 19 0 := ⟨RX10, TX10, 27, rfl, by decide, by decide, lays10, gl_mem 952 (by decide +kernel) (by decide +kernel), rfl⟩
theorem fp_RX10_190 : xFp false RX10 190 7 19 0 .int := ⟨RX10, TX10, 27, tyX10, rfl, by decide, by decide, lays10, gl_mem 952 (by decide +kernel) (by decide +kernel), rfl, tyX10_ok, nmX10, by decide +kernel, by decide +kernel, fun h => by cases h⟩
theorem fl_RX10_99 : xFl RX10 99 7 20 0 := ⟨RX10, TX10, 27, rfl, by decide, by decide, lays10, gl_mem 953 (by decide +kernel) (by decide +kernel), rfl⟩
theorem fp_RX10_99 : xFp false RX10 99 7 20 0 .int := ⟨RX10, TX10, 27, tyX10, rfl, by decide, by decide, lays10, gl_mem 953 (by decide +kernel) (by decide +kernel), rfl, tyX10_ok, nmX10, by decide +kernel, by decide +kernel, fun h => by cases h⟩
theorem fl_RX10_105 : xFl RX10 105 7 21 0 := ⟨RX10, TX10, 27, rfl, by decide, by decide, lays10, gl_mem 954 (by decide +kernel) (by decide +kernel), rfl⟩
theorem fp_RX10_105 : xFp false RX10 105 7 21 0 .int := ⟨RX10, TX10, 27, tyX10, rfl, by decide, by decide, lays10, gl_mem 954 (by decide +kernel) (by decide +kernel), rfl, tyX10_ok, nmX10, by decide +kernel, by decide +kernel, fun h => by cases h⟩
theorem fl_RX10_102 : xFl RX10 102 7 22 0 := ⟨RX10, TX10, 27, rfl, by decide, by decide, lays10, gl_mem 955 (by decide +kernel) (by decide +kernel), rfl⟩
theorem fp_RX10_102 : xFp false RX10 102 7 22 0 .int := ⟨RX10, TX10, 27, tyX10, rfl, by decide, by decide, lays10, gl_mem 955 (by decide +kernel) (by decide +kernel), rfl, tyX10_ok, nmX10, by decide +kernel, by decide +kernel, fun h => by cases h⟩
theorem fl_RX10_53 : xFl RX10 53 7 23 2 := ⟨RX10, TX10, 27, rfl, by decide, by decide, lays10, gl_mem 956 (by decide +kernel) (by decide +kernel), rfl⟩
theorem fp_RX10_53 : xFp true RX10 53 7 23 2 (.array .int) := ⟨RX10, TX10, 27, tyX10, rfl, by decide, by decide, lays10, gl_mem 956 (by decide +kernel) (by decide +kernel), rfl, tyX10_ok, nmX10, by decide +kernel, by decide +kernel, fun _ => rfl⟩
theorem fl_RX10_158 : xFl RX10 158 7 24 0 := ⟨RX10, TX10, 27, rfl, by decide, by decide, lays10, gl_mem 957 (by decide +kernel) (by decide +kernel), rfl⟩
theorem fp_RX10_158 : xFp false RX10 158 7 24 0 .int := ⟨RX10, TX10, 27, tyX10, rfl, by decide, by decide, lays10, gl_mem 957 (by decide +kernel) (by decide +kernel), rfl, tyX10_ok, nmX10, by decide +kernel, by decide +kernel, fun h => by cases h⟩
theorem fl_RX10_56 : xFl RX10 56 7 25 2 := ⟨RX10, TX10, 27, rfl, by decide, by decide, lays10, gl_mem 958 (by decide +kernel) (by decide +kernel), rfl⟩
theorem fp_RX10_56 : xFp true RX10 56 7 25 2 (.array .int) := ⟨RX10, TX10, 27, tyX10, rfl, by decide, by decide, lays10, gl_mem 958 (by decide +kernel) (by decide +kernel), rfl, tyX10_ok, nmX10, by decide +kernel, by decide +kernel, fun _ => rfl⟩
theorem fl_RX10_59 : xFl RX10 59 7 26 2 := ⟨RX10, TX10, 27, rfl, by decide, by decide, lays10, gl_mem 959 (by decide +kernel) (by decide +kernel), rfl⟩
theorem fp_RX10_59 : xFp true RX10 59 7 26 2 (.array .boolean) := ⟨RX10, TX10, 27, tyX10, rfl, by decide, by decide, lays10, gl_mem 959 (by decide +kernel) (by decide +kernel), rfl, tyX10_ok, nmX10, by decide +kernel, by decide +kernel, fun _ => rfl⟩
theorem cn_RL_8 : xCn RL 8 6 6 := ⟨RX9, TX9, tyX9, rfl, by decide, lays9, tyX9_ok, by decide +kernel, gl_mem 86 (by decide +kernel) (by decide +kernel), gl_mem 87 (by decide +kernel) (by decide +kernel), gl_mem 67 (by decide +kernel) (by decide +kernel)⟩
theorem cl_RL_8 : Cond.classLink RL 8 "RadixPages" ∈ gl := gl_mem 86 (by decide +kernel) (by decide +kernel)
theorem cn_RX9_9 : xCn RX9 9 4 2 := ⟨RX7, TX7, tyX7, rfl, by decide, lays7, tyX7_ok, by decide +kernel, gl_mem 94 (by decide +kernel) (by decide +kernel), gl_mem 95 (by decide +kernel) (by decide +kernel), gl_mem 68 (by decide +kernel) (by decide +kernel)⟩
theorem cl_RX9_9 : Cond.classLink RX9 9 "RadixPages$Tape" ∈ gl := gl_mem 94 (by decide +kernel) (by decide +kernel)
theorem cn_RX9_18 : xCn RX9 18 5 8 := ⟨RX8, TX8, tyX8, rfl, by decide, lays8, tyX8_ok, by decide +kernel, gl_mem 111 (by decide +kernel) (by decide +kernel), gl_mem 112 (by decide +kernel) (by decide +kernel), gl_mem 69 (by decide +kernel) (by decide +kernel)⟩
theorem cl_RX9_18 : Cond.classLink RX9 18 "RadixPages$Tree" ∈ gl := gl_mem 111 (by decide +kernel) (by decide +kernel)
theorem cn_RX8_9 : xCn RX8 9 1 13 := ⟨RX3, TX3, tyX3, rfl, by decide, lays3, tyX3_ok, by decide +kernel, gl_mem 117 (by decide +kernel) (by decide +kernel), gl_mem 119 (by decide +kernel) (by decide +kernel), gl_mem 70 (by decide +kernel) (by decide +kernel)⟩
theorem cl_RX8_9 : Cond.classLink RX8 9 "RadixPages$Node" ∈ gl := gl_mem 117 (by decide +kernel) (by decide +kernel)
theorem cn_RX9_28 : xCn RX9 28 3 4 := ⟨RX6, TX6, tyX6, rfl, by decide, lays6, tyX6_ok, by decide +kernel, gl_mem 237 (by decide +kernel) (by decide +kernel), gl_mem 238 (by decide +kernel) (by decide +kernel), gl_mem 71 (by decide +kernel) (by decide +kernel)⟩
theorem cl_RX9_28 : Cond.classLink RX9 28 "RadixPages$Store" ∈ gl := gl_mem 237 (by decide +kernel) (by decide +kernel)
theorem cn_RX6_9 : xCn RX6 9 0 3 := ⟨RX0, TX0, tyX0, rfl, by decide, lays0, tyX0_ok, by decide +kernel, gl_mem 243 (by decide +kernel) (by decide +kernel), gl_mem 244 (by decide +kernel) (by decide +kernel), gl_mem 72 (by decide +kernel) (by decide +kernel)⟩
theorem cl_RX6_9 : Cond.classLink RX6 9 "RadixPages$Disk" ∈ gl := gl_mem 243 (by decide +kernel) (by decide +kernel)
theorem cn_RX6_18 : xCn RX6 18 2 1 := ⟨RX5, TX5, tyX5, rfl, by decide, lays5, tyX5_ok, by decide +kernel, gl_mem 261 (by decide +kernel) (by decide +kernel), gl_mem 262 (by decide +kernel) (by decide +kernel), gl_mem 73 (by decide +kernel) (by decide +kernel)⟩
theorem cl_RX6_18 : Cond.classLink RX6 18 "RadixPages$Row" ∈ gl := gl_mem 261 (by decide +kernel) (by decide +kernel)
theorem cn_RL_32 : xCn RL 32 7 27 := ⟨RX10, TX10, tyX10, rfl, by decide, lays10, tyX10_ok, by decide +kernel, gl_mem 910 (by decide +kernel) (by decide +kernel), gl_mem 911 (by decide +kernel) (by decide +kernel), gl_mem 74 (by decide +kernel) (by decide +kernel)⟩
theorem cl_RL_32 : Cond.classLink RL 32 "RadixPagesModel" ∈ gl := gl_mem 910 (by decide +kernel) (by decide +kernel)
theorem ct_RX0_9 : Cond.constant RX0 9 (131072 : Int32) ∈ gl := gl_mem 249 (by decide +kernel) (by decide +kernel)
theorem ct_RX9_72 : Cond.constantLong RX9 72 (-9223372036854775808 : Int64) ∈ gl := gl_mem 322 (by decide +kernel) (by decide +kernel)
theorem gs_RX1_9 : Cond.fieldLink RX1 9 "RadixPages$Format" "MOST_CHILDREN" "[I" ∈ gl := gl_mem 423 (by decide +kernel) (by decide +kernel)
theorem gs_RX1_17 : Cond.fieldLink RX1 17 "RadixPages$Format" "SHRINKS_AT" "[I" ∈ gl := gl_mem 475 (by decide +kernel) (by decide +kernel)
theorem ct_RX5_19 : Cond.constantLong RX5 19 (1099511628211 : Int64) ∈ gl := gl_mem 604 (by decide +kernel) (by decide +kernel)
theorem ct_RX6_123 : Cond.constantLong RX6 123 (1000000000 : Int64) ∈ gl := gl_mem 712 (by decide +kernel) (by decide +kernel)
theorem ct_RX6_125 : Cond.constantLong RX6 125 (2 : Int64) ∈ gl := gl_mem 713 (by decide +kernel) (by decide +kernel)
theorem ct_RX6_181 : Cond.constantLong RX6 181 (-9223372036854775808 : Int64) ∈ gl := gl_mem 758 (by decide +kernel) (by decide +kernel)
theorem ct_RX10_45 : Cond.constant RX10 45 (131072 : Int32) ∈ gl := gl_mem 916 (by decide +kernel) (by decide +kernel)
theorem ct_RX10_85 : Cond.constantLong RX10 85 (8 : Int64) ∈ gl := gl_mem 1024 (by decide +kernel) (by decide +kernel)
theorem ct_RX10_94 : Cond.constantLong RX10 94 (255 : Int64) ∈ gl := gl_mem 1028 (by decide +kernel) (by decide +kernel)
theorem ct_RX10_122 : Cond.constantLong RX10 122 (-9223372036854775808 : Int64) ∈ gl := gl_mem 1045 (by decide +kernel) (by decide +kernel)
theorem ct_RX10_180 : Cond.constantLong RX10 180 (1099511628211 : Int64) ∈ gl := gl_mem 1176 (by decide +kernel) (by decide +kernel)
theorem ct_RX10_216 : Cond.constantLong RX10 216 (2 : Int64) ∈ gl := gl_mem 1177 (by decide +kernel) (by decide +kernel)
theorem ct_RX10_221 : Cond.constantLong RX10 221 (5 : Int64) ∈ gl := gl_mem 1194 (by decide +kernel) (by decide +kernel)
theorem ct_RX10_226 : Cond.constantLong RX10 226 (-1 : Int64) ∈ gl := gl_mem 1203 (by decide +kernel) (by decide +kernel)
theorem ct_RX10_228 : Cond.constantLong RX10 228 (1000 : Int64) ∈ gl := gl_mem 1204 (by decide +kernel) (by decide +kernel)
theorem ct_RX10_230 : Cond.constantLong RX10 230 (511 : Int64) ∈ gl := gl_mem 1205 (by decide +kernel) (by decide +kernel)
theorem ct_RX10_236 : Cond.constantLong RX10 236 (1000000000 : Int64) ∈ gl := gl_mem 1221 (by decide +kernel) (by decide +kernel)
theorem ct_RX10_238 : Cond.constantLong RX10 238 (4 : Int64) ∈ gl := gl_mem 1230 (by decide +kernel) (by decide +kernel)
theorem ct_RL_35 : Cond.constantLong RL 35 (4294967295 : Int64) ∈ gl := gl_mem 1243 (by decide +kernel) (by decide +kernel)
theorem ml_RX0_3 : Cond.methodLink RX0 3 objectInit ∈ gl := gl_mem 248 (by decide +kernel) (by decide +kernel)
theorem cs_X0_byteAt_23 : xCs mX0_byteAt 23 mX0_has 2 := ⟨⟨code_X0_has, ini_RX0, by decide +kernel, by decide, by decide⟩, gl_mem 610 (by decide +kernel) (by decide +kernel), stat_X0_has⟩
theorem cs_X0_setByte_23 : xCs mX0_setByte 23 mX0_has 2 := ⟨⟨code_X0_has, ini_RX0, by decide +kernel, by decide, by decide⟩, gl_mem 610 (by decide +kernel) (by decide +kernel), stat_X0_has⟩
theorem cs_X0_read_23 : xCs mX0_read 23 mX0_has 2 := ⟨⟨code_X0_has, ini_RX0, by decide +kernel, by decide, by decide⟩, gl_mem 610 (by decide +kernel) (by decide +kernel), stat_X0_has⟩
theorem ml_RX0_30 : Cond.methodLink RX0 30 arraycopyName ∈ gl := gl_mem 613 (by decide +kernel) (by decide +kernel)
theorem cs_X0_write_23 : xCs mX0_write 23 mX0_has 2 := ⟨⟨code_X0_has, ini_RX0, by decide +kernel, by decide, by decide⟩, gl_mem 610 (by decide +kernel) (by decide +kernel), stat_X0_has⟩
theorem cv_X0_write_36 : xCv mX0_write 36 mX0_setByte 3 0 := ⟨⟨code_X0_setByte, ini_RX0, by decide +kernel, by decide, by decide⟩, gl_mem 616 (by decide +kernel) (by decide +kernel), inst_X0_setByte, sel_X0_setByte, by decide, _, _, rfl⟩
theorem cs_X1_grown_13 : xCs mX1_grown 13 mX1_mostChildren 1 := ⟨⟨code_X1_mostChildren, ini_RX1, by decide +kernel, by decide, by decide⟩, gl_mem 420 (by decide +kernel) (by decide +kernel), stat_X1_mostChildren⟩
theorem cv_X2_fill_7 : xCv mX2_fill 7 mX5_wipe 0 2 := ⟨⟨code_X5_wipe, ini_RX5, by decide +kernel, by decide, by decide⟩, gl_mem 628 (by decide +kernel) (by decide +kernel), inst_X5_wipe, sel_X5_wipe, by decide, _, _, rfl⟩
theorem cv_X2_fill_14 : xCv mX2_fill 14 mX5_set 2 2 := ⟨⟨code_X5_set, ini_RX5, by decide +kernel, by decide, by decide⟩, gl_mem 629 (by decide +kernel) (by decide +kernel), inst_X5_set, sel_X5_set, by decide, _, _, rfl⟩
theorem cv_X2_fill_18 : xCv mX2_fill 18 mX5_setLong 2 2 := ⟨⟨code_X5_setLong, ini_RX5, by decide +kernel, by decide, by decide⟩, gl_mem 630 (by decide +kernel) (by decide +kernel), inst_X5_setLong, sel_X5_setLong, by decide, _, _, rfl⟩
theorem cv_X2_fill_22 : xCv mX2_fill 22 mX5_seal 0 2 := ⟨⟨code_X5_seal, ini_RX5, by decide +kernel, by decide, by decide⟩, gl_mem 631 (by decide +kernel) (by decide +kernel), inst_X5_seal, sel_X5_seal, by decide, _, _, rfl⟩
theorem cv_X2_sequence_25 : xCv mX2_sequence 25 mX5_longAt 1 2 := ⟨⟨code_X5_longAt, ini_RX5, by decide +kernel, by decide, by decide⟩, gl_mem 704 (by decide +kernel) (by decide +kernel), inst_X5_longAt, sel_X5_longAt, by decide, _, _, rfl⟩
theorem cv_X2_rootPage_29 : xCv mX2_rootPage 29 mX5_at 1 2 := ⟨⟨code_X5_at, ini_RX5, by decide +kernel, by decide, by decide⟩, gl_mem 717 (by decide +kernel) (by decide +kernel), inst_X5_at, sel_X5_at, by decide, _, _, rfl⟩
theorem cv_X2_keys_29 : xCv mX2_keys 29 mX5_at 1 2 := ⟨⟨code_X5_at, ini_RX5, by decide +kernel, by decide, by decide⟩, gl_mem 717 (by decide +kernel) (by decide +kernel), inst_X5_at, sel_X5_at, by decide, _, _, rfl⟩
theorem ml_RX3_3 : Cond.methodLink RX3 3 objectInit ∈ gl := gl_mem 123 (by decide +kernel) (by decide +kernel)
theorem cv_X3_init_15 : xCv mX3_init 15 mX3_reset 0 1 := ⟨⟨code_X3_reset, ini_RX3, by decide +kernel, by decide, by decide⟩, gl_mem 124 (by decide +kernel) (by decide +kernel), inst_X3_reset, sel_X3_reset, by decide, _, _, rfl⟩
theorem cv_X3_appendToPrefix_57 : xCv mX3_appendToPrefix 57 mX3_setPrefixAt 2 1 := ⟨⟨code_X3_setPrefixAt, ini_RX3, by decide +kernel, by decide, by decide⟩, gl_mem 336 (by decide +kernel) (by decide +kernel), inst_X3_setPrefixAt, sel_X3_setPrefixAt, by decide, _, _, rfl⟩
theorem ml_RX3_61 : Cond.methodLink RX3 61 Lib.Math.max.name ∈ gl := gl_mem 410 (by decide +kernel) (by decide +kernel)
theorem cv_X3_dropFromPrefix_67 : xCv mX3_dropFromPrefix 67 mX3_prefixAt 1 1 := ⟨⟨code_X3_prefixAt, ini_RX3, by decide +kernel, by decide, by decide⟩, gl_mem 360 (by decide +kernel) (by decide +kernel), inst_X3_prefixAt, sel_X3_prefixAt, by decide, _, _, rfl⟩
theorem cv_X3_dropFromPrefix_57 : xCv mX3_dropFromPrefix 57 mX3_setPrefixAt 2 1 := ⟨⟨code_X3_setPrefixAt, ini_RX3, by decide +kernel, by decide, by decide⟩, gl_mem 336 (by decide +kernel) (by decide +kernel), inst_X3_setPrefixAt, sel_X3_setPrefixAt, by decide, _, _, rfl⟩
theorem ml_RX3_71 : Cond.methodLink RX3 71 Lib.Math.min.name ∈ gl := gl_mem 457 (by decide +kernel) (by decide +kernel)
theorem cv_X3_takePrefixOfParent_67 : xCv mX3_takePrefixOfParent 67 mX3_prefixAt 1 1 := ⟨⟨code_X3_prefixAt, ini_RX3, by decide +kernel, by decide, by decide⟩, gl_mem 360 (by decide +kernel) (by decide +kernel), inst_X3_prefixAt, sel_X3_prefixAt, by decide, _, _, rfl⟩
theorem cv_X3_takePrefixOfParent_57 : xCv mX3_takePrefixOfParent 57 mX3_setPrefixAt 2 1 := ⟨⟨code_X3_setPrefixAt, ini_RX3, by decide +kernel, by decide, by decide⟩, gl_mem 336 (by decide +kernel) (by decide +kernel), inst_X3_setPrefixAt, sel_X3_setPrefixAt, by decide, _, _, rfl⟩
theorem cv_X3_matching_67 : xCv mX3_matching 67 mX3_prefixAt 1 1 := ⟨⟨code_X3_prefixAt, ini_RX3, by decide +kernel, by decide, by decide⟩, gl_mem 360 (by decide +kernel) (by decide +kernel), inst_X3_prefixAt, sel_X3_prefixAt, by decide, _, _, rfl⟩
theorem cv_X3_matching_74 : xCv mX3_matching 74 mX7_byteAt 1 4 := ⟨⟨code_X7_byteAt, ini_RX7, by decide +kernel, by decide, by decide⟩, gl_mem 364 (by decide +kernel) (by decide +kernel), inst_X7_byteAt, sel_X7_byteAt, by decide, _, _, rfl⟩
theorem cv_X3_childBy_79 : xCv mX3_childBy 79 mX3_firstFrom 1 1 := ⟨⟨code_X3_firstFrom, ini_RX3, by decide +kernel, by decide, by decide⟩, gl_mem 373 (by decide +kernel) (by decide +kernel), inst_X3_firstFrom, sel_X3_firstFrom, by decide, _, _, rfl⟩
theorem cv_X3_gain_83 : xCv mX3_gain 83 mX3_lastBelow 1 1 := ⟨⟨code_X3_lastBelow, ini_RX3, by decide +kernel, by decide, by decide⟩, gl_mem 398 (by decide +kernel) (by decide +kernel), inst_X3_lastBelow, sel_X3_lastBelow, by decide, _, _, rfl⟩
theorem cv_X3_gain_86 : xCv mX3_gain 86 mX3_setNextOf 2 1 := ⟨⟨code_X3_setNextOf, ini_RX3, by decide +kernel, by decide, by decide⟩, gl_mem 402 (by decide +kernel) (by decide +kernel), inst_X3_setNextOf, sel_X3_setNextOf, by decide, _, _, rfl⟩
theorem cs_X3_gain_90 : xCs mX3_gain 90 mX1_grown 2 := ⟨⟨code_X1_grown, ini_RX1, by decide +kernel, by decide, by decide⟩, gl_mem 417 (by decide +kernel) (by decide +kernel), stat_X1_grown⟩
theorem cv_X3_lose_83 : xCv mX3_lose 83 mX3_lastBelow 1 1 := ⟨⟨code_X3_lastBelow, ini_RX3, by decide +kernel, by decide, by decide⟩, gl_mem 398 (by decide +kernel) (by decide +kernel), inst_X3_lastBelow, sel_X3_lastBelow, by decide, _, _, rfl⟩
theorem cv_X3_lose_86 : xCv mX3_lose 86 mX3_setNextOf 2 1 := ⟨⟨code_X3_setNextOf, ini_RX3, by decide +kernel, by decide, by decide⟩, gl_mem 402 (by decide +kernel) (by decide +kernel), inst_X3_setNextOf, sel_X3_setNextOf, by decide, _, _, rfl⟩
theorem cs_X3_lose_93 : xCs mX3_lose 93 mX1_shrunk 2 := ⟨⟨code_X1_shrunk, ini_RX1, by decide +kernel, by decide, by decide⟩, gl_mem 472 (by decide +kernel) (by decide +kernel), stat_X1_shrunk⟩
theorem cv_X3_yieldTo_83 : xCv mX3_yieldTo 83 mX3_lastBelow 1 1 := ⟨⟨code_X3_lastBelow, ini_RX3, by decide +kernel, by decide, by decide⟩, gl_mem 398 (by decide +kernel) (by decide +kernel), inst_X3_lastBelow, sel_X3_lastBelow, by decide, _, _, rfl⟩
theorem cv_X3_yieldTo_86 : xCv mX3_yieldTo 86 mX3_setNextOf 2 1 := ⟨⟨code_X3_setNextOf, ini_RX3, by decide +kernel, by decide, by decide⟩, gl_mem 402 (by decide +kernel) (by decide +kernel), inst_X3_setNextOf, sel_X3_setNextOf, by decide, _, _, rfl⟩
theorem cv_X3_following_96 : xCv mX3_following 96 mX3_behind 0 1 := ⟨⟨code_X3_behind, ini_RX3, by decide +kernel, by decide, by decide⟩, gl_mem 501 (by decide +kernel) (by decide +kernel), inst_X3_behind, sel_X3_behind, by decide, _, _, rfl⟩
theorem cv_X3_above_100 : xCv mX3_above 100 mX3_lowest 0 1 := ⟨⟨code_X3_lowest, ini_RX3, by decide +kernel, by decide, by decide⟩, gl_mem 624 (by decide +kernel) (by decide +kernel), inst_X3_lowest, sel_X3_lowest, by decide, _, _, rfl⟩
theorem cv_X3_spell_103 : xCv mX3_spell 103 mX3_lead 0 1 := ⟨⟨code_X3_lead, ini_RX3, by decide +kernel, by decide, by decide⟩, gl_mem 527 (by decide +kernel) (by decide +kernel), inst_X3_lead, sel_X3_lead, by decide, _, _, rfl⟩
theorem cv_X3_spell_67 : xCv mX3_spell 67 mX3_prefixAt 1 1 := ⟨⟨code_X3_prefixAt, ini_RX3, by decide +kernel, by decide, by decide⟩, gl_mem 360 (by decide +kernel) (by decide +kernel), inst_X3_prefixAt, sel_X3_prefixAt, by decide, _, _, rfl⟩
theorem cv_X3_spell_110 : xCv mX3_spell 110 mX7_setByte 2 4 := ⟨⟨code_X7_setByte, ini_RX7, by decide +kernel, by decide, by decide⟩, gl_mem 531 (by decide +kernel) (by decide +kernel), inst_X7_setByte, sel_X7_setByte, by decide, _, _, rfl⟩
theorem cv_X3_mirror_67 : xCv mX3_mirror 67 mX3_prefixAt 1 1 := ⟨⟨code_X3_prefixAt, ini_RX3, by decide +kernel, by decide, by decide⟩, gl_mem 360 (by decide +kernel) (by decide +kernel), inst_X3_prefixAt, sel_X3_prefixAt, by decide, _, _, rfl⟩
theorem cv_X3_mirror_57 : xCv mX3_mirror 57 mX3_setPrefixAt 2 1 := ⟨⟨code_X3_setPrefixAt, ini_RX3, by decide +kernel, by decide, by decide⟩, gl_mem 336 (by decide +kernel) (by decide +kernel), inst_X3_setPrefixAt, sel_X3_setPrefixAt, by decide, _, _, rfl⟩
theorem cs_X3_mirror_116 : xCs mX3_mirror 116 mX3_twinOf 1 := ⟨⟨code_X3_twinOf, ini_RX3, by decide +kernel, by decide, by decide⟩, gl_mem 644 (by decide +kernel) (by decide +kernel), stat_X3_twinOf⟩
theorem cv_X4_fill_11 : xCv mX4_fill 11 mX5_wipe 0 2 := ⟨⟨code_X5_wipe, ini_RX5, by decide +kernel, by decide, by decide⟩, gl_mem 583 (by decide +kernel) (by decide +kernel), inst_X5_wipe, sel_X5_wipe, by decide, _, _, rfl⟩
theorem cv_X4_fill_22 : xCv mX4_fill 22 mX5_set 2 2 := ⟨⟨code_X5_set, ini_RX5, by decide +kernel, by decide, by decide⟩, gl_mem 587 (by decide +kernel) (by decide +kernel), inst_X5_set, sel_X5_set, by decide, _, _, rfl⟩
theorem cv_X4_fill_34 : xCv mX4_fill 34 mX5_setLong 2 2 := ⟨⟨code_X5_setLong, ini_RX5, by decide +kernel, by decide, by decide⟩, gl_mem 591 (by decide +kernel) (by decide +kernel), inst_X5_setLong, sel_X5_setLong, by decide, _, _, rfl⟩
theorem cv_X4_fill_41 : xCv mX4_fill 41 mX3_prefixAt 1 1 := ⟨⟨code_X3_prefixAt, ini_RX3, by decide +kernel, by decide, by decide⟩, gl_mem 595 (by decide +kernel) (by decide +kernel), inst_X3_prefixAt, sel_X3_prefixAt, by decide, _, _, rfl⟩
theorem cs_X4_fill_48 : xCs mX4_fill 48 mX4_fillTable 2 := ⟨⟨code_X4_fillTable, ini_RX4, by decide +kernel, by decide, by decide⟩, gl_mem 596 (by decide +kernel) (by decide +kernel), stat_X4_fillTable⟩
theorem cv_X4_fill_52 : xCv mX4_fill 52 mX5_seal 0 2 := ⟨⟨code_X5_seal, ini_RX5, by decide +kernel, by decide, by decide⟩, gl_mem 600 (by decide +kernel) (by decide +kernel), inst_X5_seal, sel_X5_seal, by decide, _, _, rfl⟩
theorem cv_X4_fillTable_22 : xCv mX4_fillTable 22 mX5_set 2 2 := ⟨⟨code_X5_set, ini_RX5, by decide +kernel, by decide, by decide⟩, gl_mem 587 (by decide +kernel) (by decide +kernel), inst_X5_set, sel_X5_set, by decide, _, _, rfl⟩
theorem cs_X4_fillTable_67 : xCs mX4_fillTable 67 mX1_mostChildren 1 := ⟨⟨code_X1_mostChildren, ini_RX1, by decide +kernel, by decide, by decide⟩, gl_mem 599 (by decide +kernel) (by decide +kernel), stat_X1_mostChildren⟩
theorem ml_RX5_3 : Cond.methodLink RX5 3 objectInit ∈ gl := gl_mem 266 (by decide +kernel) (by decide +kernel)
theorem cv_X5_longAt_15 : xCv mX5_longAt 15 mX5_at 1 2 := ⟨⟨code_X5_at, ini_RX5, by decide +kernel, by decide, by decide⟩, gl_mem 708 (by decide +kernel) (by decide +kernel), inst_X5_at, sel_X5_at, by decide, _, _, rfl⟩
theorem cv_X5_seal_21 : xCv mX5_seal 21 mX5_setLong 2 2 := ⟨⟨code_X5_setLong, ini_RX5, by decide +kernel, by decide, by decide⟩, gl_mem 605 (by decide +kernel) (by decide +kernel), inst_X5_setLong, sel_X5_setLong, by decide, _, _, rfl⟩
theorem ml_RX6_3 : Cond.methodLink RX6 3 objectInit ∈ gl := gl_mem 242 (by decide +kernel) (by decide +kernel)
theorem ci_X6_init_11 : xCiN mX6_init 11 mX0_init 0 := ⟨⟨code_X0_init, ini_RX0, by decide +kernel, by decide, by decide⟩, by decide +kernel, rfl, inst_X0_init, rfl⟩
theorem ci_X6_init_20 : xCiN mX6_init 20 mX5_init 0 := ⟨⟨code_X5_init, ini_RX5, by decide +kernel, by decide, by decide⟩, by decide +kernel, rfl, inst_X5_init, rfl⟩
theorem cv_X6_save_32 : xCv mX6_save 32 mX6_markPagesOf 1 3 := ⟨⟨code_X6_markPagesOf, ini_RX6, by decide +kernel, by decide, by decide⟩, gl_mem 555 (by decide +kernel) (by decide +kernel), inst_X6_markPagesOf, sel_X6_markPagesOf, by decide, _, _, rfl⟩
theorem cv_X6_save_42 : xCv mX6_save 42 mX3_lowest 0 1 := ⟨⟨code_X3_lowest, ini_RX3, by decide +kernel, by decide, by decide⟩, gl_mem 568 (by decide +kernel) (by decide +kernel), inst_X3_lowest, sel_X3_lowest, by decide, _, _, rfl⟩
theorem cv_X6_save_52 : xCv mX6_save 52 mX6_saveNode 1 3 := ⟨⟨code_X6_saveNode, ini_RX6, by decide +kernel, by decide, by decide⟩, gl_mem 572 (by decide +kernel) (by decide +kernel), inst_X6_saveNode, sel_X6_saveNode, by decide, _, _, rfl⟩
theorem cv_X6_save_56 : xCv mX6_save 56 mX3_above 0 1 := ⟨⟨code_X3_above, ini_RX3, by decide +kernel, by decide, by decide⟩, gl_mem 620 (by decide +kernel) (by decide +kernel), inst_X3_above, sel_X3_above, by decide, _, _, rfl⟩
theorem cs_X6_save_66 : xCs mX6_save 66 mX2_fill 4 := ⟨⟨code_X2_fill, ini_RX2, by decide +kernel, by decide, by decide⟩, gl_mem 625 (by decide +kernel) (by decide +kernel), stat_X2_fill⟩
theorem cv_X6_save_72 : xCv mX6_save 72 mX0_write 2 0 := ⟨⟨code_X0_write, ini_RX0, by decide +kernel, by decide, by decide⟩, gl_mem 606 (by decide +kernel) (by decide +kernel), inst_X0_write, sel_X0_write, by decide, _, _, rfl⟩
theorem cv_X6_saveNode_76 : xCv mX6_saveNode 76 mX6_takeLeastPage 0 3 := ⟨⟨code_X6_takeLeastPage, ini_RX6, by decide +kernel, by decide, by decide⟩, gl_mem 576 (by decide +kernel) (by decide +kernel), inst_X6_takeLeastPage, sel_X6_takeLeastPage, by decide, _, _, rfl⟩
theorem cs_X6_saveNode_80 : xCs mX6_saveNode 80 mX4_fill 2 := ⟨⟨code_X4_fill, ini_RX4, by decide +kernel, by decide, by decide⟩, gl_mem 580 (by decide +kernel) (by decide +kernel), stat_X4_fill⟩
theorem cv_X6_saveNode_72 : xCv mX6_saveNode 72 mX0_write 2 0 := ⟨⟨code_X0_write, ini_RX0, by decide +kernel, by decide, by decide⟩, gl_mem 606 (by decide +kernel) (by decide +kernel), inst_X0_write, sel_X0_write, by decide, _, _, rfl⟩
theorem cv_X6_markPagesOf_85 : xCv mX6_markPagesOf 85 mX6_freeAllPages 0 3 := ⟨⟨code_X6_freeAllPages, ini_RX6, by decide +kernel, by decide, by decide⟩, gl_mem 559 (by decide +kernel) (by decide +kernel), inst_X6_freeAllPages, sel_X6_freeAllPages, by decide, _, _, rfl⟩
theorem cv_X6_markPagesOf_88 : xCv mX6_markPagesOf 88 mX6_takePage 1 3 := ⟨⟨code_X6_takePage, ini_RX6, by decide +kernel, by decide, by decide⟩, gl_mem 563 (by decide +kernel) (by decide +kernel), inst_X6_takePage, sel_X6_takePage, by decide, _, _, rfl⟩
theorem cv_X6_markPagesOf_92 : xCv mX6_markPagesOf 92 mX3_following 0 1 := ⟨⟨code_X3_following, ini_RX3, by decide +kernel, by decide, by decide⟩, gl_mem 567 (by decide +kernel) (by decide +kernel), inst_X3_following, sel_X3_following, by decide, _, _, rfl⟩
theorem cv_X6_takeLeastPage_88 : xCv mX6_takeLeastPage 88 mX6_takePage 1 3 := ⟨⟨code_X6_takePage, ini_RX6, by decide +kernel, by decide, by decide⟩, gl_mem 563 (by decide +kernel) (by decide +kernel), inst_X6_takePage, sel_X6_takePage, by decide, _, _, rfl⟩
theorem cv_X6_load_95 : xCv mX6_load 95 mX6_rightSequence 1 3 := ⟨⟨code_X6_rightSequence, ini_RX6, by decide +kernel, by decide, by decide⟩, gl_mem 693 (by decide +kernel) (by decide +kernel), inst_X6_rightSequence, sel_X6_rightSequence, by decide, _, _, rfl⟩
theorem ml_RX6_99 : Cond.methodLink RX6 99 Lib.Math.max.name ∈ gl := gl_mem 725 (by decide +kernel) (by decide +kernel)
theorem cv_X6_load_105 : xCv mX6_load 105 mX6_loadBy 2 3 := ⟨⟨code_X6_loadBy, ini_RX6, by decide +kernel, by decide, by decide⟩, gl_mem 726 (by decide +kernel) (by decide +kernel), inst_X6_loadBy, sel_X6_loadBy, by decide, _, _, rfl⟩
theorem ml_RX6_109 : Cond.methodLink RX6 109 Lib.Math.min.name ∈ gl := gl_mem 763 (by decide +kernel) (by decide +kernel)
theorem cv_X6_load_112 : xCv mX6_load 112 mX8_clear 0 5 := ⟨⟨code_X8_clear, ini_RX8, by decide +kernel, by decide, by decide⟩, gl_mem 730 (by decide +kernel) (by decide +kernel), inst_X8_clear, sel_X8_clear, by decide, _, _, rfl⟩
theorem cv_X6_rightSequence_115 : xCv mX6_rightSequence 115 mX0_read 2 0 := ⟨⟨code_X0_read, ini_RX0, by decide +kernel, by decide, by decide⟩, gl_mem 697 (by decide +kernel) (by decide +kernel), inst_X0_read, sel_X0_read, by decide, _, _, rfl⟩
theorem cs_X6_rightSequence_119 : xCs mX6_rightSequence 119 mX2_sequence 1 := ⟨⟨code_X2_sequence, ini_RX2, by decide +kernel, by decide, by decide⟩, gl_mem 701 (by decide +kernel) (by decide +kernel), stat_X2_sequence⟩
theorem cs_X6_rightSequence_127 : xCs mX6_rightSequence 127 mX2_rootPage 1 := ⟨⟨code_X2_rootPage, ini_RX2, by decide +kernel, by decide, by decide⟩, gl_mem 714 (by decide +kernel) (by decide +kernel), stat_X2_rootPage⟩
theorem cs_X6_rightSequence_131 : xCs mX6_rightSequence 131 mX2_keys 1 := ⟨⟨code_X2_keys, ini_RX2, by decide +kernel, by decide, by decide⟩, gl_mem 718 (by decide +kernel) (by decide +kernel), stat_X2_keys⟩
theorem cs_X6_rightSequence_66 : xCs mX6_rightSequence 66 mX2_fill 4 := ⟨⟨code_X2_fill, ini_RX2, by decide +kernel, by decide, by decide⟩, gl_mem 625 (by decide +kernel) (by decide +kernel), stat_X2_fill⟩
theorem cv_X6_rightSequence_133 : xCv mX6_rightSequence 133 mX5_same 1 2 := ⟨⟨code_X5_same, ini_RX5, by decide +kernel, by decide, by decide⟩, gl_mem 721 (by decide +kernel) (by decide +kernel), inst_X5_same, sel_X5_same, by decide, _, _, rfl⟩
theorem cv_X6_loadBy_115 : xCv mX6_loadBy 115 mX0_read 2 0 := ⟨⟨code_X0_read, ini_RX0, by decide +kernel, by decide, by decide⟩, gl_mem 697 (by decide +kernel) (by decide +kernel), inst_X0_read, sel_X0_read, by decide, _, _, rfl⟩
theorem cs_X6_loadBy_131 : xCs mX6_loadBy 131 mX2_keys 1 := ⟨⟨code_X2_keys, ini_RX2, by decide +kernel, by decide, by decide⟩, gl_mem 718 (by decide +kernel) (by decide +kernel), stat_X2_keys⟩
theorem cv_X6_loadBy_112 : xCv mX6_loadBy 112 mX8_clear 0 5 := ⟨⟨code_X8_clear, ini_RX8, by decide +kernel, by decide, by decide⟩, gl_mem 730 (by decide +kernel) (by decide +kernel), inst_X8_clear, sel_X8_clear, by decide, _, _, rfl⟩
theorem cv_X6_loadBy_85 : xCv mX6_loadBy 85 mX6_freeAllPages 0 3 := ⟨⟨code_X6_freeAllPages, ini_RX6, by decide +kernel, by decide, by decide⟩, gl_mem 559 (by decide +kernel) (by decide +kernel), inst_X6_freeAllPages, sel_X6_freeAllPages, by decide, _, _, rfl⟩
theorem cs_X6_loadBy_127 : xCs mX6_loadBy 127 mX2_rootPage 1 := ⟨⟨code_X2_rootPage, ini_RX2, by decide +kernel, by decide, by decide⟩, gl_mem 714 (by decide +kernel) (by decide +kernel), stat_X2_rootPage⟩
theorem cv_X6_loadBy_88 : xCv mX6_loadBy 88 mX6_takePage 1 3 := ⟨⟨code_X6_takePage, ini_RX6, by decide +kernel, by decide, by decide⟩, gl_mem 563 (by decide +kernel) (by decide +kernel), inst_X6_takePage, sel_X6_takePage, by decide, _, _, rfl⟩
theorem cv_X6_loadBy_137 : xCv mX6_loadBy 137 mX6_loadNode 2 3 := ⟨⟨code_X6_loadNode, ini_RX6, by decide +kernel, by decide, by decide⟩, gl_mem 731 (by decide +kernel) (by decide +kernel), inst_X6_loadNode, sel_X6_loadNode, by decide, _, _, rfl⟩
theorem cv_X6_loadBy_92 : xCv mX6_loadBy 92 mX3_following 0 1 := ⟨⟨code_X3_following, ini_RX3, by decide +kernel, by decide, by decide⟩, gl_mem 567 (by decide +kernel) (by decide +kernel), inst_X3_following, sel_X3_following, by decide, _, _, rfl⟩
theorem cv_X6_loadNode_115 : xCv mX6_loadNode 115 mX0_read 2 0 := ⟨⟨code_X0_read, ini_RX0, by decide +kernel, by decide, by decide⟩, gl_mem 697 (by decide +kernel) (by decide +kernel), inst_X0_read, sel_X0_read, by decide, _, _, rfl⟩
theorem cv_X6_loadNode_141 : xCv mX6_loadNode 141 mX5_at 1 2 := ⟨⟨code_X5_at, ini_RX5, by decide +kernel, by decide, by decide⟩, gl_mem 735 (by decide +kernel) (by decide +kernel), inst_X5_at, sel_X5_at, by decide, _, _, rfl⟩
theorem cs_X6_loadNode_147 : xCs mX6_loadNode 147 mX1_mostChildren 1 := ⟨⟨code_X1_mostChildren, ini_RX1, by decide +kernel, by decide, by decide⟩, gl_mem 736 (by decide +kernel) (by decide +kernel), stat_X1_mostChildren⟩
theorem cs_X6_loadNode_152 : xCs mX6_loadNode 152 mX1_is 1 := ⟨⟨code_X1_is, ini_RX1, by decide +kernel, by decide, by decide⟩, gl_mem 737 (by decide +kernel) (by decide +kernel), stat_X1_is⟩
theorem cv_X6_loadNode_155 : xCv mX6_loadNode 155 mX3_lead 0 1 := ⟨⟨code_X3_lead, ini_RX3, by decide +kernel, by decide, by decide⟩, gl_mem 740 (by decide +kernel) (by decide +kernel), inst_X3_lead, sel_X3_lead, by decide, _, _, rfl⟩
theorem cv_X6_loadNode_158 : xCv mX6_loadNode 158 mX3_appendToPrefix 1 1 := ⟨⟨code_X3_appendToPrefix, ini_RX3, by decide +kernel, by decide, by decide⟩, gl_mem 741 (by decide +kernel) (by decide +kernel), inst_X3_appendToPrefix, sel_X3_appendToPrefix, by decide, _, _, rfl⟩
theorem cv_X6_loadNode_162 : xCv mX6_loadNode 162 mX5_longAt 1 2 := ⟨⟨code_X5_longAt, ini_RX5, by decide +kernel, by decide, by decide⟩, gl_mem 742 (by decide +kernel) (by decide +kernel), inst_X5_longAt, sel_X5_longAt, by decide, _, _, rfl⟩
theorem cv_X6_loadNode_166 : xCv mX6_loadNode 166 mX3_setValue 1 1 := ⟨⟨code_X3_setValue, ini_RX3, by decide +kernel, by decide, by decide⟩, gl_mem 743 (by decide +kernel) (by decide +kernel), inst_X3_setValue, sel_X3_setValue, by decide, _, _, rfl⟩
theorem cv_X6_loadNode_170 : xCv mX6_loadNode 170 mX6_hangListed 3 3 := ⟨⟨code_X6_hangListed, ini_RX6, by decide +kernel, by decide, by decide⟩, gl_mem 744 (by decide +kernel) (by decide +kernel), inst_X6_hangListed, sel_X6_hangListed, by decide, _, _, rfl⟩
theorem cv_X6_loadNode_174 : xCv mX6_loadNode 174 mX6_hangMapped 2 3 := ⟨⟨code_X6_hangMapped, ini_RX6, by decide +kernel, by decide, by decide⟩, gl_mem 754 (by decide +kernel) (by decide +kernel), inst_X6_hangMapped, sel_X6_hangMapped, by decide, _, _, rfl⟩
theorem cv_X6_loadNode_183 : xCv mX6_loadNode 183 mX3_hasReason 0 1 := ⟨⟨code_X3_hasReason, ini_RX3, by decide +kernel, by decide, by decide⟩, gl_mem 759 (by decide +kernel) (by decide +kernel), inst_X3_hasReason, sel_X3_hasReason, by decide, _, _, rfl⟩
theorem cs_X6_loadNode_80 : xCs mX6_loadNode 80 mX4_fill 2 := ⟨⟨code_X4_fill, ini_RX4, by decide +kernel, by decide, by decide⟩, gl_mem 580 (by decide +kernel) (by decide +kernel), stat_X4_fill⟩
theorem cv_X6_loadNode_133 : xCv mX6_loadNode 133 mX5_same 1 2 := ⟨⟨code_X5_same, ini_RX5, by decide +kernel, by decide, by decide⟩, gl_mem 721 (by decide +kernel) (by decide +kernel), inst_X5_same, sel_X5_same, by decide, _, _, rfl⟩
theorem cv_X6_hangListed_141 : xCv mX6_hangListed 141 mX5_at 1 2 := ⟨⟨code_X5_at, ini_RX5, by decide +kernel, by decide, by decide⟩, gl_mem 735 (by decide +kernel) (by decide +kernel), inst_X5_at, sel_X5_at, by decide, _, _, rfl⟩
theorem cv_X6_hangListed_187 : xCv mX6_hangListed 187 mX8_take 0 5 := ⟨⟨code_X8_take, ini_RX8, by decide +kernel, by decide, by decide⟩, gl_mem 748 (by decide +kernel) (by decide +kernel), inst_X8_take, sel_X8_take, by decide, _, _, rfl⟩
theorem cv_X6_hangListed_193 : xCv mX6_hangListed 193 mX6_hangBehind 5 3 := ⟨⟨code_X6_hangBehind, ini_RX6, by decide +kernel, by decide, by decide⟩, gl_mem 749 (by decide +kernel) (by decide +kernel), inst_X6_hangBehind, sel_X6_hangBehind, by decide, _, _, rfl⟩
theorem cv_X6_hangMapped_141 : xCv mX6_hangMapped 141 mX5_at 1 2 := ⟨⟨code_X5_at, ini_RX5, by decide +kernel, by decide, by decide⟩, gl_mem 735 (by decide +kernel) (by decide +kernel), inst_X5_at, sel_X5_at, by decide, _, _, rfl⟩
theorem cv_X6_hangMapped_187 : xCv mX6_hangMapped 187 mX8_take 0 5 := ⟨⟨code_X8_take, ini_RX8, by decide +kernel, by decide, by decide⟩, gl_mem 748 (by decide +kernel) (by decide +kernel), inst_X8_take, sel_X8_take, by decide, _, _, rfl⟩
theorem cv_X6_hangMapped_193 : xCv mX6_hangMapped 193 mX6_hangBehind 5 3 := ⟨⟨code_X6_hangBehind, ini_RX6, by decide +kernel, by decide, by decide⟩, gl_mem 749 (by decide +kernel) (by decide +kernel), inst_X6_hangBehind, sel_X6_hangBehind, by decide, _, _, rfl⟩
theorem cv_X6_hangBehind_203 : xCvN mX6_hangBehind 203 mX3_setNextOf 2 1 := ⟨⟨code_X3_setNextOf, ini_RX3, by decide +kernel, by decide, by decide⟩, by decide +kernel, inst_X3_setNextOf, sel_X3_setNextOf, by decide, _, _, rfl⟩
theorem cv_X6_hangBehind_88 : xCv mX6_hangBehind 88 mX6_takePage 1 3 := ⟨⟨code_X6_takePage, ini_RX6, by decide +kernel, by decide, by decide⟩, gl_mem 563 (by decide +kernel) (by decide +kernel), inst_X6_takePage, sel_X6_takePage, by decide, _, _, rfl⟩
theorem ml_RX7_3 : Cond.methodLink RX7 3 objectInit ∈ gl := gl_mem 99 (by decide +kernel) (by decide +kernel)
theorem cv_X7_append_19 : xCv mX7_append 19 mX7_setByte 2 4 := ⟨⟨code_X7_setByte, ini_RX7, by decide +kernel, by decide, by decide⟩, gl_mem 864 (by decide +kernel) (by decide +kernel), inst_X7_setByte, sel_X7_setByte, by decide, _, _, rfl⟩
theorem ml_RX8_3 : Cond.methodLink RX8 3 objectInit ∈ gl := gl_mem 116 (by decide +kernel) (by decide +kernel)
theorem ci_X8_init_17 : xCi mX8_init 17 mX3_init 0 := ⟨⟨code_X3_init, ini_RX3, by decide +kernel, by decide, by decide⟩, gl_mem 120 (by decide +kernel) (by decide +kernel), rfl, inst_X3_init, rfl⟩
theorem cv_X8_init_22 : xCv mX8_init 22 mX8_clear 0 5 := ⟨⟨code_X8_clear, ini_RX8, by decide +kernel, by decide, by decide⟩, gl_mem 202 (by decide +kernel) (by decide +kernel), inst_X8_clear, sel_X8_clear, by decide, _, _, rfl⟩
theorem cv_X8_clear_31 : xCvN mX8_clear 31 mX3_reset 0 1 := ⟨⟨code_X3_reset, ini_RX3, by decide +kernel, by decide, by decide⟩, by decide +kernel, inst_X3_reset, sel_X3_reset, by decide, _, _, rfl⟩
theorem cv_X8_take_31 : xCvN mX8_take 31 mX3_reset 0 1 := ⟨⟨code_X3_reset, ini_RX3, by decide +kernel, by decide, by decide⟩, by decide +kernel, inst_X3_reset, sel_X3_reset, by decide, _, _, rfl⟩
theorem cv_X8_seek_47 : xCv mX8_seek 47 mX3_matching 2 1 := ⟨⟨code_X3_matching, ini_RX3, by decide +kernel, by decide, by decide⟩, gl_mem 356 (by decide +kernel) (by decide +kernel), inst_X3_matching, sel_X3_matching, by decide, _, _, rfl⟩
theorem cv_X8_seek_54 : xCv mX8_seek 54 mX8_stepFrom 2 5 := ⟨⟨code_X8_stepFrom, ini_RX8, by decide +kernel, by decide, by decide⟩, gl_mem 365 (by decide +kernel) (by decide +kernel), inst_X8_stepFrom, sel_X8_stepFrom, by decide, _, _, rfl⟩
theorem cv_X8_stepFrom_66 : xCv mX8_stepFrom 66 mX7_byteAt 1 4 := ⟨⟨code_X7_byteAt, ini_RX7, by decide +kernel, by decide, by decide⟩, gl_mem 331 (by decide +kernel) (by decide +kernel), inst_X7_byteAt, sel_X7_byteAt, by decide, _, _, rfl⟩
theorem cv_X8_stepFrom_70 : xCv mX8_stepFrom 70 mX3_childBy 1 1 := ⟨⟨code_X3_childBy, ini_RX3, by decide +kernel, by decide, by decide⟩, gl_mem 369 (by decide +kernel) (by decide +kernel), inst_X3_childBy, sel_X3_childBy, by decide, _, _, rfl⟩
theorem cv_X8_nodeOf_74 : xCv mX8_nodeOf 74 mX8_seek 1 5 := ⟨⟨code_X8_seek, ini_RX8, by decide +kernel, by decide, by decide⟩, gl_mem 352 (by decide +kernel) (by decide +kernel), inst_X8_seek, sel_X8_seek, by decide, _, _, rfl⟩
theorem cv_X8_store_82 : xCv mX8_store 82 mX8_storeFirst 2 5 := ⟨⟨code_X8_storeFirst, ini_RX8, by decide +kernel, by decide, by decide⟩, gl_mem 327 (by decide +kernel) (by decide +kernel), inst_X8_storeFirst, sel_X8_storeFirst, by decide, _, _, rfl⟩
theorem cv_X8_store_74 : xCv mX8_store 74 mX8_seek 1 5 := ⟨⟨code_X8_seek, ini_RX8, by decide +kernel, by decide, by decide⟩, gl_mem 352 (by decide +kernel) (by decide +kernel), inst_X8_seek, sel_X8_seek, by decide, _, _, rfl⟩
theorem cv_X8_store_86 : xCv mX8_store 86 mX8_storeByCut 2 5 := ⟨⟨code_X8_storeByCut, ini_RX8, by decide +kernel, by decide, by decide⟩, gl_mem 377 (by decide +kernel) (by decide +kernel), inst_X8_storeByCut, sel_X8_storeByCut, by decide, _, _, rfl⟩
theorem cv_X8_store_89 : xCv mX8_store 89 mX8_storeByChild 2 5 := ⟨⟨code_X8_storeByChild, ini_RX8, by decide +kernel, by decide, by decide⟩, gl_mem 429 (by decide +kernel) (by decide +kernel), inst_X8_storeByChild, sel_X8_storeByChild, by decide, _, _, rfl⟩
theorem cv_X8_store_92 : xCv mX8_store 92 mX8_storeHere 1 5 := ⟨⟨code_X8_storeHere, ini_RX8, by decide +kernel, by decide, by decide⟩, gl_mem 340 (by decide +kernel) (by decide +kernel), inst_X8_storeHere, sel_X8_storeHere, by decide, _, _, rfl⟩
theorem cv_X8_storeFirst_66 : xCv mX8_storeFirst 66 mX7_byteAt 1 4 := ⟨⟨code_X7_byteAt, ini_RX7, by decide +kernel, by decide, by decide⟩, gl_mem 331 (by decide +kernel) (by decide +kernel), inst_X7_byteAt, sel_X7_byteAt, by decide, _, _, rfl⟩
theorem cv_X8_storeFirst_96 : xCv mX8_storeFirst 96 mX3_appendToPrefix 1 1 := ⟨⟨code_X3_appendToPrefix, ini_RX3, by decide +kernel, by decide, by decide⟩, gl_mem 332 (by decide +kernel) (by decide +kernel), inst_X3_appendToPrefix, sel_X3_appendToPrefix, by decide, _, _, rfl⟩
theorem cv_X8_storeFirst_92 : xCv mX8_storeFirst 92 mX8_storeHere 1 5 := ⟨⟨code_X8_storeHere, ini_RX8, by decide +kernel, by decide, by decide⟩, gl_mem 340 (by decide +kernel) (by decide +kernel), inst_X8_storeHere, sel_X8_storeHere, by decide, _, _, rfl⟩
theorem cv_X8_storeHere_104 : xCv mX8_storeHere 104 mX3_setValue 1 1 := ⟨⟨code_X3_setValue, ini_RX3, by decide +kernel, by decide, by decide⟩, gl_mem 344 (by decide +kernel) (by decide +kernel), inst_X3_setValue, sel_X3_setValue, by decide, _, _, rfl⟩
theorem cv_X8_storeHere_108 : xCv mX8_storeHere 108 mX3_freshen 0 1 := ⟨⟨code_X3_freshen, ini_RX3, by decide +kernel, by decide, by decide⟩, gl_mem 348 (by decide +kernel) (by decide +kernel), inst_X3_freshen, sel_X3_freshen, by decide, _, _, rfl⟩
theorem cv_X8_storeByChild_111 : xCv mX8_storeByChild 111 mX8_take 0 5 := ⟨⟨code_X8_take, ini_RX8, by decide +kernel, by decide, by decide⟩, gl_mem 381 (by decide +kernel) (by decide +kernel), inst_X8_take, sel_X8_take, by decide, _, _, rfl⟩
theorem cv_X8_storeByChild_115 : xCv mX8_storeByChild 115 mX8_hang 4 5 := ⟨⟨code_X8_hang, ini_RX8, by decide +kernel, by decide, by decide⟩, gl_mem 425 (by decide +kernel) (by decide +kernel), inst_X8_hang, sel_X8_hang, by decide, _, _, rfl⟩
theorem cv_X8_storeByCut_111 : xCv mX8_storeByCut 111 mX8_take 0 5 := ⟨⟨code_X8_take, ini_RX8, by decide +kernel, by decide, by decide⟩, gl_mem 381 (by decide +kernel) (by decide +kernel), inst_X8_take, sel_X8_take, by decide, _, _, rfl⟩
theorem cv_X8_storeByCut_119 : xCv mX8_storeByCut 119 mX8_insertAbove 2 5 := ⟨⟨code_X8_insertAbove, ini_RX8, by decide +kernel, by decide, by decide⟩, gl_mem 385 (by decide +kernel) (by decide +kernel), inst_X8_insertAbove, sel_X8_insertAbove, by decide, _, _, rfl⟩
theorem cv_X8_storeByCut_115 : xCv mX8_storeByCut 115 mX8_hang 4 5 := ⟨⟨code_X8_hang, ini_RX8, by decide +kernel, by decide, by decide⟩, gl_mem 425 (by decide +kernel) (by decide +kernel), inst_X8_hang, sel_X8_hang, by decide, _, _, rfl⟩
theorem cv_X8_storeByCut_104 : xCv mX8_storeByCut 104 mX3_setValue 1 1 := ⟨⟨code_X3_setValue, ini_RX3, by decide +kernel, by decide, by decide⟩, gl_mem 344 (by decide +kernel) (by decide +kernel), inst_X3_setValue, sel_X3_setValue, by decide, _, _, rfl⟩
theorem cv_X8_hang_66 : xCv mX8_hang 66 mX7_byteAt 1 4 := ⟨⟨code_X7_byteAt, ini_RX7, by decide +kernel, by decide, by decide⟩, gl_mem 331 (by decide +kernel) (by decide +kernel), inst_X7_byteAt, sel_X7_byteAt, by decide, _, _, rfl⟩
theorem cv_X8_hang_96 : xCv mX8_hang 96 mX3_appendToPrefix 1 1 := ⟨⟨code_X3_appendToPrefix, ini_RX3, by decide +kernel, by decide, by decide⟩, gl_mem 332 (by decide +kernel) (by decide +kernel), inst_X3_appendToPrefix, sel_X3_appendToPrefix, by decide, _, _, rfl⟩
theorem cv_X8_hang_104 : xCv mX8_hang 104 mX3_setValue 1 1 := ⟨⟨code_X3_setValue, ini_RX3, by decide +kernel, by decide, by decide⟩, gl_mem 344 (by decide +kernel) (by decide +kernel), inst_X3_setValue, sel_X3_setValue, by decide, _, _, rfl⟩
theorem cv_X8_hang_126 : xCv mX8_hang 126 mX3_gain 1 1 := ⟨⟨code_X3_gain, ini_RX3, by decide +kernel, by decide, by decide⟩, gl_mem 413 (by decide +kernel) (by decide +kernel), inst_X3_gain, sel_X3_gain, by decide, _, _, rfl⟩
theorem cv_X8_hang_108 : xCv mX8_hang 108 mX3_freshen 0 1 := ⟨⟨code_X3_freshen, ini_RX3, by decide +kernel, by decide, by decide⟩, gl_mem 348 (by decide +kernel) (by decide +kernel), inst_X3_freshen, sel_X3_freshen, by decide, _, _, rfl⟩
theorem cv_X8_insertAbove_130 : xCv mX8_insertAbove 130 mX3_prefixAt 1 1 := ⟨⟨code_X3_prefixAt, ini_RX3, by decide +kernel, by decide, by decide⟩, gl_mem 389 (by decide +kernel) (by decide +kernel), inst_X3_prefixAt, sel_X3_prefixAt, by decide, _, _, rfl⟩
theorem cv_X8_insertAbove_96 : xCv mX8_insertAbove 96 mX3_appendToPrefix 1 1 := ⟨⟨code_X3_appendToPrefix, ini_RX3, by decide +kernel, by decide, by decide⟩, gl_mem 332 (by decide +kernel) (by decide +kernel), inst_X3_appendToPrefix, sel_X3_appendToPrefix, by decide, _, _, rfl⟩
theorem cv_X8_insertAbove_133 : xCv mX8_insertAbove 133 mX8_putInPlace 2 5 := ⟨⟨code_X8_putInPlace, ini_RX8, by decide +kernel, by decide, by decide⟩, gl_mem 390 (by decide +kernel) (by decide +kernel), inst_X8_putInPlace, sel_X8_putInPlace, by decide, _, _, rfl⟩
theorem cv_X8_insertAbove_136 : xCv mX8_insertAbove 136 mX3_dropFromPrefix 1 1 := ⟨⟨code_X3_dropFromPrefix, ini_RX3, by decide +kernel, by decide, by decide⟩, gl_mem 406 (by decide +kernel) (by decide +kernel), inst_X3_dropFromPrefix, sel_X3_dropFromPrefix, by decide, _, _, rfl⟩
theorem cv_X8_insertAbove_126 : xCv mX8_insertAbove 126 mX3_gain 1 1 := ⟨⟨code_X3_gain, ini_RX3, by decide +kernel, by decide, by decide⟩, gl_mem 413 (by decide +kernel) (by decide +kernel), inst_X3_gain, sel_X3_gain, by decide, _, _, rfl⟩
theorem cv_X8_insertAbove_108 : xCv mX8_insertAbove 108 mX3_freshen 0 1 := ⟨⟨code_X3_freshen, ini_RX3, by decide +kernel, by decide, by decide⟩, gl_mem 348 (by decide +kernel) (by decide +kernel), inst_X3_freshen, sel_X3_freshen, by decide, _, _, rfl⟩
theorem cv_X8_putInPlace_139 : xCv mX8_putInPlace 139 mX3_yieldTo 1 1 := ⟨⟨code_X3_yieldTo, ini_RX3, by decide +kernel, by decide, by decide⟩, gl_mem 394 (by decide +kernel) (by decide +kernel), inst_X3_yieldTo, sel_X3_yieldTo, by decide, _, _, rfl⟩
theorem cv_X8_drop_142 : xCv mX8_drop 142 mX8_nodeOf 1 5 := ⟨⟨code_X8_nodeOf, ini_RX8, by decide +kernel, by decide, by decide⟩, gl_mem 441 (by decide +kernel) (by decide +kernel), inst_X8_nodeOf, sel_X8_nodeOf, by decide, _, _, rfl⟩
theorem cv_X8_drop_146 : xCv mX8_drop 146 mX3_loseValue 0 1 := ⟨⟨code_X3_loseValue, ini_RX3, by decide +kernel, by decide, by decide⟩, gl_mem 445 (by decide +kernel) (by decide +kernel), inst_X3_loseValue, sel_X3_loseValue, by decide, _, _, rfl⟩
theorem cv_X8_drop_108 : xCv mX8_drop 108 mX3_freshen 0 1 := ⟨⟨code_X3_freshen, ini_RX3, by decide +kernel, by decide, by decide⟩, gl_mem 348 (by decide +kernel) (by decide +kernel), inst_X3_freshen, sel_X3_freshen, by decide, _, _, rfl⟩
theorem cv_X8_drop_152 : xCv mX8_drop 152 mX8_join 1 5 := ⟨⟨code_X8_join, ini_RX8, by decide +kernel, by decide, by decide⟩, gl_mem 449 (by decide +kernel) (by decide +kernel), inst_X8_join, sel_X8_join, by decide, _, _, rfl⟩
theorem cv_X8_drop_158 : xCv mX8_drop 158 mX8_detach 2 5 := ⟨⟨code_X8_detach, ini_RX8, by decide +kernel, by decide, by decide⟩, gl_mem 464 (by decide +kernel) (by decide +kernel), inst_X8_detach, sel_X8_detach, by decide, _, _, rfl⟩
theorem cv_X8_detach_166 : xCv mX8_detach 166 mX3_lose 1 1 := ⟨⟨code_X3_lose, ini_RX3, by decide +kernel, by decide, by decide⟩, gl_mem 468 (by decide +kernel) (by decide +kernel), inst_X3_lose, sel_X3_lose, by decide, _, _, rfl⟩
theorem cv_X8_detach_169 : xCv mX8_detach 169 mX8_release 1 5 := ⟨⟨code_X8_release, ini_RX8, by decide +kernel, by decide, by decide⟩, gl_mem 460 (by decide +kernel) (by decide +kernel), inst_X8_release, sel_X8_release, by decide, _, _, rfl⟩
theorem cv_X8_detach_152 : xCv mX8_detach 152 mX8_join 1 5 := ⟨⟨code_X8_join, ini_RX8, by decide +kernel, by decide, by decide⟩, gl_mem 449 (by decide +kernel) (by decide +kernel), inst_X8_join, sel_X8_join, by decide, _, _, rfl⟩
theorem cv_X8_join_175 : xCv mX8_join 175 mX3_takePrefixOfParent 1 1 := ⟨⟨code_X3_takePrefixOfParent, ini_RX3, by decide +kernel, by decide, by decide⟩, gl_mem 453 (by decide +kernel) (by decide +kernel), inst_X3_takePrefixOfParent, sel_X3_takePrefixOfParent, by decide, _, _, rfl⟩
theorem cv_X8_join_133 : xCv mX8_join 133 mX8_putInPlace 2 5 := ⟨⟨code_X8_putInPlace, ini_RX8, by decide +kernel, by decide, by decide⟩, gl_mem 390 (by decide +kernel) (by decide +kernel), inst_X8_putInPlace, sel_X8_putInPlace, by decide, _, _, rfl⟩
theorem cv_X8_join_169 : xCv mX8_join 169 mX8_release 1 5 := ⟨⟨code_X8_release, ini_RX8, by decide +kernel, by decide, by decide⟩, gl_mem 460 (by decide +kernel) (by decide +kernel), inst_X8_release, sel_X8_release, by decide, _, _, rfl⟩
theorem cv_X8_join_108 : xCv mX8_join 108 mX3_freshen 0 1 := ⟨⟨code_X3_freshen, ini_RX3, by decide +kernel, by decide, by decide⟩, gl_mem 348 (by decide +kernel) (by decide +kernel), inst_X3_freshen, sel_X3_freshen, by decide, _, _, rfl⟩
theorem cv_X8_keysBetween_178 : xCv mX8_keysBetween 178 mX3_following 0 1 := ⟨⟨code_X3_following, ini_RX3, by decide +kernel, by decide, by decide⟩, gl_mem 497 (by decide +kernel) (by decide +kernel), inst_X3_following, sel_X3_following, by decide, _, _, rfl⟩
theorem cv_X8_keysUnder_74 : xCv mX8_keysUnder 74 mX8_seek 1 5 := ⟨⟨code_X8_seek, ini_RX8, by decide +kernel, by decide, by decide⟩, gl_mem 352 (by decide +kernel) (by decide +kernel), inst_X8_seek, sel_X8_seek, by decide, _, _, rfl⟩
theorem cv_X8_keysUnder_181 : xCv mX8_keysUnder 181 mX3_behind 0 1 := ⟨⟨code_X3_behind, ini_RX3, by decide +kernel, by decide, by decide⟩, gl_mem 490 (by decide +kernel) (by decide +kernel), inst_X3_behind, sel_X3_behind, by decide, _, _, rfl⟩
theorem cs_X8_keysUnder_184 : xCs mX8_keysUnder 184 mX8_keysBetween 2 := ⟨⟨code_X8_keysBetween, ini_RX8, by decide +kernel, by decide, by decide⟩, gl_mem 494 (by decide +kernel) (by decide +kernel), stat_X8_keysBetween⟩
theorem cv_X8_keysAhead_74 : xCv mX8_keysAhead 74 mX8_seek 1 5 := ⟨⟨code_X8_seek, ini_RX8, by decide +kernel, by decide, by decide⟩, gl_mem 352 (by decide +kernel) (by decide +kernel), inst_X8_seek, sel_X8_seek, by decide, _, _, rfl⟩
theorem cv_X8_keysAhead_188 : xCv mX8_keysAhead 188 mX8_firstNotAhead 1 5 := ⟨⟨code_X8_firstNotAhead, ini_RX8, by decide +kernel, by decide, by decide⟩, gl_mem 510 (by decide +kernel) (by decide +kernel), inst_X8_firstNotAhead, sel_X8_firstNotAhead, by decide, _, _, rfl⟩
theorem cs_X8_keysAhead_184 : xCs mX8_keysAhead 184 mX8_keysBetween 2 := ⟨⟨code_X8_keysBetween, ini_RX8, by decide +kernel, by decide, by decide⟩, gl_mem 494 (by decide +kernel) (by decide +kernel), stat_X8_keysBetween⟩
theorem cv_X8_firstNotAhead_66 : xCv mX8_firstNotAhead 66 mX7_byteAt 1 4 := ⟨⟨code_X7_byteAt, ini_RX7, by decide +kernel, by decide, by decide⟩, gl_mem 331 (by decide +kernel) (by decide +kernel), inst_X7_byteAt, sel_X7_byteAt, by decide, _, _, rfl⟩
theorem cv_X8_firstNotAhead_130 : xCv mX8_firstNotAhead 130 mX3_prefixAt 1 1 := ⟨⟨code_X3_prefixAt, ini_RX3, by decide +kernel, by decide, by decide⟩, gl_mem 389 (by decide +kernel) (by decide +kernel), inst_X3_prefixAt, sel_X3_prefixAt, by decide, _, _, rfl⟩
theorem cv_X8_firstNotAhead_181 : xCv mX8_firstNotAhead 181 mX3_behind 0 1 := ⟨⟨code_X3_behind, ini_RX3, by decide +kernel, by decide, by decide⟩, gl_mem 490 (by decide +kernel) (by decide +kernel), inst_X3_behind, sel_X3_behind, by decide, _, _, rfl⟩
theorem cv_X8_firstNotAhead_191 : xCv mX8_firstNotAhead 191 mX3_firstFrom 1 1 := ⟨⟨code_X3_firstFrom, ini_RX3, by decide +kernel, by decide, by decide⟩, gl_mem 514 (by decide +kernel) (by decide +kernel), inst_X3_firstFrom, sel_X3_firstFrom, by decide, _, _, rfl⟩
theorem cv_X8_keyNumber_178 : xCv mX8_keyNumber 178 mX3_following 0 1 := ⟨⟨code_X3_following, ini_RX3, by decide +kernel, by decide, by decide⟩, gl_mem 497 (by decide +kernel) (by decide +kernel), inst_X3_following, sel_X3_following, by decide, _, _, rfl⟩
theorem cv_X8_nodeNumber_178 : xCv mX8_nodeNumber 178 mX3_following 0 1 := ⟨⟨code_X3_following, ini_RX3, by decide +kernel, by decide, by decide⟩, gl_mem 497 (by decide +kernel) (by decide +kernel), inst_X3_following, sel_X3_following, by decide, _, _, rfl⟩
theorem cv_X8_nodesOfFormat_178 : xCv mX8_nodesOfFormat 178 mX3_following 0 1 := ⟨⟨code_X3_following, ini_RX3, by decide +kernel, by decide, by decide⟩, gl_mem 497 (by decide +kernel) (by decide +kernel), inst_X3_following, sel_X3_following, by decide, _, _, rfl⟩
theorem cv_X8_freshNodes_178 : xCv mX8_freshNodes 178 mX3_following 0 1 := ⟨⟨code_X3_following, ini_RX3, by decide +kernel, by decide, by decide⟩, gl_mem 497 (by decide +kernel) (by decide +kernel), inst_X3_following, sel_X3_following, by decide, _, _, rfl⟩
theorem cv_X8_nodesOnPages_178 : xCv mX8_nodesOnPages 178 mX3_following 0 1 := ⟨⟨code_X3_following, ini_RX3, by decide +kernel, by decide, by decide⟩, gl_mem 497 (by decide +kernel) (by decide +kernel), inst_X3_following, sel_X3_following, by decide, _, _, rfl⟩
theorem cv_X8_depth_200 : xCv mX8_depth 200 mX3_level 0 1 := ⟨⟨code_X3_level, ini_RX3, by decide +kernel, by decide, by decide⟩, gl_mem 663 (by decide +kernel) (by decide +kernel), inst_X3_level, sel_X3_level, by decide, _, _, rfl⟩
theorem ml_RX8_204 : Cond.methodLink RX8 204 Lib.Math.max.name ∈ gl := gl_mem 667 (by decide +kernel) (by decide +kernel)
theorem cv_X8_depth_178 : xCv mX8_depth 178 mX3_following 0 1 := ⟨⟨code_X3_following, ini_RX3, by decide +kernel, by decide, by decide⟩, gl_mem 497 (by decide +kernel) (by decide +kernel), inst_X3_following, sel_X3_following, by decide, _, _, rfl⟩
theorem cv_X8_settle_178 : xCv mX8_settle 178 mX3_following 0 1 := ⟨⟨code_X3_following, ini_RX3, by decide +kernel, by decide, by decide⟩, gl_mem 497 (by decide +kernel) (by decide +kernel), inst_X3_following, sel_X3_following, by decide, _, _, rfl⟩
theorem cv_X8_become_22 : xCv mX8_become 22 mX8_clear 0 5 := ⟨⟨code_X8_clear, ini_RX8, by decide +kernel, by decide, by decide⟩, gl_mem 202 (by decide +kernel) (by decide +kernel), inst_X8_clear, sel_X8_clear, by decide, _, _, rfl⟩
theorem cv_X8_become_111 : xCv mX8_become 111 mX8_take 0 5 := ⟨⟨code_X8_take, ini_RX8, by decide +kernel, by decide, by decide⟩, gl_mem 381 (by decide +kernel) (by decide +kernel), inst_X8_take, sel_X8_take, by decide, _, _, rfl⟩
theorem cv_X8_become_178 : xCv mX8_become 178 mX3_following 0 1 := ⟨⟨code_X3_following, ini_RX3, by decide +kernel, by decide, by decide⟩, gl_mem 497 (by decide +kernel) (by decide +kernel), inst_X3_following, sel_X3_following, by decide, _, _, rfl⟩
theorem cv_X8_become_213 : xCv mX8_become 213 mX3_mirror 1 1 := ⟨⟨code_X3_mirror, ini_RX3, by decide +kernel, by decide, by decide⟩, gl_mem 640 (by decide +kernel) (by decide +kernel), inst_X3_mirror, sel_X3_mirror, by decide, _, _, rfl⟩
theorem ml_RX9_3 : Cond.methodLink RX9 3 objectInit ∈ gl := gl_mem 91 (by decide +kernel) (by decide +kernel)
theorem ci_X9_init_11 : xCiN mX9_init 11 mX7_init 0 := ⟨⟨code_X7_init, ini_RX7, by decide +kernel, by decide, by decide⟩, by decide +kernel, rfl, inst_X7_init, rfl⟩
theorem ci_X9_init_20 : xCi mX9_init 20 mX8_init 0 := ⟨⟨code_X8_init, ini_RX8, by decide +kernel, by decide, by decide⟩, gl_mem 113 (by decide +kernel) (by decide +kernel), rfl, inst_X8_init, rfl⟩
theorem ci_X9_init_30 : xCiN mX9_init 30 mX6_init 0 := ⟨⟨code_X6_init, ini_RX6, by decide +kernel, by decide, by decide⟩, by decide +kernel, rfl, inst_X6_init, rfl⟩
theorem cv_X9_type_58 : xCv mX9_type 58 mX7_append 1 4 := ⟨⟨code_X7_append, ini_RX7, by decide +kernel, by decide, by decide⟩, gl_mem 860 (by decide +kernel) (by decide +kernel), inst_X7_append, sel_X7_append, by decide, _, _, rfl⟩
theorem cv_X9_tapeAt_64 : xCv mX9_tapeAt 64 mX7_byteAt 1 4 := ⟨⟨code_X7_byteAt, ini_RX7, by decide +kernel, by decide, by decide⟩, gl_mem 310 (by decide +kernel) (by decide +kernel), inst_X7_byteAt, sel_X7_byteAt, by decide, _, _, rfl⟩
theorem cv_X9_put_68 : xCv mX9_put 68 mX7_isKey 0 4 := ⟨⟨code_X7_isKey, ini_RX7, by decide +kernel, by decide, by decide⟩, gl_mem 318 (by decide +kernel) (by decide +kernel), inst_X7_isKey, sel_X7_isKey, by decide, _, _, rfl⟩
theorem cv_X9_put_74 : xCv mX9_put 74 mX8_store 2 5 := ⟨⟨code_X8_store, ini_RX8, by decide +kernel, by decide, by decide⟩, gl_mem 323 (by decide +kernel) (by decide +kernel), inst_X8_store, sel_X8_store, by decide, _, _, rfl⟩
theorem cv_X9_remove_68 : xCv mX9_remove 68 mX7_isKey 0 4 := ⟨⟨code_X7_isKey, ini_RX7, by decide +kernel, by decide, by decide⟩, gl_mem 318 (by decide +kernel) (by decide +kernel), inst_X7_isKey, sel_X7_isKey, by decide, _, _, rfl⟩
theorem cv_X9_remove_77 : xCv mX9_remove 77 mX8_drop 1 5 := ⟨⟨code_X8_drop, ini_RX8, by decide +kernel, by decide, by decide⟩, gl_mem 437 (by decide +kernel) (by decide +kernel), inst_X8_drop, sel_X8_drop, by decide, _, _, rfl⟩
theorem cv_X9_get_68 : xCv mX9_get 68 mX7_isKey 0 4 := ⟨⟨code_X7_isKey, ini_RX7, by decide +kernel, by decide, by decide⟩, gl_mem 318 (by decide +kernel) (by decide +kernel), inst_X7_isKey, sel_X7_isKey, by decide, _, _, rfl⟩
theorem cv_X9_get_81 : xCv mX9_get 81 mX8_nodeOf 1 5 := ⟨⟨code_X8_nodeOf, ini_RX8, by decide +kernel, by decide, by decide⟩, gl_mem 481 (by decide +kernel) (by decide +kernel), inst_X8_nodeOf, sel_X8_nodeOf, by decide, _, _, rfl⟩
theorem cv_X9_with_68 : xCv mX9_with 68 mX7_isKey 0 4 := ⟨⟨code_X7_isKey, ini_RX7, by decide +kernel, by decide, by decide⟩, gl_mem 318 (by decide +kernel) (by decide +kernel), inst_X7_isKey, sel_X7_isKey, by decide, _, _, rfl⟩
theorem cv_X9_with_91 : xCv mX9_with 91 mX8_keysUnder 1 5 := ⟨⟨code_X8_keysUnder, ini_RX8, by decide +kernel, by decide, by decide⟩, gl_mem 486 (by decide +kernel) (by decide +kernel), inst_X8_keysUnder, sel_X8_keysUnder, by decide, _, _, rfl⟩
theorem cv_X9_before_68 : xCv mX9_before 68 mX7_isKey 0 4 := ⟨⟨code_X7_isKey, ini_RX7, by decide +kernel, by decide, by decide⟩, gl_mem 318 (by decide +kernel) (by decide +kernel), inst_X7_isKey, sel_X7_isKey, by decide, _, _, rfl⟩
theorem cv_X9_before_94 : xCv mX9_before 94 mX8_keysAhead 1 5 := ⟨⟨code_X8_keysAhead, ini_RX8, by decide +kernel, by decide, by decide⟩, gl_mem 506 (by decide +kernel) (by decide +kernel), inst_X8_keysAhead, sel_X8_keysAhead, by decide, _, _, rfl⟩
theorem cv_X9_nth_97 : xCv mX9_nth 97 mX8_keyNumber 1 5 := ⟨⟨code_X8_keyNumber, ini_RX8, by decide +kernel, by decide, by decide⟩, gl_mem 519 (by decide +kernel) (by decide +kernel), inst_X8_keyNumber, sel_X8_keyNumber, by decide, _, _, rfl⟩
theorem cv_X9_nth_101 : xCv mX9_nth 101 mX3_spell 1 1 := ⟨⟨code_X3_spell, ini_RX3, by decide +kernel, by decide, by decide⟩, gl_mem 523 (by decide +kernel) (by decide +kernel), inst_X3_spell, sel_X3_spell, by decide, _, _, rfl⟩
theorem cv_X9_commit_105 : xCv mX9_commit 105 mX8_freshNodes 0 5 := ⟨⟨code_X8_freshNodes, ini_RX8, by decide +kernel, by decide, by decide⟩, gl_mem 539 (by decide +kernel) (by decide +kernel), inst_X8_freshNodes, sel_X8_freshNodes, by decide, _, _, rfl⟩
theorem cv_X9_commit_109 : xCv mX9_commit 109 mX9_freePages 0 6 := ⟨⟨code_X9_freePages, ini_RX9, by decide +kernel, by decide, by decide⟩, gl_mem 543 (by decide +kernel) (by decide +kernel), inst_X9_freePages, sel_X9_freePages, by decide, _, _, rfl⟩
theorem cv_X9_commit_112 : xCv mX9_commit 112 mX6_save 3 3 := ⟨⟨code_X6_save, ini_RX6, by decide +kernel, by decide, by decide⟩, gl_mem 551 (by decide +kernel) (by decide +kernel), inst_X6_save, sel_X6_save, by decide, _, _, rfl⟩
theorem cv_X9_commit_116 : xCv mX9_commit 116 mX8_settle 0 5 := ⟨⟨code_X8_settle, ini_RX8, by decide +kernel, by decide, by decide⟩, gl_mem 632 (by decide +kernel) (by decide +kernel), inst_X8_settle, sel_X8_settle, by decide, _, _, rfl⟩
theorem cv_X9_commit_119 : xCv mX9_commit 119 mX8_become 1 5 := ⟨⟨code_X8_become, ini_RX8, by decide +kernel, by decide, by decide⟩, gl_mem 636 (by decide +kernel) (by decide +kernel), inst_X8_become, sel_X8_become, by decide, _, _, rfl⟩
theorem cv_X9_back_105 : xCv mX9_back 105 mX8_freshNodes 0 5 := ⟨⟨code_X8_freshNodes, ini_RX8, by decide +kernel, by decide, by decide⟩, gl_mem 539 (by decide +kernel) (by decide +kernel), inst_X8_freshNodes, sel_X8_freshNodes, by decide, _, _, rfl⟩
theorem cv_X9_back_119 : xCv mX9_back 119 mX8_become 1 5 := ⟨⟨code_X8_become, ini_RX8, by decide +kernel, by decide, by decide⟩, gl_mem 636 (by decide +kernel) (by decide +kernel), inst_X8_become, sel_X8_become, by decide, _, _, rfl⟩
theorem cv_X9_count_129 : xCv mX9_count 129 mX8_nodesOfFormat 1 5 := ⟨⟨code_X8_nodesOfFormat, ini_RX8, by decide +kernel, by decide, by decide⟩, gl_mem 655 (by decide +kernel) (by decide +kernel), inst_X8_nodesOfFormat, sel_X8_nodesOfFormat, by decide, _, _, rfl⟩
theorem cv_X9_count_105 : xCv mX9_count 105 mX8_freshNodes 0 5 := ⟨⟨code_X8_freshNodes, ini_RX8, by decide +kernel, by decide, by decide⟩, gl_mem 539 (by decide +kernel) (by decide +kernel), inst_X8_freshNodes, sel_X8_freshNodes, by decide, _, _, rfl⟩
theorem cv_X9_count_109 : xCv mX9_count 109 mX9_freePages 0 6 := ⟨⟨code_X9_freePages, ini_RX9, by decide +kernel, by decide, by decide⟩, gl_mem 543 (by decide +kernel) (by decide +kernel), inst_X9_freePages, sel_X9_freePages, by decide, _, _, rfl⟩
theorem cv_X9_count_139 : xCv mX9_count 139 mX8_depth 0 5 := ⟨⟨code_X8_depth, ini_RX8, by decide +kernel, by decide, by decide⟩, gl_mem 659 (by decide +kernel) (by decide +kernel), inst_X8_depth, sel_X8_depth, by decide, _, _, rfl⟩
theorem cv_X9_node_142 : xCv mX9_node 142 mX8_nodeNumber 1 5 := ⟨⟨code_X8_nodeNumber, ini_RX8, by decide +kernel, by decide, by decide⟩, gl_mem 672 (by decide +kernel) (by decide +kernel), inst_X8_nodeNumber, sel_X8_nodeNumber, by decide, _, _, rfl⟩
theorem cv_X9_node_157 : xCv mX9_node 157 mX3_lead 0 1 := ⟨⟨code_X3_lead, ini_RX3, by decide +kernel, by decide, by decide⟩, gl_mem 676 (by decide +kernel) (by decide +kernel), inst_X3_lead, sel_X3_lead, by decide, _, _, rfl⟩
theorem cv_X9_power_166 : xCv mX9_power 166 mX0_setPower 2 0 := ⟨⟨code_X0_setPower, ini_RX0, by decide +kernel, by decide, by decide⟩, gl_mem 681 (by decide +kernel) (by decide +kernel), inst_X0_setPower, sel_X0_setPower, by decide, _, _, rfl⟩
theorem cv_X9_start_166 : xCv mX9_start 166 mX0_setPower 2 0 := ⟨⟨code_X0_setPower, ini_RX0, by decide +kernel, by decide, by decide⟩, gl_mem 681 (by decide +kernel) (by decide +kernel), inst_X0_setPower, sel_X0_setPower, by decide, _, _, rfl⟩
theorem cv_X9_start_170 : xCv mX9_start 170 mX6_load 1 3 := ⟨⟨code_X6_load, ini_RX6, by decide +kernel, by decide, by decide⟩, gl_mem 689 (by decide +kernel) (by decide +kernel), inst_X6_load, sel_X6_load, by decide, _, _, rfl⟩
theorem cv_X9_start_119 : xCv mX9_start 119 mX8_become 1 5 := ⟨⟨code_X8_become, ini_RX8, by decide +kernel, by decide, by decide⟩, gl_mem 636 (by decide +kernel) (by decide +kernel), inst_X8_become, sel_X8_become, by decide, _, _, rfl⟩
theorem cs_X9_octet_174 : xCs mX9_octet 174 mX0_has 2 := ⟨⟨code_X0_has, ini_RX0, by decide +kernel, by decide, by decide⟩, gl_mem 881 (by decide +kernel) (by decide +kernel), stat_X0_has⟩
theorem cv_X9_octet_183 : xCv mX9_octet 183 mX0_byteAt 2 0 := ⟨⟨code_X0_byteAt, ini_RX0, by decide +kernel, by decide, by decide⟩, gl_mem 898 (by decide +kernel) (by decide +kernel), inst_X0_byteAt, sel_X0_byteAt, by decide, _, _, rfl⟩
theorem cs_X9_poke_174 : xCs mX9_poke 174 mX0_has 2 := ⟨⟨code_X0_has, ini_RX0, by decide +kernel, by decide, by decide⟩, gl_mem 881 (by decide +kernel) (by decide +kernel), stat_X0_has⟩
theorem cv_X9_poke_183 : xCv mX9_poke 183 mX0_byteAt 2 0 := ⟨⟨code_X0_byteAt, ini_RX0, by decide +kernel, by decide, by decide⟩, gl_mem 898 (by decide +kernel) (by decide +kernel), inst_X0_byteAt, sel_X0_byteAt, by decide, _, _, rfl⟩
theorem cv_X9_poke_186 : xCv mX9_poke 186 mX0_setByte 3 0 := ⟨⟨code_X0_setByte, ini_RX0, by decide +kernel, by decide, by decide⟩, gl_mem 909 (by decide +kernel) (by decide +kernel), inst_X0_setByte, sel_X0_setByte, by decide, _, _, rfl⟩
theorem cv_X9_freePages_190 : xCv mX9_freePages 190 mX8_nodesOnPages 0 5 := ⟨⟨code_X8_nodesOnPages, ini_RX8, by decide +kernel, by decide, by decide⟩, gl_mem 547 (by decide +kernel) (by decide +kernel), inst_X8_nodesOnPages, sel_X8_nodesOnPages, by decide, _, _, rfl⟩
theorem ml_RX10_1 : Cond.methodLink RX10 1 objectInit ∈ gl := gl_mem 915 (by decide +kernel) (by decide +kernel)
theorem cv_X10_init_62 : xCv mX10_init 62 mX10_clear 0 7 := ⟨⟨code_X10_clear, ini_RX10, by decide +kernel, by decide, by decide⟩, gl_mem 917 (by decide +kernel) (by decide +kernel), inst_X10_clear, sel_X10_clear, by decide, _, _, rfl⟩
theorem cv_X10_init_65 : xCv mX10_init 65 mX10_keep 0 7 := ⟨⟨code_X10_keep, ini_RX10, by decide +kernel, by decide, by decide⟩, gl_mem 925 (by decide +kernel) (by decide +kernel), inst_X10_keep, sel_X10_keep, by decide, _, _, rfl⟩
theorem cv_X10_clear_71 : xCv mX10_clear 71 mX10_newNode 2 7 := ⟨⟨code_X10_newNode, ini_RX10, by decide +kernel, by decide, by decide⟩, gl_mem 921 (by decide +kernel) (by decide +kernel), inst_X10_newNode, sel_X10_newNode, by decide, _, _, rfl⟩
theorem cv_X10_keep_78 : xCv mX10_keep 78 mX10_copy 2 7 := ⟨⟨code_X10_copy, ini_RX10, by decide +kernel, by decide, by decide⟩, gl_mem 929 (by decide +kernel) (by decide +kernel), inst_X10_copy, sel_X10_copy, by decide, _, _, rfl⟩
theorem cs_X10_type_87 : xCs mX10_type 87 mX10_in 3 := ⟨⟨code_X10_in, ini_RX10, by decide +kernel, by decide, by decide⟩, gl_mem 1025 (by decide +kernel) (by decide +kernel), stat_X10_in⟩
theorem cs_X10_cut_87 : xCs mX10_cut 87 mX10_in 3 := ⟨⟨code_X10_in, ini_RX10, by decide +kernel, by decide, by decide⟩, gl_mem 1025 (by decide +kernel) (by decide +kernel), stat_X10_in⟩
theorem cs_X10_tapeAt_87 : xCs mX10_tapeAt 87 mX10_in 3 := ⟨⟨code_X10_in, ini_RX10, by decide +kernel, by decide, by decide⟩, gl_mem 1025 (by decide +kernel) (by decide +kernel), stat_X10_in⟩
theorem cv_X10_child_96 : xCv mX10_child 96 mX10_childFrom 2 7 := ⟨⟨code_X10_childFrom, ini_RX10, by decide +kernel, by decide, by decide⟩, gl_mem 1058 (by decide +kernel) (by decide +kernel), inst_X10_childFrom, sel_X10_childFrom, by decide, _, _, rfl⟩
theorem cv_X10_next_96 : xCv mX10_next 96 mX10_childFrom 2 7 := ⟨⟨code_X10_childFrom, ini_RX10, by decide +kernel, by decide, by decide⟩, gl_mem 1058 (by decide +kernel) (by decide +kernel), inst_X10_childFrom, sel_X10_childFrom, by decide, _, _, rfl⟩
theorem cv_X10_seek_108 : xCv mX10_seek 108 mX10_child 2 7 := ⟨⟨code_X10_child, ini_RX10, by decide +kernel, by decide, by decide⟩, gl_mem 1054 (by decide +kernel) (by decide +kernel), inst_X10_child, sel_X10_child, by decide, _, _, rfl⟩
theorem cv_X10_isFound_111 : xCv mX10_isFound 111 mX10_seek 0 7 := ⟨⟨code_X10_seek, ini_RX10, by decide +kernel, by decide, by decide⟩, gl_mem 1050 (by decide +kernel) (by decide +kernel), inst_X10_seek, sel_X10_seek, by decide, _, _, rfl⟩
theorem cv_X10_put_118 : xCv mX10_put 118 mX10_isKey 0 7 := ⟨⟨code_X10_isKey, ini_RX10, by decide +kernel, by decide, by decide⟩, gl_mem 1041 (by decide +kernel) (by decide +kernel), inst_X10_isKey, sel_X10_isKey, by decide, _, _, rfl⟩
theorem cv_X10_put_124 : xCv mX10_put 124 mX10_isFound 0 7 := ⟨⟨code_X10_isFound, ini_RX10, by decide +kernel, by decide, by decide⟩, gl_mem 1046 (by decide +kernel) (by decide +kernel), inst_X10_isFound, sel_X10_isFound, by decide, _, _, rfl⟩
theorem cv_X10_put_127 : xCv mX10_put 127 mX10_freshen 1 7 := ⟨⟨code_X10_freshen, ini_RX10, by decide +kernel, by decide, by decide⟩, gl_mem 1062 (by decide +kernel) (by decide +kernel), inst_X10_freshen, sel_X10_freshen, by decide, _, _, rfl⟩
theorem cv_X10_put_131 : xCv mX10_put 131 mX10_children 1 7 := ⟨⟨code_X10_children, ini_RX10, by decide +kernel, by decide, by decide⟩, gl_mem 1066 (by decide +kernel) (by decide +kernel), inst_X10_children, sel_X10_children, by decide, _, _, rfl⟩
theorem cv_X10_put_135 : xCv mX10_put 135 mX10_setPrefix 2 7 := ⟨⟨code_X10_setPrefix, ini_RX10, by decide +kernel, by decide, by decide⟩, gl_mem 1070 (by decide +kernel) (by decide +kernel), inst_X10_setPrefix, sel_X10_setPrefix, by decide, _, _, rfl⟩
theorem cv_X10_put_138 : xCv mX10_put 138 mX10_give 2 7 := ⟨⟨code_X10_give, ini_RX10, by decide +kernel, by decide, by decide⟩, gl_mem 1074 (by decide +kernel) (by decide +kernel), inst_X10_give, sel_X10_give, by decide, _, _, rfl⟩
theorem cv_X10_put_142 : xCv mX10_put 142 mX10_nodes 0 7 := ⟨⟨code_X10_nodes, ini_RX10, by decide +kernel, by decide, by decide⟩, gl_mem 1078 (by decide +kernel) (by decide +kernel), inst_X10_nodes, sel_X10_nodes, by decide, _, _, rfl⟩
theorem cv_X10_put_146 : xCv mX10_put 146 mX10_cutInTwo 0 7 := ⟨⟨code_X10_cutInTwo, ini_RX10, by decide +kernel, by decide, by decide⟩, gl_mem 1082 (by decide +kernel) (by decide +kernel), inst_X10_cutInTwo, sel_X10_cutInTwo, by decide, _, _, rfl⟩
theorem cv_X10_put_71 : xCv mX10_put 71 mX10_newNode 2 7 := ⟨⟨code_X10_newNode, ini_RX10, by decide +kernel, by decide, by decide⟩, gl_mem 921 (by decide +kernel) (by decide +kernel), inst_X10_newNode, sel_X10_newNode, by decide, _, _, rfl⟩
theorem cs_X10_put_149 : xCs mX10_put 149 mX10_room 1 := ⟨⟨code_X10_room, ini_RX10, by decide +kernel, by decide, by decide⟩, gl_mem 1086 (by decide +kernel) (by decide +kernel), stat_X10_room⟩
theorem cv_X10_cutInTwo_71 : xCv mX10_cutInTwo 71 mX10_newNode 2 7 := ⟨⟨code_X10_newNode, ini_RX10, by decide +kernel, by decide, by decide⟩, gl_mem 921 (by decide +kernel) (by decide +kernel), inst_X10_newNode, sel_X10_newNode, by decide, _, _, rfl⟩
theorem cv_X10_cutInTwo_127 : xCv mX10_cutInTwo 127 mX10_freshen 1 7 := ⟨⟨code_X10_freshen, ini_RX10, by decide +kernel, by decide, by decide⟩, gl_mem 1062 (by decide +kernel) (by decide +kernel), inst_X10_freshen, sel_X10_freshen, by decide, _, _, rfl⟩
theorem cv_X10_remove_118 : xCv mX10_remove 118 mX10_isKey 0 7 := ⟨⟨code_X10_isKey, ini_RX10, by decide +kernel, by decide, by decide⟩, gl_mem 1041 (by decide +kernel) (by decide +kernel), inst_X10_isKey, sel_X10_isKey, by decide, _, _, rfl⟩
theorem cv_X10_remove_124 : xCv mX10_remove 124 mX10_isFound 0 7 := ⟨⟨code_X10_isFound, ini_RX10, by decide +kernel, by decide, by decide⟩, gl_mem 1046 (by decide +kernel) (by decide +kernel), inst_X10_isFound, sel_X10_isFound, by decide, _, _, rfl⟩
theorem cv_X10_remove_127 : xCv mX10_remove 127 mX10_freshen 1 7 := ⟨⟨code_X10_freshen, ini_RX10, by decide +kernel, by decide, by decide⟩, gl_mem 1062 (by decide +kernel) (by decide +kernel), inst_X10_freshen, sel_X10_freshen, by decide, _, _, rfl⟩
theorem cv_X10_remove_131 : xCv mX10_remove 131 mX10_children 1 7 := ⟨⟨code_X10_children, ini_RX10, by decide +kernel, by decide, by decide⟩, gl_mem 1066 (by decide +kernel) (by decide +kernel), inst_X10_children, sel_X10_children, by decide, _, _, rfl⟩
theorem cv_X10_remove_152 : xCv mX10_remove 152 mX10_putTogether 1 7 := ⟨⟨code_X10_putTogether, ini_RX10, by decide +kernel, by decide, by decide⟩, gl_mem 1093 (by decide +kernel) (by decide +kernel), inst_X10_putTogether, sel_X10_putTogether, by decide, _, _, rfl⟩
theorem cv_X10_putTogether_96 : xCv mX10_putTogether 96 mX10_childFrom 2 7 := ⟨⟨code_X10_childFrom, ini_RX10, by decide +kernel, by decide, by decide⟩, gl_mem 1058 (by decide +kernel) (by decide +kernel), inst_X10_childFrom, sel_X10_childFrom, by decide, _, _, rfl⟩
theorem cv_X10_putTogether_127 : xCv mX10_putTogether 127 mX10_freshen 1 7 := ⟨⟨code_X10_freshen, ini_RX10, by decide +kernel, by decide, by decide⟩, gl_mem 1062 (by decide +kernel) (by decide +kernel), inst_X10_freshen, sel_X10_freshen, by decide, _, _, rfl⟩
theorem cv_X10_get_118 : xCv mX10_get 118 mX10_isKey 0 7 := ⟨⟨code_X10_isKey, ini_RX10, by decide +kernel, by decide, by decide⟩, gl_mem 1041 (by decide +kernel) (by decide +kernel), inst_X10_isKey, sel_X10_isKey, by decide, _, _, rfl⟩
theorem cv_X10_get_124 : xCv mX10_get 124 mX10_isFound 0 7 := ⟨⟨code_X10_isFound, ini_RX10, by decide +kernel, by decide, by decide⟩, gl_mem 1046 (by decide +kernel) (by decide +kernel), inst_X10_isFound, sel_X10_isFound, by decide, _, _, rfl⟩
theorem cv_X10_tell_155 : xCv mX10_tell 155 mX10_lead 1 7 := ⟨⟨code_X10_lead, ini_RX10, by decide +kernel, by decide, by decide⟩, gl_mem 1113 (by decide +kernel) (by decide +kernel), inst_X10_lead, sel_X10_lead, by decide, _, _, rfl⟩
theorem cv_X10_with_118 : xCv mX10_with 118 mX10_isKey 0 7 := ⟨⟨code_X10_isKey, ini_RX10, by decide +kernel, by decide, by decide⟩, gl_mem 1041 (by decide +kernel) (by decide +kernel), inst_X10_isKey, sel_X10_isKey, by decide, _, _, rfl⟩
theorem cv_X10_with_161 : xCv mX10_with 161 mX10_countKeys 1 7 := ⟨⟨code_X10_countKeys, ini_RX10, by decide +kernel, by decide, by decide⟩, gl_mem 1105 (by decide +kernel) (by decide +kernel), inst_X10_countKeys, sel_X10_countKeys, by decide, _, _, rfl⟩
theorem cv_X10_countKeys_165 : xCv mX10_countKeys 165 mX10_tell 1 7 := ⟨⟨code_X10_tell, ini_RX10, by decide +kernel, by decide, by decide⟩, gl_mem 1109 (by decide +kernel) (by decide +kernel), inst_X10_tell, sel_X10_tell, by decide, _, _, rfl⟩
theorem cv_X10_countKeys_168 : xCv mX10_countKeys 168 mX10_begins 0 7 := ⟨⟨code_X10_begins, ini_RX10, by decide +kernel, by decide, by decide⟩, gl_mem 1117 (by decide +kernel) (by decide +kernel), inst_X10_begins, sel_X10_begins, by decide, _, _, rfl⟩
theorem cv_X10_countKeys_171 : xCv mX10_countKeys 171 mX10_isBefore 0 7 := ⟨⟨code_X10_isBefore, ini_RX10, by decide +kernel, by decide, by decide⟩, gl_mem 1121 (by decide +kernel) (by decide +kernel), inst_X10_isBefore, sel_X10_isBefore, by decide, _, _, rfl⟩
theorem cv_X10_countKeys_174 : xCv mX10_countKeys 174 mX10_next 1 7 := ⟨⟨code_X10_next, ini_RX10, by decide +kernel, by decide, by decide⟩, gl_mem 1125 (by decide +kernel) (by decide +kernel), inst_X10_next, sel_X10_next, by decide, _, _, rfl⟩
theorem cv_X10_before_118 : xCv mX10_before 118 mX10_isKey 0 7 := ⟨⟨code_X10_isKey, ini_RX10, by decide +kernel, by decide, by decide⟩, gl_mem 1041 (by decide +kernel) (by decide +kernel), inst_X10_isKey, sel_X10_isKey, by decide, _, _, rfl⟩
theorem cv_X10_before_161 : xCv mX10_before 161 mX10_countKeys 1 7 := ⟨⟨code_X10_countKeys, ini_RX10, by decide +kernel, by decide, by decide⟩, gl_mem 1105 (by decide +kernel) (by decide +kernel), inst_X10_countKeys, sel_X10_countKeys, by decide, _, _, rfl⟩
theorem cv_X10_nth_177 : xCv mX10_nth 177 mX10_keys 0 7 := ⟨⟨code_X10_keys, ini_RX10, by decide +kernel, by decide, by decide⟩, gl_mem 1137 (by decide +kernel) (by decide +kernel), inst_X10_keys, sel_X10_keys, by decide, _, _, rfl⟩
theorem cs_X10_nth_87 : xCs mX10_nth 87 mX10_in 3 := ⟨⟨code_X10_in, ini_RX10, by decide +kernel, by decide, by decide⟩, gl_mem 1025 (by decide +kernel) (by decide +kernel), stat_X10_in⟩
theorem cv_X10_nth_174 : xCv mX10_nth 174 mX10_next 1 7 := ⟨⟨code_X10_next, ini_RX10, by decide +kernel, by decide, by decide⟩, gl_mem 1125 (by decide +kernel) (by decide +kernel), inst_X10_next, sel_X10_next, by decide, _, _, rfl⟩
theorem cv_X10_nth_165 : xCv mX10_nth 165 mX10_tell 1 7 := ⟨⟨code_X10_tell, ini_RX10, by decide +kernel, by decide, by decide⟩, gl_mem 1109 (by decide +kernel) (by decide +kernel), inst_X10_tell, sel_X10_tell, by decide, _, _, rfl⟩
theorem cs_X10_write_182 : xCs mX10_write 182 mX10_sum 2 := ⟨⟨code_X10_sum, ini_RX10, by decide +kernel, by decide, by decide⟩, gl_mem 1173 (by decide +kernel) (by decide +kernel), stat_X10_sum⟩
theorem cv_X10_write_186 : xCv mX10_write 186 mX10_number 3 7 := ⟨⟨code_X10_number, ini_RX10, by decide +kernel, by decide, by decide⟩, gl_mem 1165 (by decide +kernel) (by decide +kernel), inst_X10_number, sel_X10_number, by decide, _, _, rfl⟩
theorem cv_X10_writeNode_193 : xCv mX10_writeNode 193 mX10_beginSheet 0 7 := ⟨⟨code_X10_beginSheet, ini_RX10, by decide +kernel, by decide, by decide⟩, gl_mem 1161 (by decide +kernel) (by decide +kernel), inst_X10_beginSheet, sel_X10_beginSheet, by decide, _, _, rfl⟩
theorem cv_X10_writeNode_186 : xCv mX10_writeNode 186 mX10_number 3 7 := ⟨⟨code_X10_number, ini_RX10, by decide +kernel, by decide, by decide⟩, gl_mem 1165 (by decide +kernel) (by decide +kernel), inst_X10_number, sel_X10_number, by decide, _, _, rfl⟩
theorem cv_X10_writeNode_96 : xCv mX10_writeNode 96 mX10_childFrom 2 7 := ⟨⟨code_X10_childFrom, ini_RX10, by decide +kernel, by decide, by decide⟩, gl_mem 1058 (by decide +kernel) (by decide +kernel), inst_X10_childFrom, sel_X10_childFrom, by decide, _, _, rfl⟩
theorem cs_X10_writeNode_149 : xCs mX10_writeNode 149 mX10_room 1 := ⟨⟨code_X10_room, ini_RX10, by decide +kernel, by decide, by decide⟩, gl_mem 1086 (by decide +kernel) (by decide +kernel), stat_X10_room⟩
theorem cv_X10_writeNode_196 : xCv mX10_writeNode 196 mX10_write 1 7 := ⟨⟨code_X10_write, ini_RX10, by decide +kernel, by decide, by decide⟩, gl_mem 1169 (by decide +kernel) (by decide +kernel), inst_X10_write, sel_X10_write, by decide, _, _, rfl⟩
theorem cv_X10_deepest_96 : xCv mX10_deepest 96 mX10_childFrom 2 7 := ⟨⟨code_X10_childFrom, ini_RX10, by decide +kernel, by decide, by decide⟩, gl_mem 1058 (by decide +kernel) (by decide +kernel), inst_X10_childFrom, sel_X10_childFrom, by decide, _, _, rfl⟩
theorem cv_X10_commit_200 : xCv mX10_commit 200 mX10_freshMany 0 7 := ⟨⟨code_X10_freshMany, ini_RX10, by decide +kernel, by decide, by decide⟩, gl_mem 1145 (by decide +kernel) (by decide +kernel), inst_X10_freshMany, sel_X10_freshMany, by decide, _, _, rfl⟩
theorem cv_X10_commit_203 : xCv mX10_commit 203 mX10_findTaken 0 7 := ⟨⟨code_X10_findTaken, ini_RX10, by decide +kernel, by decide, by decide⟩, gl_mem 1149 (by decide +kernel) (by decide +kernel), inst_X10_findTaken, sel_X10_findTaken, by decide, _, _, rfl⟩
theorem cv_X10_commit_206 : xCv mX10_commit 206 mX10_deepest 1 7 := ⟨⟨code_X10_deepest, ini_RX10, by decide +kernel, by decide, by decide⟩, gl_mem 1153 (by decide +kernel) (by decide +kernel), inst_X10_deepest, sel_X10_deepest, by decide, _, _, rfl⟩
theorem cv_X10_commit_209 : xCv mX10_commit 209 mX10_writeNode 1 7 := ⟨⟨code_X10_writeNode, ini_RX10, by decide +kernel, by decide, by decide⟩, gl_mem 1157 (by decide +kernel) (by decide +kernel), inst_X10_writeNode, sel_X10_writeNode, by decide, _, _, rfl⟩
theorem cv_X10_commit_96 : xCv mX10_commit 96 mX10_childFrom 2 7 := ⟨⟨code_X10_childFrom, ini_RX10, by decide +kernel, by decide, by decide⟩, gl_mem 1058 (by decide +kernel) (by decide +kernel), inst_X10_childFrom, sel_X10_childFrom, by decide, _, _, rfl⟩
theorem cv_X10_commit_193 : xCv mX10_commit 193 mX10_beginSheet 0 7 := ⟨⟨code_X10_beginSheet, ini_RX10, by decide +kernel, by decide, by decide⟩, gl_mem 1161 (by decide +kernel) (by decide +kernel), inst_X10_beginSheet, sel_X10_beginSheet, by decide, _, _, rfl⟩
theorem cv_X10_commit_186 : xCv mX10_commit 186 mX10_number 3 7 := ⟨⟨code_X10_number, ini_RX10, by decide +kernel, by decide, by decide⟩, gl_mem 1165 (by decide +kernel) (by decide +kernel), inst_X10_number, sel_X10_number, by decide, _, _, rfl⟩
theorem cv_X10_commit_177 : xCv mX10_commit 177 mX10_keys 0 7 := ⟨⟨code_X10_keys, ini_RX10, by decide +kernel, by decide, by decide⟩, gl_mem 1137 (by decide +kernel) (by decide +kernel), inst_X10_keys, sel_X10_keys, by decide, _, _, rfl⟩
theorem cv_X10_commit_196 : xCv mX10_commit 196 mX10_write 1 7 := ⟨⟨code_X10_write, ini_RX10, by decide +kernel, by decide, by decide⟩, gl_mem 1169 (by decide +kernel) (by decide +kernel), inst_X10_write, sel_X10_write, by decide, _, _, rfl⟩
theorem cv_X10_commit_65 : xCv mX10_commit 65 mX10_keep 0 7 := ⟨⟨code_X10_keep, ini_RX10, by decide +kernel, by decide, by decide⟩, gl_mem 925 (by decide +kernel) (by decide +kernel), inst_X10_keep, sel_X10_keep, by decide, _, _, rfl⟩
theorem cv_X10_back_200 : xCv mX10_back 200 mX10_freshMany 0 7 := ⟨⟨code_X10_freshMany, ini_RX10, by decide +kernel, by decide, by decide⟩, gl_mem 1145 (by decide +kernel) (by decide +kernel), inst_X10_freshMany, sel_X10_freshMany, by decide, _, _, rfl⟩
theorem cv_X10_back_78 : xCv mX10_back 78 mX10_copy 2 7 := ⟨⟨code_X10_copy, ini_RX10, by decide +kernel, by decide, by decide⟩, gl_mem 929 (by decide +kernel) (by decide +kernel), inst_X10_copy, sel_X10_copy, by decide, _, _, rfl⟩
theorem cv_X10_count_177 : xCv mX10_count 177 mX10_keys 0 7 := ⟨⟨code_X10_keys, ini_RX10, by decide +kernel, by decide, by decide⟩, gl_mem 1137 (by decide +kernel) (by decide +kernel), inst_X10_keys, sel_X10_keys, by decide, _, _, rfl⟩
theorem cv_X10_count_142 : xCv mX10_count 142 mX10_nodes 0 7 := ⟨⟨code_X10_nodes, ini_RX10, by decide +kernel, by decide, by decide⟩, gl_mem 1078 (by decide +kernel) (by decide +kernel), inst_X10_nodes, sel_X10_nodes, by decide, _, _, rfl⟩
theorem cv_X10_count_200 : xCv mX10_count 200 mX10_freshMany 0 7 := ⟨⟨code_X10_freshMany, ini_RX10, by decide +kernel, by decide, by decide⟩, gl_mem 1145 (by decide +kernel) (by decide +kernel), inst_X10_freshMany, sel_X10_freshMany, by decide, _, _, rfl⟩
theorem cv_X10_count_203 : xCv mX10_count 203 mX10_findTaken 0 7 := ⟨⟨code_X10_findTaken, ini_RX10, by decide +kernel, by decide, by decide⟩, gl_mem 1149 (by decide +kernel) (by decide +kernel), inst_X10_findTaken, sel_X10_findTaken, by decide, _, _, rfl⟩
theorem cv_X10_count_218 : xCv mX10_count 218 mX10_depth 0 7 := ⟨⟨code_X10_depth, ini_RX10, by decide +kernel, by decide, by decide⟩, gl_mem 1186 (by decide +kernel) (by decide +kernel), inst_X10_depth, sel_X10_depth, by decide, _, _, rfl⟩
theorem cv_X10_node_142 : xCv mX10_node 142 mX10_nodes 0 7 := ⟨⟨code_X10_nodes, ini_RX10, by decide +kernel, by decide, by decide⟩, gl_mem 1078 (by decide +kernel) (by decide +kernel), inst_X10_nodes, sel_X10_nodes, by decide, _, _, rfl⟩
theorem cs_X10_node_87 : xCs mX10_node 87 mX10_in 3 := ⟨⟨code_X10_in, ini_RX10, by decide +kernel, by decide, by decide⟩, gl_mem 1025 (by decide +kernel) (by decide +kernel), stat_X10_in⟩
theorem cv_X10_node_223 : xCv mX10_node 223 mX10_ofNode 2 7 := ⟨⟨code_X10_ofNode, ini_RX10, by decide +kernel, by decide, by decide⟩, gl_mem 1195 (by decide +kernel) (by decide +kernel), inst_X10_ofNode, sel_X10_ofNode, by decide, _, _, rfl⟩
theorem cv_X10_ofNode_174 : xCv mX10_ofNode 174 mX10_next 1 7 := ⟨⟨code_X10_next, ini_RX10, by decide +kernel, by decide, by decide⟩, gl_mem 1125 (by decide +kernel) (by decide +kernel), inst_X10_next, sel_X10_next, by decide, _, _, rfl⟩
theorem cv_X10_ofNode_131 : xCv mX10_ofNode 131 mX10_children 1 7 := ⟨⟨code_X10_children, ini_RX10, by decide +kernel, by decide, by decide⟩, gl_mem 1066 (by decide +kernel) (by decide +kernel), inst_X10_children, sel_X10_children, by decide, _, _, rfl⟩
theorem cv_X10_ofNode_155 : xCv mX10_ofNode 155 mX10_lead 1 7 := ⟨⟨code_X10_lead, ini_RX10, by decide +kernel, by decide, by decide⟩, gl_mem 1113 (by decide +kernel) (by decide +kernel), inst_X10_lead, sel_X10_lead, by decide, _, _, rfl⟩
theorem cs_X10_power_87 : xCs mX10_power 87 mX10_in 3 := ⟨⟨code_X10_in, ini_RX10, by decide +kernel, by decide, by decide⟩, gl_mem 1025 (by decide +kernel) (by decide +kernel), stat_X10_in⟩
theorem cs_X10_headOf_232 : xCs mX10_headOf 232 mX10_numberAt 3 := ⟨⟨code_X10_numberAt, ini_RX10, by decide +kernel, by decide, by decide⟩, gl_mem 1218 (by decide +kernel) (by decide +kernel), stat_X10_numberAt⟩
theorem cs_X10_headOf_182 : xCs mX10_headOf 182 mX10_sum 2 := ⟨⟨code_X10_sum, ini_RX10, by decide +kernel, by decide, by decide⟩, gl_mem 1173 (by decide +kernel) (by decide +kernel), stat_X10_sum⟩
theorem cs_X10_headOf_87 : xCs mX10_headOf 87 mX10_in 3 := ⟨⟨code_X10_in, ini_RX10, by decide +kernel, by decide, by decide⟩, gl_mem 1025 (by decide +kernel) (by decide +kernel), stat_X10_in⟩
theorem cs_X10_readNode_232 : xCs mX10_readNode 232 mX10_numberAt 3 := ⟨⟨code_X10_numberAt, ini_RX10, by decide +kernel, by decide, by decide⟩, gl_mem 1218 (by decide +kernel) (by decide +kernel), stat_X10_numberAt⟩
theorem cs_X10_readNode_182 : xCs mX10_readNode 182 mX10_sum 2 := ⟨⟨code_X10_sum, ini_RX10, by decide +kernel, by decide, by decide⟩, gl_mem 1173 (by decide +kernel) (by decide +kernel), stat_X10_sum⟩
theorem cs_X10_readNode_87 : xCs mX10_readNode 87 mX10_in 3 := ⟨⟨code_X10_in, ini_RX10, by decide +kernel, by decide, by decide⟩, gl_mem 1025 (by decide +kernel) (by decide +kernel), stat_X10_in⟩
theorem cs_X10_readNode_149 : xCs mX10_readNode 149 mX10_room 1 := ⟨⟨code_X10_room, ini_RX10, by decide +kernel, by decide, by decide⟩, gl_mem 1086 (by decide +kernel) (by decide +kernel), stat_X10_room⟩
theorem cv_X10_readNode_240 : xCv mX10_readNode 240 mX10_readChildren 4 7 := ⟨⟨code_X10_readChildren, ini_RX10, by decide +kernel, by decide, by decide⟩, gl_mem 1231 (by decide +kernel) (by decide +kernel), inst_X10_readChildren, sel_X10_readChildren, by decide, _, _, rfl⟩
theorem cs_X10_readChildren_149 : xCs mX10_readChildren 149 mX10_room 1 := ⟨⟨code_X10_room, ini_RX10, by decide +kernel, by decide, by decide⟩, gl_mem 1086 (by decide +kernel) (by decide +kernel), stat_X10_room⟩
theorem cv_X10_readChildren_142 : xCv mX10_readChildren 142 mX10_nodes 0 7 := ⟨⟨code_X10_nodes, ini_RX10, by decide +kernel, by decide, by decide⟩, gl_mem 1078 (by decide +kernel) (by decide +kernel), inst_X10_nodes, sel_X10_nodes, by decide, _, _, rfl⟩
theorem cv_X10_readChildren_71 : xCv mX10_readChildren 71 mX10_newNode 2 7 := ⟨⟨code_X10_newNode, ini_RX10, by decide +kernel, by decide, by decide⟩, gl_mem 921 (by decide +kernel) (by decide +kernel), inst_X10_newNode, sel_X10_newNode, by decide, _, _, rfl⟩
theorem cv_X10_readTree_71 : xCv mX10_readTree 71 mX10_newNode 2 7 := ⟨⟨code_X10_newNode, ini_RX10, by decide +kernel, by decide, by decide⟩, gl_mem 921 (by decide +kernel) (by decide +kernel), inst_X10_newNode, sel_X10_newNode, by decide, _, _, rfl⟩
theorem cv_X10_readTree_244 : xCv mX10_readTree 244 mX10_readNode 1 7 := ⟨⟨code_X10_readNode, ini_RX10, by decide +kernel, by decide, by decide⟩, gl_mem 1226 (by decide +kernel) (by decide +kernel), inst_X10_readNode, sel_X10_readNode, by decide, _, _, rfl⟩
theorem cv_X10_readTree_155 : xCv mX10_readTree 155 mX10_lead 1 7 := ⟨⟨code_X10_lead, ini_RX10, by decide +kernel, by decide, by decide⟩, gl_mem 1113 (by decide +kernel) (by decide +kernel), inst_X10_lead, sel_X10_lead, by decide, _, _, rfl⟩
theorem cv_X10_readTree_174 : xCv mX10_readTree 174 mX10_next 1 7 := ⟨⟨code_X10_next, ini_RX10, by decide +kernel, by decide, by decide⟩, gl_mem 1125 (by decide +kernel) (by decide +kernel), inst_X10_next, sel_X10_next, by decide, _, _, rfl⟩
theorem cv_X10_readTree_177 : xCv mX10_readTree 177 mX10_keys 0 7 := ⟨⟨code_X10_keys, ini_RX10, by decide +kernel, by decide, by decide⟩, gl_mem 1137 (by decide +kernel) (by decide +kernel), inst_X10_keys, sel_X10_keys, by decide, _, _, rfl⟩
theorem cv_X10_start_247 : xCv mX10_start 247 mX10_headOf 1 7 := ⟨⟨code_X10_headOf, ini_RX10, by decide +kernel, by decide, by decide⟩, gl_mem 1214 (by decide +kernel) (by decide +kernel), inst_X10_headOf, sel_X10_headOf, by decide, _, _, rfl⟩
theorem cs_X10_start_232 : xCs mX10_start 232 mX10_numberAt 3 := ⟨⟨code_X10_numberAt, ini_RX10, by decide +kernel, by decide, by decide⟩, gl_mem 1218 (by decide +kernel) (by decide +kernel), stat_X10_numberAt⟩
theorem cv_X10_start_251 : xCv mX10_start 251 mX10_readTree 2 7 := ⟨⟨code_X10_readTree, ini_RX10, by decide +kernel, by decide, by decide⟩, gl_mem 1222 (by decide +kernel) (by decide +kernel), inst_X10_readTree, sel_X10_readTree, by decide, _, _, rfl⟩
theorem cv_X10_start_62 : xCv mX10_start 62 mX10_clear 0 7 := ⟨⟨code_X10_clear, ini_RX10, by decide +kernel, by decide, by decide⟩, gl_mem 917 (by decide +kernel) (by decide +kernel), inst_X10_clear, sel_X10_clear, by decide, _, _, rfl⟩
theorem cv_X10_start_65 : xCv mX10_start 65 mX10_keep 0 7 := ⟨⟨code_X10_keep, ini_RX10, by decide +kernel, by decide, by decide⟩, gl_mem 925 (by decide +kernel) (by decide +kernel), inst_X10_keep, sel_X10_keep, by decide, _, _, rfl⟩
theorem cs_X10_octet_87 : xCs mX10_octet 87 mX10_in 3 := ⟨⟨code_X10_in, ini_RX10, by decide +kernel, by decide, by decide⟩, gl_mem 1025 (by decide +kernel) (by decide +kernel), stat_X10_in⟩
theorem cs_X10_poke_87 : xCs mX10_poke 87 mX10_in 3 := ⟨⟨code_X10_in, ini_RX10, by decide +kernel, by decide, by decide⟩, gl_mem 1025 (by decide +kernel) (by decide +kernel), stat_X10_in⟩
end
section
/-! What the blocks use. -/
section XZ
variable {l : Launch} {g : xG} {md : xMd} {mc ms pc : Nat} {L : List (Nat × Value)} {st : List Value} {cs : Nat × Nat} {M : xM} {Q : Option Value → xM → Prop}
theorem zistore_n {n : Fin 4} (i : Nat) {x : Int32} {L1 : List (Nat × Value)} (d : decode md.2.1 pc = .ok (.istore_n n, 1)) (hi : (n : Nat) = i) (hn : i < md.2.2.1) (hL : xst1 i (Value.int x) L = L1) (h : xWp l g md mc ms (pc + 1) L1 st cs M Q) : xWp l g md mc ms pc L (.int x :: st) cs M Q := by
  subst hL; exact xr_istore_n i d hi hn h
theorem zistore {i : Nat} {x : Int32} {L1 : List (Nat × Value)} (d : decode md.2.1 pc = .ok (.istore i, 2)) (hn : i < md.2.2.1) (hL : xst1 i (Value.int x) L = L1) (h : xWp l g md mc ms (pc + 2) L1 st cs M Q) : xWp l g md mc ms pc L (.int x :: st) cs M Q := by
  subst hL; exact xr_istore d hn h
theorem zlstore_n {n : Fin 4} (i : Nat) {x : Int64} {L1 : List (Nat × Value)} (d : decode md.2.1 pc = .ok (.lstore_n n, 1)) (hi : (n : Nat) = i) (hn : i + 1 < md.2.2.1) (hL : xst2 i (Value.long x) L = L1) (h : xWp l g md mc ms (pc + 1) L1 st cs M Q) : xWp l g md mc ms pc L (.long x :: st) cs M Q := by
  subst hL; exact xr_lstore_n i d hi hn h
theorem zlstore {i : Nat} {x : Int64} {L1 : List (Nat × Value)} (d : decode md.2.1 pc = .ok (.lstore i, 2)) (hn : i + 1 < md.2.2.1) (hL : xst2 i (Value.long x) L = L1) (h : xWp l g md mc ms (pc + 2) L1 st cs M Q) : xWp l g md mc ms pc L (.long x :: st) cs M Q := by
  subst hL; exact xr_lstore d hn h
theorem zastore_n {n : Fin 4} (i : Nat) {x : Option Nat} {L1 : List (Nat × Value)} (d : decode md.2.1 pc = .ok (.astore_n n, 1)) (hi : (n : Nat) = i) (hn : i < md.2.2.1) (hL : xst1 i (va_rf x) L = L1) (h : xWp l g md mc ms (pc + 1) L1 st cs M Q) : xWp l g md mc ms pc L (va_rf x :: st) cs M Q := by
  subst hL; exact xr_astore_n i d hi hn h
theorem zastore {i : Nat} {x : Option Nat} {L1 : List (Nat × Value)} (d : decode md.2.1 pc = .ok (.astore i, 2)) (hn : i < md.2.2.1) (hL : xst1 i (va_rf x) L = L1) (h : xWp l g md mc ms (pc + 2) L1 st cs M Q) : xWp l g md mc ms pc L (va_rf x :: st) cs M Q := by
  subst hL; exact xr_astore d hn h
theorem ziinc {i : Nat} {n : Int} {t : Nat} {x : Int32} {L1 : List (Nat × Value)} (v : Int32) (d : decode md.2.1 pc = .ok (.iinc i n, 3)) (hL : L[i]? = some (t + 1, .int x)) (hv : x + Int32.ofInt n = v) (hn : i < md.2.2.1) (hL1 : xst1 i (.int v) L = L1) (h : xWp l g md mc ms (pc + 3) L1 st cs M Q) : xWp l g md mc ms pc L st cs M Q := by
  subst hL1; exact xr_iinc v d hL hv hn h
theorem xat_new (M : xM) (q kd n : Nat) : xat (xnew M q kd n) q kd := ⟨by rw [xL_new]; exact List.mem_append_right _ List.mem_cons_self, by rw [xK_new, if_pos rfl]⟩
theorem xat_old {M : xM} {q kd n a ci : Nat} (hq : q ∉ xL M) (h : xat M a ci) : xat (xnew M q kd n) a ci :=
  ⟨by rw [xL_new]; exact List.mem_append_left _ h.1, by rw [xK_new, if_neg (fun e => hq (by rw [← e]; exact h.1))]; exact h.2⟩
theorem nar_z {x : Int32} (h : x = 0 ∨ x = 1) : narrow .boolean (.int x) = .int x := by rcases h with rfl | rfl <;> rfl
theorem sw_out (n : Nat) (hn : n < 100) {x : Int32} (h : ∀ k : Nat, k ≤ n → ¬ x = nI k) : x.toInt < 0 ∨ (n : Int) < x.toInt := by
  by_cases h0 : x.toInt < 0
  · exact Or.inl h0
  · refine Or.inr (Int.not_le.mp fun hle => ?_)
    obtain ⟨j, hj, e⟩ := nI_of (x := x) (fun hlt => h0 (by simpa using Int32.lt_iff_toInt_lt.mp hlt))
    have : x.toInt = (j : Int) := by rw [e, nI_toInt hj]
    exact h j (by omega) e
theorem ycopy {i a0 a : Nat} {r0 r : Option Nat} {x y z : Int32} (sp dp n : Nat) (d : decode md.2.1 pc = .ok (.invokestatic i, 3)) (h1 : Cond.methodLink md.1.cls i arraycopyName ∈ gl) (h2 : Cond.native arraycopyName ∈ gl) (h3 : Cond.static arraycopyName ∈ gl) (h4 : Cond.initialized "java/lang/System" ∈ gl) (hf : 1 ≤ md.2.2.2.2.1) (hw : (st.map fun v => v.category).sum + (nativeFrameWords "java/lang/System" "arraycopy" 5 + 11) ≤ md.2.2.2.2.2)
    (hr0 : r0 = some a0) (hr : r = some a) (ha0 : xat M a0 8) (ha : xat M a 8) (hx : x = nI sp) (hy : y = nI dp) (hz : z = nI n) (hsp : sp < 2 ^ 31) (hdp : dp < 2 ^ 31) (hn : n < 2 ^ 31) (hb0 : sp + n ≤ xN M a0) (hb1 : dp + n ≤ xN M a) (hfit : ∀ j, j < n → fits .byte (.int (xI M a0 (sp + j))) = true)
    (h : xWp l g md mc ms (pc + 3) L st cs (xcp M a0 a sp dp n) Q) : xWp l g md mc ms pc L (.int z :: .int y :: va_rf r :: .int x :: va_rf r0 :: st) cs M Q := by
  subst hr0; subst hr
  exact xr_copy sp dp n d h1 h2 h3 h4 hf hw ha0.1 ha0.2 ha.1 ha.2 hx hy hz hsp hdp hn hb0 hb1 hfit h
end XZ
end
section
/-! Decode rows and blocks: 11.bDisk -/
theorem dX0_init_0 : decode cX0_init 0 = .ok (.aload_n 0, 1) := by decide +kernel
theorem dX0_init_1 : decode cX0_init 1 = .ok (.invokespecial 3, 3) := by decide +kernel
theorem dX0_init_4 : decode cX0_init 4 = .ok (.aload_n 0, 1) := by decide +kernel
theorem dX0_init_5 : decode cX0_init 5 = .ok (.ldc 9, 2) := by decide +kernel
theorem dX0_init_7 : decode cX0_init 7 = .ok (.newarray .byte, 2) := by decide +kernel
theorem dX0_init_9 : decode cX0_init 9 = .ok (.putfield 10, 3) := by decide +kernel
theorem dX0_init_12 : decode cX0_init 12 = .ok (.aload_n 0, 1) := by decide +kernel
theorem dX0_init_13 : decode cX0_init 13 = .ok (.iconst (-1), 1) := by decide +kernel
theorem dX0_init_14 : decode cX0_init 14 = .ok (.putfield 16, 3) := by decide +kernel
theorem dX0_init_17 : decode cX0_init 17 = .ok (.aload_n 0, 1) := by decide +kernel
theorem dX0_init_18 : decode cX0_init 18 = .ok (.iconst 0, 1) := by decide +kernel
theorem dX0_init_19 : decode cX0_init 19 = .ok (.putfield 20, 3) := by decide +kernel
theorem dX0_init_22 : decode cX0_init 22 = .ok (.return_, 1) := by decide +kernel
set_option maxRecDepth 100000 in
set_option maxHeartbeats 4000000 in
theorem bX0_init_0 {l : Launch} {g : xG} {mc ms : Nat} (a0 : Nat) {M : xM} {Q : Option Value → xM → Prop} (h : ((0 + 1 ≤ mc ∧ 0 + 131072 ≤ ms) ∧ ∀ q4, q4 ∉ xL M → (xat (xnew M q4 8 131072) a0 0 ∧ (((0 + 1) ≤ mc ∧ (0 + 131072) ≤ ms) ∧ Q none (xsI (xsI (xsR (xnew M q4 8 131072) a0 0 (some q4)) a0 1 (-1)) a0 2 0))))) : xWp l g mX0_init mc ms 0 [(1, va_rf (some a0))] [] (0, 0) M Q := by
  refine xr_aload_n 0 dX0_init_0 rfl rfl ?_
  refine xr_obj dX0_init_1 ml_RX0_3 obj_inst obj_code (by decide) (by decide) ?_
  refine xr_aload_n 0 dX0_init_4 rfl rfl ?_
  refine xr_ldc 131072 dX0_init_5 ct_RX0_9 ?_
  obtain ⟨hm6, h⟩ := h
  refine xr_newa (kd := 8) (t := 0) (n := 131072) dX0_init_7 rfl arr_byte (fun _ => rfl) (by decide) (by decide) rfl (by decide) (by decide) (by decide) hm6 (fun q4 hq5 => ?_)
  replace h := h q4 hq5
  obtain ⟨t7, h⟩ := h
  refine yr_putRF dX0_init_9 rfl fp_RX0_10 (Or.inr ⟨_, rfl⟩) rfl t7 ?_
  refine xr_aload_n 0 dX0_init_12 rfl rfl ?_
  refine xr_iconst (-1) dX0_init_13 (by decide) ?_
  refine yr_putI dX0_init_14 fp_RX0_16 rfl t7 ?_
  refine xr_aload_n 0 dX0_init_17 rfl rfl ?_
  refine xr_iconst 0 dX0_init_18 (by decide) ?_
  refine yr_putI dX0_init_19 fp_RX0_20 rfl t7 ?_
  obtain ⟨hm8, h⟩ := h
  exact xr_ret hm8 (xRv rfl dX0_init_22) h
theorem dX0_has_0 : decode cX0_has 0 = .ok (.iload_n 0, 1) := by decide +kernel
theorem dX0_has_1 : decode cX0_has 1 = .ok (.ifCond .lt 25, 3) := by decide +kernel
theorem dX0_has_4 : decode cX0_has 4 = .ok (.iload_n 0, 1) := by decide +kernel
theorem dX0_has_5 : decode cX0_has 5 = .ok (.sipush 256, 3) := by decide +kernel
theorem dX0_has_8 : decode cX0_has 8 = .ok (.if_icmp .ge 18, 3) := by decide +kernel
theorem dX0_has_11 : decode cX0_has 11 = .ok (.iload_n 1, 1) := by decide +kernel
theorem dX0_has_12 : decode cX0_has 12 = .ok (.ifCond .lt 14, 3) := by decide +kernel
theorem dX0_has_15 : decode cX0_has 15 = .ok (.iload_n 1, 1) := by decide +kernel
theorem dX0_has_16 : decode cX0_has 16 = .ok (.sipush 512, 3) := by decide +kernel
theorem dX0_has_19 : decode cX0_has 19 = .ok (.if_icmp .ge 7, 3) := by decide +kernel
theorem dX0_has_22 : decode cX0_has 22 = .ok (.iconst 1, 1) := by decide +kernel
theorem dX0_has_23 : decode cX0_has 23 = .ok (.goto 4, 3) := by decide +kernel
theorem dX0_has_26 : decode cX0_has 26 = .ok (.iconst 0, 1) := by decide +kernel
theorem dX0_has_27 : decode cX0_has 27 = .ok (.ireturn, 1) := by decide +kernel
set_option maxRecDepth 100000 in
set_option maxHeartbeats 4000000 in
theorem bX0_has_0 {l : Launch} {g : xG} (x0 : Int32) (x1 : Int32) {M : xM} {Q : Option Value → xM → Prop} (h : ((x0 < 0 → (Q (some (.int 0)) M)) ∧ (¬ x0 < 0 → ((256 ≤ x0 → (Q (some (.int 0)) M)) ∧ (¬ 256 ≤ x0 → ((x1 < 0 → (Q (some (.int 0)) M)) ∧ (¬ x1 < 0 → ((512 ≤ x1 → (Q (some (.int 0)) M)) ∧ (¬ 512 ≤ x1 → (Q (some (.int 1)) M)))))))))) : xWp l g mX0_has 0 0 0 [(1, .int x0), (1, .int x1)] [] (0, 0) M Q := by
  refine xr_iload_n 0 dX0_has_0 rfl rfl ?_
  obtain ⟨ht, hf⟩ := h
  refine xr_if_lt 26 dX0_has_1 (by decide) (fun c4 => ?_) (fun c4 => ?_)
  · replace h := ht c4
    clear ht hf
    refine xr_iconst 0 dX0_has_26 (by decide) ?_
    exact xr_retv (by decide) (xRi rfl rfl dX0_has_27) h
  · replace h := hf c4
    clear ht hf
    refine xr_iload_n 0 dX0_has_4 rfl rfl ?_
    refine xr_sipush 256 dX0_has_5 (by decide) ?_
    obtain ⟨ht, hf⟩ := h
    refine xr_icmp_ge 26 dX0_has_8 (by decide) (fun c3 => ?_) (fun c3 => ?_)
    · replace h := ht c3
      clear ht hf
      refine xr_iconst 0 dX0_has_26 (by decide) ?_
      exact xr_retv (by decide) (xRi rfl rfl dX0_has_27) h
    · replace h := hf c3
      clear ht hf
      refine xr_iload_n 1 dX0_has_11 rfl rfl ?_
      obtain ⟨ht, hf⟩ := h
      refine xr_if_lt 26 dX0_has_12 (by decide) (fun c2 => ?_) (fun c2 => ?_)
      · replace h := ht c2
        clear ht hf
        refine xr_iconst 0 dX0_has_26 (by decide) ?_
        exact xr_retv (by decide) (xRi rfl rfl dX0_has_27) h
      · replace h := hf c2
        clear ht hf
        refine xr_iload_n 1 dX0_has_15 rfl rfl ?_
        refine xr_sipush 512 dX0_has_16 (by decide) ?_
        obtain ⟨ht, hf⟩ := h
        refine xr_icmp_ge 26 dX0_has_19 (by decide) (fun c1 => ?_) (fun c1 => ?_)
        · replace h := ht c1
          clear ht hf
          refine xr_iconst 0 dX0_has_26 (by decide) ?_
          exact xr_retv (by decide) (xRi rfl rfl dX0_has_27) h
        · replace h := hf c1
          clear ht hf
          refine xr_iconst 1 dX0_has_22 (by decide) ?_
          refine xr_goto 27 dX0_has_23 (by decide) ?_
          exact xr_retv (by decide) (xRi rfl rfl dX0_has_27) h
theorem dX0_byteAt_0 : decode cX0_byteAt 0 = .ok (.iload_n 1, 1) := by decide +kernel
theorem dX0_byteAt_1 : decode cX0_byteAt 1 = .ok (.iload_n 2, 1) := by decide +kernel
theorem dX0_byteAt_2 : decode cX0_byteAt 2 = .ok (.invokestatic 23, 3) := by decide +kernel
theorem dX0_byteAt_5 : decode cX0_byteAt 5 = .ok (.ifCond .eq 22, 3) := by decide +kernel
theorem dX0_byteAt_8 : decode cX0_byteAt 8 = .ok (.aload_n 0, 1) := by decide +kernel
theorem dX0_byteAt_9 : decode cX0_byteAt 9 = .ok (.getfield 10, 3) := by decide +kernel
theorem dX0_byteAt_12 : decode cX0_byteAt 12 = .ok (.iload_n 1, 1) := by decide +kernel
theorem dX0_byteAt_13 : decode cX0_byteAt 13 = .ok (.sipush 512, 3) := by decide +kernel
theorem dX0_byteAt_16 : decode cX0_byteAt 16 = .ok (.imul, 1) := by decide +kernel
theorem dX0_byteAt_17 : decode cX0_byteAt 17 = .ok (.iload_n 2, 1) := by decide +kernel
theorem dX0_byteAt_18 : decode cX0_byteAt 18 = .ok (.iadd, 1) := by decide +kernel
theorem dX0_byteAt_19 : decode cX0_byteAt 19 = .ok (.baload, 1) := by decide +kernel
theorem dX0_byteAt_20 : decode cX0_byteAt 20 = .ok (.sipush 255, 3) := by decide +kernel
theorem dX0_byteAt_23 : decode cX0_byteAt 23 = .ok (.iand, 1) := by decide +kernel
theorem dX0_byteAt_24 : decode cX0_byteAt 24 = .ok (.goto 4, 3) := by decide +kernel
theorem dX0_byteAt_27 : decode cX0_byteAt 27 = .ok (.iconst 0, 1) := by decide +kernel
theorem dX0_byteAt_28 : decode cX0_byteAt 28 = .ok (.ireturn, 1) := by decide +kernel
set_option maxRecDepth 100000 in
set_option maxHeartbeats 4000000 in
theorem bX0_byteAt_0 {l : Launch} {g : xG} (a0 : Nat) (x1 : Int32) (x2 : Int32) {M : xM} {Q : Option Value → xM → Prop} (h : (xSp l g mX0_has 0 0 [.int x1, .int x2] M (fun ρ3 M2 => ∃ v1 : Int32, ρ3 = some (.int v1) ∧ ((v1 = 0 → (Q (some (.int 0)) M2)) ∧ (¬ v1 = 0 → (xat M2 a0 0 ∧ (∃ a6, (xR M2 a0 0) = some a6 ∧ ∃ i8, xai M2 a6 8 ((x1 * 512) + x2) i8 ∧ (Q (some (.int ((xI M2 a6 i8) &&& 255))) M2)))))))) : xWp l g mX0_byteAt 0 0 0 [(1, va_rf (some a0)), (1, .int x1), (1, .int x2)] [] (0, 0) M Q := by
  refine xr_iload_n 1 dX0_byteAt_0 rfl rfl ?_
  refine xr_iload_n 2 dX0_byteAt_1 rfl rfl ?_
  refine xr_callS [.int x1, .int x2] dX0_byteAt_2 cs_X0_byteAt_23 rfl (by decide) (by decide) (xSp.mono h ?_)
  clear h
  intro ρ3 M2 h
  obtain ⟨v1, rfl, h⟩ := h
  obtain ⟨ht, hf⟩ := h
  refine xr_if_eq 27 dX0_byteAt_5 (by decide) (fun c10 => ?_) (fun c10 => ?_)
  · replace h := ht c10
    clear ht hf
    refine xr_iconst 0 dX0_byteAt_27 (by decide) ?_
    exact xr_retv (by decide) (xRi rfl rfl dX0_byteAt_28) h
  · replace h := hf c10
    clear ht hf
    refine xr_aload_n 0 dX0_byteAt_8 rfl rfl ?_
    obtain ⟨t5, h⟩ := h
    refine yr_getR dX0_byteAt_9 fl_RX0_10 rfl t5 ?_
    refine xr_iload_n 1 dX0_byteAt_12 rfl rfl ?_
    refine xr_sipush 512 dX0_byteAt_13 (by decide) ?_
    refine xr_imul dX0_byteAt_16 ?_
    refine xr_iload_n 2 dX0_byteAt_17 rfl rfl ?_
    refine xr_iadd dX0_byteAt_18 ?_
    obtain ⟨a6, e7, h⟩ := h
    obtain ⟨i8, t9, h⟩ := h
    refine yr_bald dX0_byteAt_19 e7 t9 ?_
    refine xr_sipush 255 dX0_byteAt_20 (by decide) ?_
    refine xr_iand dX0_byteAt_23 ?_
    refine xr_goto 28 dX0_byteAt_24 (by decide) ?_
    exact xr_retv (by decide) (xRi rfl rfl dX0_byteAt_28) h
theorem dX0_setByte_0 : decode cX0_setByte 0 = .ok (.iload_n 1, 1) := by decide +kernel
theorem dX0_setByte_1 : decode cX0_setByte 1 = .ok (.iload_n 2, 1) := by decide +kernel
theorem dX0_setByte_2 : decode cX0_setByte 2 = .ok (.invokestatic 23, 3) := by decide +kernel
theorem dX0_setByte_5 : decode cX0_setByte 5 = .ok (.ifCond .eq 17, 3) := by decide +kernel
theorem dX0_setByte_8 : decode cX0_setByte 8 = .ok (.aload_n 0, 1) := by decide +kernel
theorem dX0_setByte_9 : decode cX0_setByte 9 = .ok (.getfield 10, 3) := by decide +kernel
theorem dX0_setByte_12 : decode cX0_setByte 12 = .ok (.iload_n 1, 1) := by decide +kernel
theorem dX0_setByte_13 : decode cX0_setByte 13 = .ok (.sipush 512, 3) := by decide +kernel
theorem dX0_setByte_16 : decode cX0_setByte 16 = .ok (.imul, 1) := by decide +kernel
theorem dX0_setByte_17 : decode cX0_setByte 17 = .ok (.iload_n 2, 1) := by decide +kernel
theorem dX0_setByte_18 : decode cX0_setByte 18 = .ok (.iadd, 1) := by decide +kernel
theorem dX0_setByte_19 : decode cX0_setByte 19 = .ok (.iload_n 3, 1) := by decide +kernel
theorem dX0_setByte_20 : decode cX0_setByte 20 = .ok (.i2b, 1) := by decide +kernel
theorem dX0_setByte_21 : decode cX0_setByte 21 = .ok (.bastore, 1) := by decide +kernel
theorem dX0_setByte_22 : decode cX0_setByte 22 = .ok (.return_, 1) := by decide +kernel
set_option maxRecDepth 100000 in
set_option maxHeartbeats 4000000 in
theorem bX0_setByte_0 {l : Launch} {g : xG} (a0 : Nat) (x1 : Int32) (x2 : Int32) (x3 : Int32) {M : xM} {Q : Option Value → xM → Prop} (h : (xSp l g mX0_has 0 0 [.int x1, .int x2] M (fun ρ3 M2 => ∃ v1 : Int32, ρ3 = some (.int v1) ∧ ((v1 = 0 → (Q none M2)) ∧ (¬ v1 = 0 → (xat M2 a0 0 ∧ (∃ a6, (xR M2 a0 0) = some a6 ∧ ∃ i8, xai M2 a6 8 ((x1 * 512) + x2) i8 ∧ (Q none (xsI M2 a6 i8 x3.toInt8.toInt32.toInt8.toInt32))))))))) : xWp l g mX0_setByte 0 0 0 [(1, va_rf (some a0)), (1, .int x1), (1, .int x2), (1, .int x3)] [] (0, 0) M Q := by
  refine xr_iload_n 1 dX0_setByte_0 rfl rfl ?_
  refine xr_iload_n 2 dX0_setByte_1 rfl rfl ?_
  refine xr_callS [.int x1, .int x2] dX0_setByte_2 cs_X0_setByte_23 rfl (by decide) (by decide) (xSp.mono h ?_)
  clear h
  intro ρ3 M2 h
  obtain ⟨v1, rfl, h⟩ := h
  obtain ⟨ht, hf⟩ := h
  refine xr_if_eq 22 dX0_setByte_5 (by decide) (fun c10 => ?_) (fun c10 => ?_)
  · replace h := ht c10
    clear ht hf
    exact xr_ret (by decide) (xRv rfl dX0_setByte_22) h
  · replace h := hf c10
    clear ht hf
    refine xr_aload_n 0 dX0_setByte_8 rfl rfl ?_
    obtain ⟨t5, h⟩ := h
    refine yr_getR dX0_setByte_9 fl_RX0_10 rfl t5 ?_
    refine xr_iload_n 1 dX0_setByte_12 rfl rfl ?_
    refine xr_sipush 512 dX0_setByte_13 (by decide) ?_
    refine xr_imul dX0_setByte_16 ?_
    refine xr_iload_n 2 dX0_setByte_17 rfl rfl ?_
    refine xr_iadd dX0_setByte_18 ?_
    refine xr_iload_n 3 dX0_setByte_19 rfl rfl ?_
    refine xr_i2b dX0_setByte_20 ?_
    obtain ⟨a6, e7, h⟩ := h
    obtain ⟨i8, t9, h⟩ := h
    refine yr_bast dX0_setByte_21 e7 t9 ?_
    exact xr_ret (by decide) (xRv rfl dX0_setByte_22) h
theorem dX0_setPower_0 : decode cX0_setPower 0 = .ok (.aload_n 0, 1) := by decide +kernel
theorem dX0_setPower_1 : decode cX0_setPower 1 = .ok (.iload_n 1, 1) := by decide +kernel
theorem dX0_setPower_2 : decode cX0_setPower 2 = .ok (.putfield 16, 3) := by decide +kernel
theorem dX0_setPower_5 : decode cX0_setPower 5 = .ok (.aload_n 0, 1) := by decide +kernel
theorem dX0_setPower_6 : decode cX0_setPower 6 = .ok (.iload_n 2, 1) := by decide +kernel
theorem dX0_setPower_7 : decode cX0_setPower 7 = .ok (.putfield 20, 3) := by decide +kernel
theorem dX0_setPower_10 : decode cX0_setPower 10 = .ok (.return_, 1) := by decide +kernel
set_option maxRecDepth 100000 in
set_option maxHeartbeats 4000000 in
theorem bX0_setPower_0 {l : Launch} {g : xG} (a0 : Nat) (x1 : Int32) (x2 : Int32) {M : xM} {Q : Option Value → xM → Prop} (h : (xat M a0 0 ∧ (Q none (xsI (xsI M a0 1 x1) a0 2 x2)))) : xWp l g mX0_setPower 0 0 0 [(1, va_rf (some a0)), (1, .int x1), (1, .int x2)] [] (0, 0) M Q := by
  refine xr_aload_n 0 dX0_setPower_0 rfl rfl ?_
  refine xr_iload_n 1 dX0_setPower_1 rfl rfl ?_
  obtain ⟨t1, h⟩ := h
  refine yr_putI dX0_setPower_2 fp_RX0_16 rfl t1 ?_
  refine xr_aload_n 0 dX0_setPower_5 rfl rfl ?_
  refine xr_iload_n 2 dX0_setPower_6 rfl rfl ?_
  refine yr_putI dX0_setPower_7 fp_RX0_20 rfl t1 ?_
  exact xr_ret (by decide) (xRv rfl dX0_setPower_10) h
theorem dX0_read_0 : decode cX0_read 0 = .ok (.iload_n 1, 1) := by decide +kernel
theorem dX0_read_1 : decode cX0_read 1 = .ok (.iconst 0, 1) := by decide +kernel
theorem dX0_read_2 : decode cX0_read 2 = .ok (.invokestatic 23, 3) := by decide +kernel
theorem dX0_read_5 : decode cX0_read 5 = .ok (.ifCond .eq 23, 3) := by decide +kernel
theorem dX0_read_8 : decode cX0_read 8 = .ok (.aload_n 0, 1) := by decide +kernel
theorem dX0_read_9 : decode cX0_read 9 = .ok (.getfield 10, 3) := by decide +kernel
theorem dX0_read_12 : decode cX0_read 12 = .ok (.iload_n 1, 1) := by decide +kernel
theorem dX0_read_13 : decode cX0_read 13 = .ok (.sipush 512, 3) := by decide +kernel
theorem dX0_read_16 : decode cX0_read 16 = .ok (.imul, 1) := by decide +kernel
theorem dX0_read_17 : decode cX0_read 17 = .ok (.aload_n 2, 1) := by decide +kernel
theorem dX0_read_18 : decode cX0_read 18 = .ok (.getfield 27, 3) := by decide +kernel
theorem dX0_read_21 : decode cX0_read 21 = .ok (.iconst 0, 1) := by decide +kernel
theorem dX0_read_22 : decode cX0_read 22 = .ok (.sipush 512, 3) := by decide +kernel
theorem dX0_read_25 : decode cX0_read 25 = .ok (.invokestatic 30, 3) := by decide +kernel
theorem dX0_read_28 : decode cX0_read 28 = .ok (.return_, 1) := by decide +kernel
set_option maxRecDepth 100000 in
set_option maxHeartbeats 4000000 in
theorem bX0_read_0 {l : Launch} {g : xG} (a0 : Nat) (x1 : Int32) (r2 : Option Nat) {M : xM} {Q : Option Value → xM → Prop} (h : (xSp l g mX0_has 0 0 [.int x1, .int 0] M (fun ρ3 M2 => ∃ v1 : Int32, ρ3 = some (.int v1) ∧ ((v1 = 0 → (Q none M2)) ∧ (¬ v1 = 0 → (xat M2 a0 0 ∧ (∃ a6, r2 = some a6 ∧ xat M2 a6 2 ∧ (∃ a9, (xR M2 a6 0) = some a9 ∧ ∃ a11, (xR M2 a0 0) = some a11 ∧ ∃ n13 n14 n15, xat M2 a11 8 ∧ xat M2 a9 8 ∧ (x1 * 512) = nI n13 ∧ (0 : Int32) = nI n14 ∧ (512 : Int32) = nI n15 ∧ n13 < 2 ^ 31 ∧ n14 < 2 ^ 31 ∧ n15 < 2 ^ 31 ∧ n13 + n15 ≤ xN M2 a11 ∧ n14 + n15 ≤ xN M2 a9 ∧ (∀ j, j < n15 → fits .byte (.int (xI M2 a11 (n13 + j))) = true) ∧ (Q none (xcp M2 a11 a9 n13 n14 n15)))))))))) : xWp l g mX0_read 0 0 0 [(1, va_rf (some a0)), (1, .int x1), (1, va_rf r2)] [] (0, 0) M Q := by
  refine xr_iload_n 1 dX0_read_0 rfl rfl ?_
  refine xr_iconst 0 dX0_read_1 (by decide) ?_
  refine xr_callS [.int x1, .int 0] dX0_read_2 cs_X0_read_23 rfl (by decide) (by decide) (xSp.mono h ?_)
  clear h
  intro ρ3 M2 h
  obtain ⟨v1, rfl, h⟩ := h
  obtain ⟨ht, hf⟩ := h
  refine xr_if_eq 28 dX0_read_5 (by decide) (fun c27 => ?_) (fun c27 => ?_)
  · replace h := ht c27
    clear ht hf
    exact xr_ret (by decide) (xRv rfl dX0_read_28) h
  · replace h := hf c27
    clear ht hf
    refine xr_aload_n 0 dX0_read_8 rfl rfl ?_
    obtain ⟨t5, h⟩ := h
    refine yr_getR dX0_read_9 fl_RX0_10 rfl t5 ?_
    refine xr_iload_n 1 dX0_read_12 rfl rfl ?_
    refine xr_sipush 512 dX0_read_13 (by decide) ?_
    refine xr_imul dX0_read_16 ?_
    refine xr_aload_n 2 dX0_read_17 rfl rfl ?_
    obtain ⟨a6, e7, h⟩ := h
    obtain ⟨t8, h⟩ := h
    refine yr_getN dX0_read_18 rfl lays5 e7 t8 ?_
    refine xr_iconst 0 dX0_read_21 (by decide) ?_
    refine xr_sipush 512 dX0_read_22 (by decide) ?_
    obtain ⟨a9, e10, h⟩ := h
    obtain ⟨a11, e12, h⟩ := h
    obtain ⟨n13, n14, n15, u16, u17, u18, u19, u20, u21, u22, u23, u24, u25, u26, h⟩ := h
    refine ycopy n13 n14 n15 dX0_read_25 ml_RX0_30 nat_copy stat_copy ini_System (by decide) (by decide) e12 e10 u16 u17 u18 u19 u20 u21 u22 u23 u24 u25 u26 ?_
    exact xr_ret (by decide) (xRv rfl dX0_read_28) h
theorem dX0_write_0 : decode cX0_write 0 = .ok (.aload_n 0, 1) := by decide +kernel
theorem dX0_write_1 : decode cX0_write 1 = .ok (.getfield 16, 3) := by decide +kernel
theorem dX0_write_4 : decode cX0_write 4 = .ok (.ifCond .ne 7, 3) := by decide +kernel
theorem dX0_write_7 : decode cX0_write 7 = .ok (.iconst 1, 1) := by decide +kernel
theorem dX0_write_8 : decode cX0_write 8 = .ok (.goto 4, 3) := by decide +kernel
theorem dX0_write_11 : decode cX0_write 11 = .ok (.iconst 0, 1) := by decide +kernel
theorem dX0_write_12 : decode cX0_write 12 = .ok (.istore_n 3, 1) := by decide +kernel
theorem dX0_write_13 : decode cX0_write 13 = .ok (.iload_n 1, 1) := by decide +kernel
theorem dX0_write_14 : decode cX0_write 14 = .ok (.iconst 0, 1) := by decide +kernel
theorem dX0_write_15 : decode cX0_write 15 = .ok (.invokestatic 23, 3) := by decide +kernel
theorem dX0_write_18 : decode cX0_write 18 = .ok (.ifCond .eq 34, 3) := by decide +kernel
theorem dX0_write_21 : decode cX0_write 21 = .ok (.aload_n 2, 1) := by decide +kernel
theorem dX0_write_22 : decode cX0_write 22 = .ok (.getfield 27, 3) := by decide +kernel
theorem dX0_write_25 : decode cX0_write 25 = .ok (.iconst 0, 1) := by decide +kernel
theorem dX0_write_26 : decode cX0_write 26 = .ok (.aload_n 0, 1) := by decide +kernel
theorem dX0_write_27 : decode cX0_write 27 = .ok (.getfield 10, 3) := by decide +kernel
theorem dX0_write_30 : decode cX0_write 30 = .ok (.iload_n 1, 1) := by decide +kernel
theorem dX0_write_31 : decode cX0_write 31 = .ok (.sipush 512, 3) := by decide +kernel
theorem dX0_write_34 : decode cX0_write 34 = .ok (.imul, 1) := by decide +kernel
theorem dX0_write_35 : decode cX0_write 35 = .ok (.iload_n 3, 1) := by decide +kernel
theorem dX0_write_36 : decode cX0_write 36 = .ok (.ifCond .eq 10, 3) := by decide +kernel
theorem dX0_write_39 : decode cX0_write 39 = .ok (.aload_n 0, 1) := by decide +kernel
theorem dX0_write_40 : decode cX0_write 40 = .ok (.getfield 20, 3) := by decide +kernel
theorem dX0_write_43 : decode cX0_write 43 = .ok (.goto 6, 3) := by decide +kernel
theorem dX0_write_46 : decode cX0_write 46 = .ok (.sipush 512, 3) := by decide +kernel
theorem dX0_write_49 : decode cX0_write 49 = .ok (.invokestatic 30, 3) := by decide +kernel
theorem dX0_write_52 : decode cX0_write 52 = .ok (.iload_n 3, 1) := by decide +kernel
theorem dX0_write_53 : decode cX0_write 53 = .ok (.ifCond .eq 12, 3) := by decide +kernel
theorem dX0_write_56 : decode cX0_write 56 = .ok (.aload_n 0, 1) := by decide +kernel
theorem dX0_write_57 : decode cX0_write 57 = .ok (.iload_n 1, 1) := by decide +kernel
theorem dX0_write_58 : decode cX0_write 58 = .ok (.iconst 0, 1) := by decide +kernel
theorem dX0_write_59 : decode cX0_write 59 = .ok (.sipush 255, 3) := by decide +kernel
theorem dX0_write_62 : decode cX0_write 62 = .ok (.invokevirtual 36, 3) := by decide +kernel
theorem dX0_write_65 : decode cX0_write 65 = .ok (.aload_n 0, 1) := by decide +kernel
theorem dX0_write_66 : decode cX0_write 66 = .ok (.getfield 16, 3) := by decide +kernel
theorem dX0_write_69 : decode cX0_write 69 = .ok (.iconst (-1), 1) := by decide +kernel
theorem dX0_write_70 : decode cX0_write 70 = .ok (.if_icmp .le 13, 3) := by decide +kernel
theorem dX0_write_73 : decode cX0_write 73 = .ok (.aload_n 0, 1) := by decide +kernel
theorem dX0_write_74 : decode cX0_write 74 = .ok (.dup, 1) := by decide +kernel
theorem dX0_write_75 : decode cX0_write 75 = .ok (.getfield 16, 3) := by decide +kernel
theorem dX0_write_78 : decode cX0_write 78 = .ok (.iconst 1, 1) := by decide +kernel
theorem dX0_write_79 : decode cX0_write 79 = .ok (.isub, 1) := by decide +kernel
theorem dX0_write_80 : decode cX0_write 80 = .ok (.putfield 16, 3) := by decide +kernel
theorem dX0_write_83 : decode cX0_write 83 = .ok (.iload_n 3, 1) := by decide +kernel
theorem dX0_write_84 : decode cX0_write 84 = .ok (.ifCond .ne 7, 3) := by decide +kernel
theorem dX0_write_87 : decode cX0_write 87 = .ok (.iconst 1, 1) := by decide +kernel
theorem dX0_write_88 : decode cX0_write 88 = .ok (.goto 4, 3) := by decide +kernel
theorem dX0_write_91 : decode cX0_write 91 = .ok (.iconst 0, 1) := by decide +kernel
theorem dX0_write_92 : decode cX0_write 92 = .ok (.ireturn, 1) := by decide +kernel
set_option maxRecDepth 100000 in
set_option maxHeartbeats 4000000 in
theorem bX0_write_52 {l : Launch} {g : xG} (a0 : Nat) (x1 : Int32) (r2 : Option Nat) (x3 : Int32) {M : xM} {Q : Option Value → xM → Prop} (h : ((x3 = 0 → (xat M a0 0 ∧ (((xI M a0 1) ≤ (-1) → ((¬ x3 = 0 → (Q (some (.int 0)) M)) ∧ (x3 = 0 → (Q (some (.int 1)) M)))) ∧ (¬ (xI M a0 1) ≤ (-1) → ((¬ x3 = 0 → (Q (some (.int 0)) (xsI M a0 1 ((xI M a0 1) - 1)))) ∧ (x3 = 0 → (Q (some (.int 1)) (xsI M a0 1 ((xI M a0 1) - 1))))))))) ∧ (¬ x3 = 0 → (xat M a0 0 ∧ xSp l g mX0_setByte 0 0 [va_rf (some a0), .int x1, .int 0, .int 255] M (fun ρ7 M6 => ρ7 = none ∧ (xat M6 a0 0 ∧ (((xI M6 a0 1) ≤ (-1) → ((¬ x3 = 0 → (Q (some (.int 0)) M6)) ∧ (x3 = 0 → (Q (some (.int 1)) M6)))) ∧ (¬ (xI M6 a0 1) ≤ (-1) → ((¬ x3 = 0 → (Q (some (.int 0)) (xsI M6 a0 1 ((xI M6 a0 1) - 1)))) ∧ (x3 = 0 → (Q (some (.int 1)) (xsI M6 a0 1 ((xI M6 a0 1) - 1))))))))))))) : xWp l g mX0_write 0 0 52 [(1, va_rf (some a0)), (1, .int x1), (1, va_rf r2), (1, .int x3)] [] (0, 0) M Q := by
  refine xr_iload_n 3 dX0_write_52 rfl rfl ?_
  obtain ⟨ht, hf⟩ := h
  refine xr_if_eq 65 dX0_write_53 (by decide) (fun c14 => ?_) (fun c14 => ?_)
  · replace h := ht c14
    clear ht hf
    refine xr_aload_n 0 dX0_write_65 rfl rfl ?_
    obtain ⟨t1, h⟩ := h
    refine yr_getI dX0_write_66 fl_RX0_16 rfl t1 ?_
    refine xr_iconst (-1) dX0_write_69 (by decide) ?_
    obtain ⟨ht, hf⟩ := h
    refine xr_icmp_le 83 dX0_write_70 (by decide) (fun c4 => ?_) (fun c4 => ?_)
    · replace h := ht c4
      clear ht hf
      refine xr_iload_n 3 dX0_write_83 rfl rfl ?_
      obtain ⟨ht, hf⟩ := h
      refine xr_if_ne 91 dX0_write_84 (by decide) (fun c2 => ?_) (fun c2 => ?_)
      · replace h := ht c2
        clear ht hf
        refine xr_iconst 0 dX0_write_91 (by decide) ?_
        exact xr_retv (by decide) (xRi rfl rfl dX0_write_92) h
      · replace h := hf c2
        clear ht hf
        refine xr_iconst 1 dX0_write_87 (by decide) ?_
        refine xr_goto 92 dX0_write_88 (by decide) ?_
        exact xr_retv (by decide) (xRi rfl rfl dX0_write_92) h
    · replace h := hf c4
      clear ht hf
      refine xr_aload_n 0 dX0_write_73 rfl rfl ?_
      refine xr_dup dX0_write_74 (va_rf_cat _) ?_
      refine yr_getI dX0_write_75 fl_RX0_16 rfl t1 ?_
      refine xr_iconst 1 dX0_write_78 (by decide) ?_
      refine xr_isub dX0_write_79 ?_
      refine yr_putI dX0_write_80 fp_RX0_16 rfl t1 ?_
      refine xr_iload_n 3 dX0_write_83 rfl rfl ?_
      obtain ⟨ht, hf⟩ := h
      refine xr_if_ne 91 dX0_write_84 (by decide) (fun c3 => ?_) (fun c3 => ?_)
      · replace h := ht c3
        clear ht hf
        refine xr_iconst 0 dX0_write_91 (by decide) ?_
        exact xr_retv (by decide) (xRi rfl rfl dX0_write_92) h
      · replace h := hf c3
        clear ht hf
        refine xr_iconst 1 dX0_write_87 (by decide) ?_
        refine xr_goto 92 dX0_write_88 (by decide) ?_
        exact xr_retv (by decide) (xRi rfl rfl dX0_write_92) h
  · replace h := hf c14
    clear ht hf
    refine xr_aload_n 0 dX0_write_56 rfl rfl ?_
    refine xr_iload_n 1 dX0_write_57 rfl rfl ?_
    refine xr_iconst 0 dX0_write_58 (by decide) ?_
    refine xr_sipush 255 dX0_write_59 (by decide) ?_
    obtain ⟨t9, h⟩ := h
    refine yr_callV (r := (some a0)) [.int x1, .int 0, .int 255] dX0_write_62 cv_X0_write_36 rfl t9 rfl (by decide) (by decide) (xSp.mono h ?_)
    clear h
    intro ρ7 M6 h
    obtain ⟨rfl, h⟩ := h
    refine xr_aload_n 0 dX0_write_65 rfl rfl ?_
    obtain ⟨t10, h⟩ := h
    refine yr_getI dX0_write_66 fl_RX0_16 rfl t10 ?_
    refine xr_iconst (-1) dX0_write_69 (by decide) ?_
    obtain ⟨ht, hf⟩ := h
    refine xr_icmp_le 83 dX0_write_70 (by decide) (fun c13 => ?_) (fun c13 => ?_)
    · replace h := ht c13
      clear ht hf
      refine xr_iload_n 3 dX0_write_83 rfl rfl ?_
      obtain ⟨ht, hf⟩ := h
      refine xr_if_ne 91 dX0_write_84 (by decide) (fun c11 => ?_) (fun c11 => ?_)
      · replace h := ht c11
        clear ht hf
        refine xr_iconst 0 dX0_write_91 (by decide) ?_
        exact xr_retv (by decide) (xRi rfl rfl dX0_write_92) h
      · replace h := hf c11
        clear ht hf
        refine xr_iconst 1 dX0_write_87 (by decide) ?_
        refine xr_goto 92 dX0_write_88 (by decide) ?_
        exact xr_retv (by decide) (xRi rfl rfl dX0_write_92) h
    · replace h := hf c13
      clear ht hf
      refine xr_aload_n 0 dX0_write_73 rfl rfl ?_
      refine xr_dup dX0_write_74 (va_rf_cat _) ?_
      refine yr_getI dX0_write_75 fl_RX0_16 rfl t10 ?_
      refine xr_iconst 1 dX0_write_78 (by decide) ?_
      refine xr_isub dX0_write_79 ?_
      refine yr_putI dX0_write_80 fp_RX0_16 rfl t10 ?_
      refine xr_iload_n 3 dX0_write_83 rfl rfl ?_
      obtain ⟨ht, hf⟩ := h
      refine xr_if_ne 91 dX0_write_84 (by decide) (fun c12 => ?_) (fun c12 => ?_)
      · replace h := ht c12
        clear ht hf
        refine xr_iconst 0 dX0_write_91 (by decide) ?_
        exact xr_retv (by decide) (xRi rfl rfl dX0_write_92) h
      · replace h := hf c12
        clear ht hf
        refine xr_iconst 1 dX0_write_87 (by decide) ?_
        refine xr_goto 92 dX0_write_88 (by decide) ?_
        exact xr_retv (by decide) (xRi rfl rfl dX0_write_92) h
set_option maxRecDepth 100000 in
set_option maxHeartbeats 4000000 in
theorem bX0_write_12 {l : Launch} {g : xG} (a0 : Nat) (x1 : Int32) (r2 : Option Nat) (w3 : Value) (sx0 : Int32) {M : xM} {Q : Option Value → xM → Prop} (h : (xSp l g mX0_has 0 0 [.int x1, .int 0] M (fun ρ3 M2 => ∃ v1 : Int32, ρ3 = some (.int v1) ∧ ((v1 = 0 → xWp l g mX0_write 0 0 52 [(1, va_rf (some a0)), (1, .int x1), (1, va_rf r2), (1, .int sx0)] [] (0, 0) M2 Q) ∧ (¬ v1 = 0 → (∃ a5, r2 = some a5 ∧ xat M2 a5 2 ∧ (xat M2 a0 0 ∧ ((sx0 = 0 → (∃ a9, (xR M2 a0 0) = some a9 ∧ ∃ a11, (xR M2 a5 0) = some a11 ∧ ∃ n13 n14 n15, xat M2 a11 8 ∧ xat M2 a9 8 ∧ (0 : Int32) = nI n13 ∧ (x1 * 512) = nI n14 ∧ (512 : Int32) = nI n15 ∧ n13 < 2 ^ 31 ∧ n14 < 2 ^ 31 ∧ n15 < 2 ^ 31 ∧ n13 + n15 ≤ xN M2 a11 ∧ n14 + n15 ≤ xN M2 a9 ∧ (∀ j, j < n15 → fits .byte (.int (xI M2 a11 (n13 + j))) = true) ∧ xWp l g mX0_write 0 0 52 [(1, va_rf (some a0)), (1, .int x1), (1, va_rf r2), (1, .int sx0)] [] (0, 0) (xcp M2 a11 a9 n13 n14 n15) Q)) ∧ (¬ sx0 = 0 → (∃ a27, (xR M2 a0 0) = some a27 ∧ ∃ a29, (xR M2 a5 0) = some a29 ∧ ∃ n31 n32 n33, xat M2 a29 8 ∧ xat M2 a27 8 ∧ (0 : Int32) = nI n31 ∧ (x1 * 512) = nI n32 ∧ (xI M2 a0 2) = nI n33 ∧ n31 < 2 ^ 31 ∧ n32 < 2 ^ 31 ∧ n33 < 2 ^ 31 ∧ n31 + n33 ≤ xN M2 a29 ∧ n32 + n33 ≤ xN M2 a27 ∧ (∀ j, j < n33 → fits .byte (.int (xI M2 a29 (n31 + j))) = true) ∧ xWp l g mX0_write 0 0 52 [(1, va_rf (some a0)), (1, .int x1), (1, va_rf r2), (1, .int sx0)] [] (0, 0) (xcp M2 a29 a27 n31 n32 n33) Q)))))))))) : xWp l g mX0_write 0 0 12 [(1, va_rf (some a0)), (1, .int x1), (1, va_rf r2), (0, w3)] [.int sx0] (0, 0) M Q := by
  refine zistore_n 3 dX0_write_12 rfl (L1 := [(1, va_rf (some a0)), (1, .int x1), (1, va_rf r2), (1, .int sx0)]) (by decide) rfl ?_
  refine xr_iload_n 1 dX0_write_13 rfl rfl ?_
  refine xr_iconst 0 dX0_write_14 (by decide) ?_
  refine xr_callS [.int x1, .int 0] dX0_write_15 cs_X0_write_23 rfl (by decide) (by decide) (xSp.mono h ?_)
  clear h
  intro ρ3 M2 h
  obtain ⟨v1, rfl, h⟩ := h
  obtain ⟨ht, hf⟩ := h
  refine xr_if_eq 52 dX0_write_18 (by decide) (fun c46 => ?_) (fun c46 => ?_)
  · replace h := ht c46
    clear ht hf
    exact h
  · replace h := hf c46
    clear ht hf
    refine xr_aload_n 2 dX0_write_21 rfl rfl ?_
    obtain ⟨a5, e6, h⟩ := h
    obtain ⟨t7, h⟩ := h
    refine yr_getN dX0_write_22 rfl lays5 e6 t7 ?_
    refine xr_iconst 0 dX0_write_25 (by decide) ?_
    refine xr_aload_n 0 dX0_write_26 rfl rfl ?_
    obtain ⟨t8, h⟩ := h
    refine yr_getR dX0_write_27 fl_RX0_10 rfl t8 ?_
    refine xr_iload_n 1 dX0_write_30 rfl rfl ?_
    refine xr_sipush 512 dX0_write_31 (by decide) ?_
    refine xr_imul dX0_write_34 ?_
    refine xr_iload_n 3 dX0_write_35 rfl rfl ?_
    obtain ⟨ht, hf⟩ := h
    refine xr_if_eq 46 dX0_write_36 (by decide) (fun c45 => ?_) (fun c45 => ?_)
    · replace h := ht c45
      clear ht hf
      refine xr_sipush 512 dX0_write_46 (by decide) ?_
      obtain ⟨a9, e10, h⟩ := h
      obtain ⟨a11, e12, h⟩ := h
      obtain ⟨n13, n14, n15, u16, u17, u18, u19, u20, u21, u22, u23, u24, u25, u26, h⟩ := h
      refine ycopy n13 n14 n15 dX0_write_49 ml_RX0_30 nat_copy stat_copy ini_System (by decide) (by decide) e12 e10 u16 u17 u18 u19 u20 u21 u22 u23 u24 u25 u26 ?_
      exact h
    · replace h := hf c45
      clear ht hf
      refine xr_aload_n 0 dX0_write_39 rfl rfl ?_
      refine yr_getI dX0_write_40 fl_RX0_20 rfl t8 ?_
      refine xr_goto 49 dX0_write_43 (by decide) ?_
      obtain ⟨a27, e28, h⟩ := h
      obtain ⟨a29, e30, h⟩ := h
      obtain ⟨n31, n32, n33, u34, u35, u36, u37, u38, u39, u40, u41, u42, u43, u44, h⟩ := h
      refine ycopy n31 n32 n33 dX0_write_49 ml_RX0_30 nat_copy stat_copy ini_System (by decide) (by decide) e30 e28 u34 u35 u36 u37 u38 u39 u40 u41 u42 u43 u44 ?_
      exact h
set_option maxRecDepth 100000 in
set_option maxHeartbeats 4000000 in
theorem bX0_write_0 {l : Launch} {g : xG} (a0 : Nat) (x1 : Int32) (r2 : Option Nat) {M : xM} {Q : Option Value → xM → Prop} (h : (xat M a0 0 ∧ ((¬ (xI M a0 1) = 0 → xWp l g mX0_write 0 0 12 [(1, va_rf (some a0)), (1, .int x1), (1, va_rf r2), (0, .null)] [.int 0] (0, 0) M Q) ∧ ((xI M a0 1) = 0 → xWp l g mX0_write 0 0 12 [(1, va_rf (some a0)), (1, .int x1), (1, va_rf r2), (0, .null)] [.int 1] (0, 0) M Q)))) : xWp l g mX0_write 0 0 0 [(1, va_rf (some a0)), (1, .int x1), (1, va_rf r2), (0, .null)] [] (0, 0) M Q := by
  refine xr_aload_n 0 dX0_write_0 rfl rfl ?_
  obtain ⟨t1, h⟩ := h
  refine yr_getI dX0_write_1 fl_RX0_16 rfl t1 ?_
  obtain ⟨ht, hf⟩ := h
  refine xr_if_ne 11 dX0_write_4 (by decide) (fun c2 => ?_) (fun c2 => ?_)
  · replace h := ht c2
    clear ht hf
    refine xr_iconst 0 dX0_write_11 (by decide) ?_
    exact h
  · replace h := hf c2
    clear ht hf
    refine xr_iconst 1 dX0_write_7 (by decide) ?_
    refine xr_goto 12 dX0_write_8 (by decide) ?_
    exact h
end
