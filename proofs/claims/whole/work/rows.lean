section
-- ===== PART A: goes FIRST, ahead of the names: the tables' words, and 'selects' of the private methods out of them =====
/-- a private method of a class that the tables say can be made, by its rows of tables_1 -/
def lw_okq (q : MethodName × Nat) : Prop := (q.1.cls ≠ "java/lang/invoke/MethodHandle" ∧ q.1.cls ≠ "java/lang/invoke/VarHandle") ∧ Cond.instantiable q.1.cls q.2 ∈ tables_1 ∧ Cond.privateMethod q.1 ∈ tables_1 ∧ Cond.instanceMethod q.1 ∈ tables_1
theorem lw_p0 : lw_okq (⟨"RadixPages$Node", "reset", "()V"⟩, 13) := ⟨⟨by decide +kernel, by decide +kernel⟩, List.mem_of_getElem? (i := 53) (by decide +kernel), List.mem_of_getElem? (i := 59) (by decide +kernel), List.mem_of_getElem? (i := 60) (by decide +kernel)⟩
theorem lw_p1 : lw_okq (⟨"RadixPages$Tree", "storeFirst", "(LRadixPages$Tape;J)I"⟩, 8) := ⟨⟨by decide +kernel, by decide +kernel⟩, List.mem_of_getElem? (i := 46) (by decide +kernel), List.mem_of_getElem? (i := 262) (by decide +kernel), List.mem_of_getElem? (i := 263) (by decide +kernel)⟩
theorem lw_p2 : lw_okq (⟨"RadixPages$Node", "setPrefixAt", "(II)V"⟩, 13) := ⟨⟨by decide +kernel, by decide +kernel⟩, List.mem_of_getElem? (i := 53) (by decide +kernel), List.mem_of_getElem? (i := 271) (by decide +kernel), List.mem_of_getElem? (i := 272) (by decide +kernel)⟩
theorem lw_p3 : lw_okq (⟨"RadixPages$Tree", "storeHere", "(J)I"⟩, 8) := ⟨⟨by decide +kernel, by decide +kernel⟩, List.mem_of_getElem? (i := 46) (by decide +kernel), List.mem_of_getElem? (i := 275) (by decide +kernel), List.mem_of_getElem? (i := 276) (by decide +kernel)⟩
theorem lw_p4 : lw_okq (⟨"RadixPages$Tree", "seek", "(LRadixPages$Tape;)V"⟩, 8) := ⟨⟨by decide +kernel, by decide +kernel⟩, List.mem_of_getElem? (i := 46) (by decide +kernel), List.mem_of_getElem? (i := 287) (by decide +kernel), List.mem_of_getElem? (i := 288) (by decide +kernel)⟩
theorem lw_p5 : lw_okq (⟨"RadixPages$Tree", "stepFrom", "(LRadixPages$Node;LRadixPages$Tape;)LRadixPages$Node;"⟩, 8) := ⟨⟨by decide +kernel, by decide +kernel⟩, List.mem_of_getElem? (i := 46) (by decide +kernel), List.mem_of_getElem? (i := 300) (by decide +kernel), List.mem_of_getElem? (i := 301) (by decide +kernel)⟩
theorem lw_p6 : lw_okq (⟨"RadixPages$Tree", "storeByCut", "(LRadixPages$Tape;J)I"⟩, 8) := ⟨⟨by decide +kernel, by decide +kernel⟩, List.mem_of_getElem? (i := 46) (by decide +kernel), List.mem_of_getElem? (i := 312) (by decide +kernel), List.mem_of_getElem? (i := 313) (by decide +kernel)⟩
theorem lw_p7 : lw_okq (⟨"RadixPages$Tree", "insertAbove", "(LRadixPages$Node;LRadixPages$Node;)V"⟩, 8) := ⟨⟨by decide +kernel, by decide +kernel⟩, List.mem_of_getElem? (i := 46) (by decide +kernel), List.mem_of_getElem? (i := 320) (by decide +kernel), List.mem_of_getElem? (i := 321) (by decide +kernel)⟩
theorem lw_p8 : lw_okq (⟨"RadixPages$Tree", "putInPlace", "(LRadixPages$Node;LRadixPages$Node;)V"⟩, 8) := ⟨⟨by decide +kernel, by decide +kernel⟩, List.mem_of_getElem? (i := 46) (by decide +kernel), List.mem_of_getElem? (i := 325) (by decide +kernel), List.mem_of_getElem? (i := 326) (by decide +kernel)⟩
theorem lw_p9 : lw_okq (⟨"RadixPages$Node", "lastBelow", "(I)LRadixPages$Node;"⟩, 13) := ⟨⟨by decide +kernel, by decide +kernel⟩, List.mem_of_getElem? (i := 53) (by decide +kernel), List.mem_of_getElem? (i := 333) (by decide +kernel), List.mem_of_getElem? (i := 334) (by decide +kernel)⟩
theorem lw_p10 : lw_okq (⟨"RadixPages$Node", "setNextOf", "(LRadixPages$Node;LRadixPages$Node;)V"⟩, 13) := ⟨⟨by decide +kernel, by decide +kernel⟩, List.mem_of_getElem? (i := 53) (by decide +kernel), List.mem_of_getElem? (i := 337) (by decide +kernel), List.mem_of_getElem? (i := 338) (by decide +kernel)⟩
theorem lw_p11 : lw_okq (⟨"RadixPages$Tree", "hang", "(LRadixPages$Node;LRadixPages$Node;LRadixPages$Tape;J)V"⟩, 8) := ⟨⟨by decide +kernel, by decide +kernel⟩, List.mem_of_getElem? (i := 46) (by decide +kernel), List.mem_of_getElem? (i := 360) (by decide +kernel), List.mem_of_getElem? (i := 361) (by decide +kernel)⟩
theorem lw_p12 : lw_okq (⟨"RadixPages$Tree", "storeByChild", "(LRadixPages$Tape;J)I"⟩, 8) := ⟨⟨by decide +kernel, by decide +kernel⟩, List.mem_of_getElem? (i := 46) (by decide +kernel), List.mem_of_getElem? (i := 364) (by decide +kernel), List.mem_of_getElem? (i := 365) (by decide +kernel)⟩
theorem lw_p13 : lw_okq (⟨"RadixPages$Tree", "join", "(LRadixPages$Node;)V"⟩, 8) := ⟨⟨by decide +kernel, by decide +kernel⟩, List.mem_of_getElem? (i := 46) (by decide +kernel), List.mem_of_getElem? (i := 384) (by decide +kernel), List.mem_of_getElem? (i := 385) (by decide +kernel)⟩
theorem lw_p14 : lw_okq (⟨"RadixPages$Tree", "release", "(LRadixPages$Node;)V"⟩, 8) := ⟨⟨by decide +kernel, by decide +kernel⟩, List.mem_of_getElem? (i := 46) (by decide +kernel), List.mem_of_getElem? (i := 395) (by decide +kernel), List.mem_of_getElem? (i := 396) (by decide +kernel)⟩
theorem lw_p15 : lw_okq (⟨"RadixPages$Tree", "detach", "(LRadixPages$Node;LRadixPages$Node;)V"⟩, 8) := ⟨⟨by decide +kernel, by decide +kernel⟩, List.mem_of_getElem? (i := 46) (by decide +kernel), List.mem_of_getElem? (i := 399) (by decide +kernel), List.mem_of_getElem? (i := 400) (by decide +kernel)⟩
def lw_privs_1 : List (MethodName × Nat) := [(⟨"RadixPages$Node", "reset", "()V"⟩, 13), (⟨"RadixPages$Tree", "storeFirst", "(LRadixPages$Tape;J)I"⟩, 8), (⟨"RadixPages$Node", "setPrefixAt", "(II)V"⟩, 13), (⟨"RadixPages$Tree", "storeHere", "(J)I"⟩, 8), (⟨"RadixPages$Tree", "seek", "(LRadixPages$Tape;)V"⟩, 8), (⟨"RadixPages$Tree", "stepFrom", "(LRadixPages$Node;LRadixPages$Tape;)LRadixPages$Node;"⟩, 8), (⟨"RadixPages$Tree", "storeByCut", "(LRadixPages$Tape;J)I"⟩, 8), (⟨"RadixPages$Tree", "insertAbove", "(LRadixPages$Node;LRadixPages$Node;)V"⟩, 8), (⟨"RadixPages$Tree", "putInPlace", "(LRadixPages$Node;LRadixPages$Node;)V"⟩, 8), (⟨"RadixPages$Node", "lastBelow", "(I)LRadixPages$Node;"⟩, 13), (⟨"RadixPages$Node", "setNextOf", "(LRadixPages$Node;LRadixPages$Node;)V"⟩, 13), (⟨"RadixPages$Tree", "hang", "(LRadixPages$Node;LRadixPages$Node;LRadixPages$Tape;J)V"⟩, 8), (⟨"RadixPages$Tree", "storeByChild", "(LRadixPages$Tape;J)I"⟩, 8), (⟨"RadixPages$Tree", "join", "(LRadixPages$Node;)V"⟩, 8), (⟨"RadixPages$Tree", "release", "(LRadixPages$Node;)V"⟩, 8), (⟨"RadixPages$Tree", "detach", "(LRadixPages$Node;LRadixPages$Node;)V"⟩, 8)]
theorem lw_r1 : ∀ q ∈ lw_privs_1, lw_okq q := List.forall_mem_cons.mpr ⟨lw_p0, List.forall_mem_cons.mpr ⟨lw_p1, List.forall_mem_cons.mpr ⟨lw_p2, List.forall_mem_cons.mpr ⟨lw_p3, List.forall_mem_cons.mpr ⟨lw_p4, List.forall_mem_cons.mpr ⟨lw_p5, List.forall_mem_cons.mpr ⟨lw_p6, List.forall_mem_cons.mpr ⟨lw_p7, List.forall_mem_cons.mpr ⟨lw_p8, List.forall_mem_cons.mpr ⟨lw_p9, List.forall_mem_cons.mpr ⟨lw_p10, List.forall_mem_cons.mpr ⟨lw_p11, List.forall_mem_cons.mpr ⟨lw_p12, List.forall_mem_cons.mpr ⟨lw_p13, List.forall_mem_cons.mpr ⟨lw_p14, List.forall_mem_cons.mpr ⟨lw_p15, fun _ h => absurd h List.not_mem_nil⟩⟩⟩⟩⟩⟩⟩⟩⟩⟩⟩⟩⟩⟩⟩⟩
theorem lw_p16 : lw_okq (⟨"RadixPages$Tree", "firstNotAhead", "(LRadixPages$Tape;)LRadixPages$Node;"⟩, 8) := ⟨⟨by decide +kernel, by decide +kernel⟩, List.mem_of_getElem? (i := 46) (by decide +kernel), List.mem_of_getElem? (i := 445) (by decide +kernel), List.mem_of_getElem? (i := 446) (by decide +kernel)⟩
theorem lw_p17 : lw_okq (⟨"RadixPages", "freePages", "()I"⟩, 6) := ⟨⟨by decide +kernel, by decide +kernel⟩, List.mem_of_getElem? (i := 21) (by decide +kernel), List.mem_of_getElem? (i := 478) (by decide +kernel), List.mem_of_getElem? (i := 479) (by decide +kernel)⟩
theorem lw_p18 : lw_okq (⟨"RadixPages$Store", "markPagesOf", "(LRadixPages$Tree;)V"⟩, 4) := ⟨⟨by decide +kernel, by decide +kernel⟩, List.mem_of_getElem? (i := 172) (by decide +kernel), List.mem_of_getElem? (i := 490) (by decide +kernel), List.mem_of_getElem? (i := 491) (by decide +kernel)⟩
theorem lw_p19 : lw_okq (⟨"RadixPages$Store", "freeAllPages", "()V"⟩, 4) := ⟨⟨by decide +kernel, by decide +kernel⟩, List.mem_of_getElem? (i := 172) (by decide +kernel), List.mem_of_getElem? (i := 494) (by decide +kernel), List.mem_of_getElem? (i := 495) (by decide +kernel)⟩
theorem lw_p20 : lw_okq (⟨"RadixPages$Store", "takePage", "(I)Z"⟩, 4) := ⟨⟨by decide +kernel, by decide +kernel⟩, List.mem_of_getElem? (i := 172) (by decide +kernel), List.mem_of_getElem? (i := 498) (by decide +kernel), List.mem_of_getElem? (i := 499) (by decide +kernel)⟩
theorem lw_p21 : lw_okq (⟨"RadixPages$Store", "saveNode", "(LRadixPages$Node;)Z"⟩, 4) := ⟨⟨by decide +kernel, by decide +kernel⟩, List.mem_of_getElem? (i := 172) (by decide +kernel), List.mem_of_getElem? (i := 507) (by decide +kernel), List.mem_of_getElem? (i := 508) (by decide +kernel)⟩
theorem lw_p22 : lw_okq (⟨"RadixPages$Store", "takeLeastPage", "()I"⟩, 4) := ⟨⟨by decide +kernel, by decide +kernel⟩, List.mem_of_getElem? (i := 172) (by decide +kernel), List.mem_of_getElem? (i := 511) (by decide +kernel), List.mem_of_getElem? (i := 512) (by decide +kernel)⟩
theorem lw_p23 : lw_okq (⟨"RadixPages$Store", "rightSequence", "(I)I"⟩, 4) := ⟨⟨by decide +kernel, by decide +kernel⟩, List.mem_of_getElem? (i := 172) (by decide +kernel), List.mem_of_getElem? (i := 628) (by decide +kernel), List.mem_of_getElem? (i := 629) (by decide +kernel)⟩
theorem lw_p24 : lw_okq (⟨"RadixPages$Store", "loadBy", "(ILRadixPages$Tree;)Z"⟩, 4) := ⟨⟨by decide +kernel, by decide +kernel⟩, List.mem_of_getElem? (i := 172) (by decide +kernel), List.mem_of_getElem? (i := 661) (by decide +kernel), List.mem_of_getElem? (i := 662) (by decide +kernel)⟩
theorem lw_p25 : lw_okq (⟨"RadixPages$Store", "loadNode", "(LRadixPages$Node;LRadixPages$Tree;)Z"⟩, 4) := ⟨⟨by decide +kernel, by decide +kernel⟩, List.mem_of_getElem? (i := 172) (by decide +kernel), List.mem_of_getElem? (i := 666) (by decide +kernel), List.mem_of_getElem? (i := 667) (by decide +kernel)⟩
theorem lw_p26 : lw_okq (⟨"RadixPages$Store", "hangListed", "(LRadixPages$Node;LRadixPages$Tree;I)Z"⟩, 4) := ⟨⟨by decide +kernel, by decide +kernel⟩, List.mem_of_getElem? (i := 172) (by decide +kernel), List.mem_of_getElem? (i := 679) (by decide +kernel), List.mem_of_getElem? (i := 680) (by decide +kernel)⟩
theorem lw_p27 : lw_okq (⟨"RadixPages$Store", "hangBehind", "(LRadixPages$Node;LRadixPages$Node;LRadixPages$Node;II)Z"⟩, 4) := ⟨⟨by decide +kernel, by decide +kernel⟩, List.mem_of_getElem? (i := 172) (by decide +kernel), List.mem_of_getElem? (i := 684) (by decide +kernel), List.mem_of_getElem? (i := 685) (by decide +kernel)⟩
theorem lw_p28 : lw_okq (⟨"RadixPages$Store", "hangMapped", "(LRadixPages$Node;LRadixPages$Tree;)Z"⟩, 4) := ⟨⟨by decide +kernel, by decide +kernel⟩, List.mem_of_getElem? (i := 172) (by decide +kernel), List.mem_of_getElem? (i := 689) (by decide +kernel), List.mem_of_getElem? (i := 690) (by decide +kernel)⟩
theorem lw_p29 : lw_okq (⟨"java/lang/Throwable", "fillInStackTrace", "(I)Ljava/lang/Throwable;"⟩, 6) := ⟨⟨by decide +kernel, by decide +kernel⟩, List.mem_of_getElem? (i := 750) (by decide +kernel), List.mem_of_getElem? (i := 748) (by decide +kernel), List.mem_of_getElem? (i := 749) (by decide +kernel)⟩
theorem lw_p30 : lw_okq (⟨"RadixPagesModel", "clear", "()V"⟩, 27) := ⟨⟨by decide +kernel, by decide +kernel⟩, List.mem_of_getElem? (i := 845) (by decide +kernel), List.mem_of_getElem? (i := 852) (by decide +kernel), List.mem_of_getElem? (i := 853) (by decide +kernel)⟩
theorem lw_p31 : lw_okq (⟨"RadixPagesModel", "newNode", "(II)I"⟩, 27) := ⟨⟨by decide +kernel, by decide +kernel⟩, List.mem_of_getElem? (i := 845) (by decide +kernel), List.mem_of_getElem? (i := 856) (by decide +kernel), List.mem_of_getElem? (i := 857) (by decide +kernel)⟩
def lw_privs_2 : List (MethodName × Nat) := [(⟨"RadixPages$Tree", "firstNotAhead", "(LRadixPages$Tape;)LRadixPages$Node;"⟩, 8), (⟨"RadixPages", "freePages", "()I"⟩, 6), (⟨"RadixPages$Store", "markPagesOf", "(LRadixPages$Tree;)V"⟩, 4), (⟨"RadixPages$Store", "freeAllPages", "()V"⟩, 4), (⟨"RadixPages$Store", "takePage", "(I)Z"⟩, 4), (⟨"RadixPages$Store", "saveNode", "(LRadixPages$Node;)Z"⟩, 4), (⟨"RadixPages$Store", "takeLeastPage", "()I"⟩, 4), (⟨"RadixPages$Store", "rightSequence", "(I)I"⟩, 4), (⟨"RadixPages$Store", "loadBy", "(ILRadixPages$Tree;)Z"⟩, 4), (⟨"RadixPages$Store", "loadNode", "(LRadixPages$Node;LRadixPages$Tree;)Z"⟩, 4), (⟨"RadixPages$Store", "hangListed", "(LRadixPages$Node;LRadixPages$Tree;I)Z"⟩, 4), (⟨"RadixPages$Store", "hangBehind", "(LRadixPages$Node;LRadixPages$Node;LRadixPages$Node;II)Z"⟩, 4), (⟨"RadixPages$Store", "hangMapped", "(LRadixPages$Node;LRadixPages$Tree;)Z"⟩, 4), (⟨"java/lang/Throwable", "fillInStackTrace", "(I)Ljava/lang/Throwable;"⟩, 6), (⟨"RadixPagesModel", "clear", "()V"⟩, 27), (⟨"RadixPagesModel", "newNode", "(II)I"⟩, 27)]
theorem lw_r2 : ∀ q ∈ lw_privs_2, lw_okq q := List.forall_mem_cons.mpr ⟨lw_p16, List.forall_mem_cons.mpr ⟨lw_p17, List.forall_mem_cons.mpr ⟨lw_p18, List.forall_mem_cons.mpr ⟨lw_p19, List.forall_mem_cons.mpr ⟨lw_p20, List.forall_mem_cons.mpr ⟨lw_p21, List.forall_mem_cons.mpr ⟨lw_p22, List.forall_mem_cons.mpr ⟨lw_p23, List.forall_mem_cons.mpr ⟨lw_p24, List.forall_mem_cons.mpr ⟨lw_p25, List.forall_mem_cons.mpr ⟨lw_p26, List.forall_mem_cons.mpr ⟨lw_p27, List.forall_mem_cons.mpr ⟨lw_p28, List.forall_mem_cons.mpr ⟨lw_p29, List.forall_mem_cons.mpr ⟨lw_p30, List.forall_mem_cons.mpr ⟨lw_p31, fun _ h => absurd h List.not_mem_nil⟩⟩⟩⟩⟩⟩⟩⟩⟩⟩⟩⟩⟩⟩⟩⟩
theorem lw_p32 : lw_okq (⟨"RadixPagesModel", "keep", "()V"⟩, 27) := ⟨⟨by decide +kernel, by decide +kernel⟩, List.mem_of_getElem? (i := 845) (by decide +kernel), List.mem_of_getElem? (i := 860) (by decide +kernel), List.mem_of_getElem? (i := 861) (by decide +kernel)⟩
theorem lw_p33 : lw_okq (⟨"RadixPagesModel", "copy", "(II)V"⟩, 27) := ⟨⟨by decide +kernel, by decide +kernel⟩, List.mem_of_getElem? (i := 845) (by decide +kernel), List.mem_of_getElem? (i := 864) (by decide +kernel), List.mem_of_getElem? (i := 865) (by decide +kernel)⟩
theorem lw_p34 : lw_okq (⟨"RadixPagesModel", "isKey", "()Z"⟩, 27) := ⟨⟨by decide +kernel, by decide +kernel⟩, List.mem_of_getElem? (i := 845) (by decide +kernel), List.mem_of_getElem? (i := 976) (by decide +kernel), List.mem_of_getElem? (i := 977) (by decide +kernel)⟩
theorem lw_p35 : lw_okq (⟨"RadixPagesModel", "isFound", "()Z"⟩, 27) := ⟨⟨by decide +kernel, by decide +kernel⟩, List.mem_of_getElem? (i := 845) (by decide +kernel), List.mem_of_getElem? (i := 981) (by decide +kernel), List.mem_of_getElem? (i := 982) (by decide +kernel)⟩
theorem lw_p36 : lw_okq (⟨"RadixPagesModel", "seek", "()V"⟩, 27) := ⟨⟨by decide +kernel, by decide +kernel⟩, List.mem_of_getElem? (i := 845) (by decide +kernel), List.mem_of_getElem? (i := 985) (by decide +kernel), List.mem_of_getElem? (i := 986) (by decide +kernel)⟩
theorem lw_p37 : lw_okq (⟨"RadixPagesModel", "child", "(II)I"⟩, 27) := ⟨⟨by decide +kernel, by decide +kernel⟩, List.mem_of_getElem? (i := 845) (by decide +kernel), List.mem_of_getElem? (i := 989) (by decide +kernel), List.mem_of_getElem? (i := 990) (by decide +kernel)⟩
theorem lw_p38 : lw_okq (⟨"RadixPagesModel", "childFrom", "(II)I"⟩, 27) := ⟨⟨by decide +kernel, by decide +kernel⟩, List.mem_of_getElem? (i := 845) (by decide +kernel), List.mem_of_getElem? (i := 993) (by decide +kernel), List.mem_of_getElem? (i := 994) (by decide +kernel)⟩
theorem lw_p39 : lw_okq (⟨"RadixPagesModel", "freshen", "(I)V"⟩, 27) := ⟨⟨by decide +kernel, by decide +kernel⟩, List.mem_of_getElem? (i := 845) (by decide +kernel), List.mem_of_getElem? (i := 997) (by decide +kernel), List.mem_of_getElem? (i := 998) (by decide +kernel)⟩
theorem lw_p40 : lw_okq (⟨"RadixPagesModel", "children", "(I)I"⟩, 27) := ⟨⟨by decide +kernel, by decide +kernel⟩, List.mem_of_getElem? (i := 845) (by decide +kernel), List.mem_of_getElem? (i := 1001) (by decide +kernel), List.mem_of_getElem? (i := 1002) (by decide +kernel)⟩
theorem lw_p41 : lw_okq (⟨"RadixPagesModel", "setPrefix", "(II)V"⟩, 27) := ⟨⟨by decide +kernel, by decide +kernel⟩, List.mem_of_getElem? (i := 845) (by decide +kernel), List.mem_of_getElem? (i := 1005) (by decide +kernel), List.mem_of_getElem? (i := 1006) (by decide +kernel)⟩
theorem lw_p42 : lw_okq (⟨"RadixPagesModel", "give", "(IJ)V"⟩, 27) := ⟨⟨by decide +kernel, by decide +kernel⟩, List.mem_of_getElem? (i := 845) (by decide +kernel), List.mem_of_getElem? (i := 1009) (by decide +kernel), List.mem_of_getElem? (i := 1010) (by decide +kernel)⟩
theorem lw_p43 : lw_okq (⟨"RadixPagesModel", "nodes", "()I"⟩, 27) := ⟨⟨by decide +kernel, by decide +kernel⟩, List.mem_of_getElem? (i := 845) (by decide +kernel), List.mem_of_getElem? (i := 1013) (by decide +kernel), List.mem_of_getElem? (i := 1014) (by decide +kernel)⟩
theorem lw_p44 : lw_okq (⟨"RadixPagesModel", "cutInTwo", "()V"⟩, 27) := ⟨⟨by decide +kernel, by decide +kernel⟩, List.mem_of_getElem? (i := 845) (by decide +kernel), List.mem_of_getElem? (i := 1017) (by decide +kernel), List.mem_of_getElem? (i := 1018) (by decide +kernel)⟩
theorem lw_p45 : lw_okq (⟨"RadixPagesModel", "putTogether", "(I)V"⟩, 27) := ⟨⟨by decide +kernel, by decide +kernel⟩, List.mem_of_getElem? (i := 845) (by decide +kernel), List.mem_of_getElem? (i := 1028) (by decide +kernel), List.mem_of_getElem? (i := 1029) (by decide +kernel)⟩
theorem lw_p46 : lw_okq (⟨"RadixPagesModel", "countKeys", "(Z)I"⟩, 27) := ⟨⟨by decide +kernel, by decide +kernel⟩, List.mem_of_getElem? (i := 845) (by decide +kernel), List.mem_of_getElem? (i := 1040) (by decide +kernel), List.mem_of_getElem? (i := 1041) (by decide +kernel)⟩
theorem lw_p47 : lw_okq (⟨"RadixPagesModel", "tell", "(I)V"⟩, 27) := ⟨⟨by decide +kernel, by decide +kernel⟩, List.mem_of_getElem? (i := 845) (by decide +kernel), List.mem_of_getElem? (i := 1044) (by decide +kernel), List.mem_of_getElem? (i := 1045) (by decide +kernel)⟩
def lw_privs_3 : List (MethodName × Nat) := [(⟨"RadixPagesModel", "keep", "()V"⟩, 27), (⟨"RadixPagesModel", "copy", "(II)V"⟩, 27), (⟨"RadixPagesModel", "isKey", "()Z"⟩, 27), (⟨"RadixPagesModel", "isFound", "()Z"⟩, 27), (⟨"RadixPagesModel", "seek", "()V"⟩, 27), (⟨"RadixPagesModel", "child", "(II)I"⟩, 27), (⟨"RadixPagesModel", "childFrom", "(II)I"⟩, 27), (⟨"RadixPagesModel", "freshen", "(I)V"⟩, 27), (⟨"RadixPagesModel", "children", "(I)I"⟩, 27), (⟨"RadixPagesModel", "setPrefix", "(II)V"⟩, 27), (⟨"RadixPagesModel", "give", "(IJ)V"⟩, 27), (⟨"RadixPagesModel", "nodes", "()I"⟩, 27), (⟨"RadixPagesModel", "cutInTwo", "()V"⟩, 27), (⟨"RadixPagesModel", "putTogether", "(I)V"⟩, 27), (⟨"RadixPagesModel", "countKeys", "(Z)I"⟩, 27), (⟨"RadixPagesModel", "tell", "(I)V"⟩, 27)]
theorem lw_r3 : ∀ q ∈ lw_privs_3, lw_okq q := List.forall_mem_cons.mpr ⟨lw_p32, List.forall_mem_cons.mpr ⟨lw_p33, List.forall_mem_cons.mpr ⟨lw_p34, List.forall_mem_cons.mpr ⟨lw_p35, List.forall_mem_cons.mpr ⟨lw_p36, List.forall_mem_cons.mpr ⟨lw_p37, List.forall_mem_cons.mpr ⟨lw_p38, List.forall_mem_cons.mpr ⟨lw_p39, List.forall_mem_cons.mpr ⟨lw_p40, List.forall_mem_cons.mpr ⟨lw_p41, List.forall_mem_cons.mpr ⟨lw_p42, List.forall_mem_cons.mpr ⟨lw_p43, List.forall_mem_cons.mpr ⟨lw_p44, List.forall_mem_cons.mpr ⟨lw_p45, List.forall_mem_cons.mpr ⟨lw_p46, List.forall_mem_cons.mpr ⟨lw_p47, fun _ h => absurd h List.not_mem_nil⟩⟩⟩⟩⟩⟩⟩⟩⟩⟩⟩⟩⟩⟩⟩⟩
theorem lw_p48 : lw_okq (⟨"RadixPagesModel", "lead", "(I)I"⟩, 27) := ⟨⟨by decide +kernel, by decide +kernel⟩, List.mem_of_getElem? (i := 845) (by decide +kernel), List.mem_of_getElem? (i := 1048) (by decide +kernel), List.mem_of_getElem? (i := 1049) (by decide +kernel)⟩
theorem lw_p49 : lw_okq (⟨"RadixPagesModel", "begins", "()Z"⟩, 27) := ⟨⟨by decide +kernel, by decide +kernel⟩, List.mem_of_getElem? (i := 845) (by decide +kernel), List.mem_of_getElem? (i := 1052) (by decide +kernel), List.mem_of_getElem? (i := 1053) (by decide +kernel)⟩
theorem lw_p50 : lw_okq (⟨"RadixPagesModel", "isBefore", "()Z"⟩, 27) := ⟨⟨by decide +kernel, by decide +kernel⟩, List.mem_of_getElem? (i := 845) (by decide +kernel), List.mem_of_getElem? (i := 1056) (by decide +kernel), List.mem_of_getElem? (i := 1057) (by decide +kernel)⟩
theorem lw_p51 : lw_okq (⟨"RadixPagesModel", "next", "(I)I"⟩, 27) := ⟨⟨by decide +kernel, by decide +kernel⟩, List.mem_of_getElem? (i := 845) (by decide +kernel), List.mem_of_getElem? (i := 1060) (by decide +kernel), List.mem_of_getElem? (i := 1061) (by decide +kernel)⟩
theorem lw_p52 : lw_okq (⟨"RadixPagesModel", "keys", "()I"⟩, 27) := ⟨⟨by decide +kernel, by decide +kernel⟩, List.mem_of_getElem? (i := 845) (by decide +kernel), List.mem_of_getElem? (i := 1072) (by decide +kernel), List.mem_of_getElem? (i := 1073) (by decide +kernel)⟩
theorem lw_p53 : lw_okq (⟨"RadixPagesModel", "freshMany", "()I"⟩, 27) := ⟨⟨by decide +kernel, by decide +kernel⟩, List.mem_of_getElem? (i := 845) (by decide +kernel), List.mem_of_getElem? (i := 1080) (by decide +kernel), List.mem_of_getElem? (i := 1081) (by decide +kernel)⟩
theorem lw_p54 : lw_okq (⟨"RadixPagesModel", "findTaken", "()I"⟩, 27) := ⟨⟨by decide +kernel, by decide +kernel⟩, List.mem_of_getElem? (i := 845) (by decide +kernel), List.mem_of_getElem? (i := 1084) (by decide +kernel), List.mem_of_getElem? (i := 1085) (by decide +kernel)⟩
theorem lw_p55 : lw_okq (⟨"RadixPagesModel", "deepest", "(I)I"⟩, 27) := ⟨⟨by decide +kernel, by decide +kernel⟩, List.mem_of_getElem? (i := 845) (by decide +kernel), List.mem_of_getElem? (i := 1088) (by decide +kernel), List.mem_of_getElem? (i := 1089) (by decide +kernel)⟩
theorem lw_p56 : lw_okq (⟨"RadixPagesModel", "writeNode", "(I)Z"⟩, 27) := ⟨⟨by decide +kernel, by decide +kernel⟩, List.mem_of_getElem? (i := 845) (by decide +kernel), List.mem_of_getElem? (i := 1092) (by decide +kernel), List.mem_of_getElem? (i := 1093) (by decide +kernel)⟩
theorem lw_p57 : lw_okq (⟨"RadixPagesModel", "beginSheet", "()V"⟩, 27) := ⟨⟨by decide +kernel, by decide +kernel⟩, List.mem_of_getElem? (i := 845) (by decide +kernel), List.mem_of_getElem? (i := 1096) (by decide +kernel), List.mem_of_getElem? (i := 1097) (by decide +kernel)⟩
theorem lw_p58 : lw_okq (⟨"RadixPagesModel", "number", "(IIJ)V"⟩, 27) := ⟨⟨by decide +kernel, by decide +kernel⟩, List.mem_of_getElem? (i := 845) (by decide +kernel), List.mem_of_getElem? (i := 1100) (by decide +kernel), List.mem_of_getElem? (i := 1101) (by decide +kernel)⟩
theorem lw_p59 : lw_okq (⟨"RadixPagesModel", "write", "(I)Z"⟩, 27) := ⟨⟨by decide +kernel, by decide +kernel⟩, List.mem_of_getElem? (i := 845) (by decide +kernel), List.mem_of_getElem? (i := 1104) (by decide +kernel), List.mem_of_getElem? (i := 1105) (by decide +kernel)⟩
theorem lw_p60 : lw_okq (⟨"RadixPagesModel", "depth", "()I"⟩, 27) := ⟨⟨by decide +kernel, by decide +kernel⟩, List.mem_of_getElem? (i := 845) (by decide +kernel), List.mem_of_getElem? (i := 1121) (by decide +kernel), List.mem_of_getElem? (i := 1122) (by decide +kernel)⟩
theorem lw_p61 : lw_okq (⟨"RadixPagesModel", "ofNode", "(II)I"⟩, 27) := ⟨⟨by decide +kernel, by decide +kernel⟩, List.mem_of_getElem? (i := 845) (by decide +kernel), List.mem_of_getElem? (i := 1130) (by decide +kernel), List.mem_of_getElem? (i := 1131) (by decide +kernel)⟩
theorem lw_p62 : lw_okq (⟨"RadixPagesModel", "headOf", "(I)J"⟩, 27) := ⟨⟨by decide +kernel, by decide +kernel⟩, List.mem_of_getElem? (i := 845) (by decide +kernel), List.mem_of_getElem? (i := 1149) (by decide +kernel), List.mem_of_getElem? (i := 1150) (by decide +kernel)⟩
theorem lw_p63 : lw_okq (⟨"RadixPagesModel", "readTree", "(IJ)Z"⟩, 27) := ⟨⟨by decide +kernel, by decide +kernel⟩, List.mem_of_getElem? (i := 845) (by decide +kernel), List.mem_of_getElem? (i := 1157) (by decide +kernel), List.mem_of_getElem? (i := 1158) (by decide +kernel)⟩
def lw_privs_4 : List (MethodName × Nat) := [(⟨"RadixPagesModel", "lead", "(I)I"⟩, 27), (⟨"RadixPagesModel", "begins", "()Z"⟩, 27), (⟨"RadixPagesModel", "isBefore", "()Z"⟩, 27), (⟨"RadixPagesModel", "next", "(I)I"⟩, 27), (⟨"RadixPagesModel", "keys", "()I"⟩, 27), (⟨"RadixPagesModel", "freshMany", "()I"⟩, 27), (⟨"RadixPagesModel", "findTaken", "()I"⟩, 27), (⟨"RadixPagesModel", "deepest", "(I)I"⟩, 27), (⟨"RadixPagesModel", "writeNode", "(I)Z"⟩, 27), (⟨"RadixPagesModel", "beginSheet", "()V"⟩, 27), (⟨"RadixPagesModel", "number", "(IIJ)V"⟩, 27), (⟨"RadixPagesModel", "write", "(I)Z"⟩, 27), (⟨"RadixPagesModel", "depth", "()I"⟩, 27), (⟨"RadixPagesModel", "ofNode", "(II)I"⟩, 27), (⟨"RadixPagesModel", "headOf", "(I)J"⟩, 27), (⟨"RadixPagesModel", "readTree", "(IJ)Z"⟩, 27)]
theorem lw_r4 : ∀ q ∈ lw_privs_4, lw_okq q := List.forall_mem_cons.mpr ⟨lw_p48, List.forall_mem_cons.mpr ⟨lw_p49, List.forall_mem_cons.mpr ⟨lw_p50, List.forall_mem_cons.mpr ⟨lw_p51, List.forall_mem_cons.mpr ⟨lw_p52, List.forall_mem_cons.mpr ⟨lw_p53, List.forall_mem_cons.mpr ⟨lw_p54, List.forall_mem_cons.mpr ⟨lw_p55, List.forall_mem_cons.mpr ⟨lw_p56, List.forall_mem_cons.mpr ⟨lw_p57, List.forall_mem_cons.mpr ⟨lw_p58, List.forall_mem_cons.mpr ⟨lw_p59, List.forall_mem_cons.mpr ⟨lw_p60, List.forall_mem_cons.mpr ⟨lw_p61, List.forall_mem_cons.mpr ⟨lw_p62, List.forall_mem_cons.mpr ⟨lw_p63, fun _ h => absurd h List.not_mem_nil⟩⟩⟩⟩⟩⟩⟩⟩⟩⟩⟩⟩⟩⟩⟩⟩
theorem lw_p64 : lw_okq (⟨"RadixPagesModel", "readNode", "(I)Z"⟩, 27) := ⟨⟨by decide +kernel, by decide +kernel⟩, List.mem_of_getElem? (i := 845) (by decide +kernel), List.mem_of_getElem? (i := 1161) (by decide +kernel), List.mem_of_getElem? (i := 1162) (by decide +kernel)⟩
theorem lw_p65 : lw_okq (⟨"RadixPagesModel", "readChildren", "(IIII)Z"⟩, 27) := ⟨⟨by decide +kernel, by decide +kernel⟩, List.mem_of_getElem? (i := 845) (by decide +kernel), List.mem_of_getElem? (i := 1166) (by decide +kernel), List.mem_of_getElem? (i := 1167) (by decide +kernel)⟩
def lw_privs_5 : List (MethodName × Nat) := [(⟨"RadixPagesModel", "readNode", "(I)Z"⟩, 27), (⟨"RadixPagesModel", "readChildren", "(IIII)Z"⟩, 27)]
theorem lw_r5 : ∀ q ∈ lw_privs_5, lw_okq q := List.forall_mem_cons.mpr ⟨lw_p64, List.forall_mem_cons.mpr ⟨lw_p65, fun _ h => absurd h List.not_mem_nil⟩⟩
def lw_privs : List (MethodName × Nat) := lw_privs_1 ++ (lw_privs_2 ++ (lw_privs_3 ++ (lw_privs_4 ++ (lw_privs_5))))
def lw_tbl : List Cond := k2_sels lw_privs ++ tables_1
theorem lw_privs_ok : ∀ q ∈ lw_privs, lw_okq q := by
  show ∀ q ∈ lw_privs_1 ++ (lw_privs_2 ++ (lw_privs_3 ++ (lw_privs_4 ++ (lw_privs_5)))), lw_okq q
  exact List.forall_mem_append.mpr ⟨lw_r1, List.forall_mem_append.mpr ⟨lw_r2, List.forall_mem_append.mpr ⟨lw_r3, List.forall_mem_append.mpr ⟨lw_r4, lw_r5⟩⟩⟩⟩
def RX0 : String := "RadixPages$Disk"
def TX0 : u_T := fun k => match k with
  | 0 => ("RadixPages$Disk", "bytes", "[B", true)
  | 1 => ("RadixPages$Disk", "writesLeft", "I", false)
  | _ => ("RadixPages$Disk", "tear", "I", false)
def tyX0 : Nat → FieldType := fun k => match k with
  | 0 => .array .byte
  | 1 => .int
  | _ => .int
abbrev wsX00 : List Cond := u_ws RX0 TX0 3
theorem nmX0 : ∀ a, a < 3 → ∀ b, b < 3 → a ≠ b → (TX0 a).2.1 ≠ (TX0 b).2.1 := by decide +kernel
theorem tyX0_ok : ∀ k, k < 3 → parseFieldDescriptor (TX0 k).2.2.1 = some (tyX0 k) := by decide +kernel
abbrev cX0_init : ByteArray := prog_2_method_1_code
def yX0_init : MethodName := ⟨RX0, "<init>", "()V"⟩
abbrev cX0_has : ByteArray := prog_2_method_2_code
def yX0_has : MethodName := ⟨RX0, "has", "(II)Z"⟩
abbrev cX0_byteAt : ByteArray := prog_2_method_3_code
def yX0_byteAt : MethodName := ⟨RX0, "byteAt", "(II)I"⟩
abbrev cX0_setByte : ByteArray := prog_2_method_4_code
def yX0_setByte : MethodName := ⟨RX0, "setByte", "(III)V"⟩
abbrev cX0_setPower : ByteArray := prog_2_method_5_code
def yX0_setPower : MethodName := ⟨RX0, "setPower", "(II)V"⟩
abbrev cX0_read : ByteArray := prog_2_method_6_code
def yX0_read : MethodName := ⟨RX0, "read", "(ILRadixPages$Row;)V"⟩
abbrev cX0_write : ByteArray := prog_2_method_7_code
def yX0_write : MethodName := ⟨RX0, "write", "(ILRadixPages$Row;)Z"⟩
def RX1 : String := "RadixPages$Format"
def TX1 : u_T := fun k => match k with
  | _ => ("", "", "", false)
def tyX1 : Nat → FieldType := fun k => match k with
  | _ => .int
abbrev wsX10 : List Cond := u_ws RX1 TX1 0
theorem nmX1 : ∀ a, a < 0 → ∀ b, b < 0 → a ≠ b → (TX1 a).2.1 ≠ (TX1 b).2.1 := by decide +kernel
theorem tyX1_ok : ∀ k, k < 0 → parseFieldDescriptor (TX1 k).2.2.1 = some (tyX1 k) := by decide +kernel
abbrev cX1_is : ByteArray := prog_3_method_2_code
def yX1_is : MethodName := ⟨RX1, "is", "(I)Z"⟩
abbrev cX1_mostChildren : ByteArray := prog_3_method_3_code
def yX1_mostChildren : MethodName := ⟨RX1, "mostChildren", "(I)I"⟩
abbrev cX1_grown : ByteArray := prog_3_method_4_code
def yX1_grown : MethodName := ⟨RX1, "grown", "(II)I"⟩
abbrev cX1_shrunk : ByteArray := prog_3_method_5_code
def yX1_shrunk : MethodName := ⟨RX1, "shrunk", "(II)I"⟩
def RX2 : String := "RadixPages$HeadPage"
def TX2 : u_T := fun k => match k with
  | _ => ("", "", "", false)
def tyX2 : Nat → FieldType := fun k => match k with
  | _ => .int
abbrev wsX20 : List Cond := u_ws RX2 TX2 0
theorem nmX2 : ∀ a, a < 0 → ∀ b, b < 0 → a ≠ b → (TX2 a).2.1 ≠ (TX2 b).2.1 := by decide +kernel
theorem tyX2_ok : ∀ k, k < 0 → parseFieldDescriptor (TX2 k).2.2.1 = some (tyX2 k) := by decide +kernel
abbrev cX2_fill : ByteArray := prog_4_method_2_code
def yX2_fill : MethodName := ⟨RX2, "fill", "(LRadixPages$Row;JII)V"⟩
abbrev cX2_sequence : ByteArray := prog_4_method_3_code
def yX2_sequence : MethodName := ⟨RX2, "sequence", "(LRadixPages$Row;)J"⟩
abbrev cX2_rootPage : ByteArray := prog_4_method_4_code
def yX2_rootPage : MethodName := ⟨RX2, "rootPage", "(LRadixPages$Row;)I"⟩
abbrev cX2_keys : ByteArray := prog_4_method_5_code
def yX2_keys : MethodName := ⟨RX2, "keys", "(LRadixPages$Row;)I"⟩
def RX3 : String := "RadixPages$Node"
def TX3 : u_T := fun k => match k with
  | 0 => ("RadixPages$Node", "prefix", "[I", true)
  | 1 => ("RadixPages$Node", "prefixLength", "I", false)
  | 2 => ("RadixPages$Node", "format", "I", false)
  | 3 => ("RadixPages$Node", "hasValue", "Z", false)
  | 4 => ("RadixPages$Node", "value", "J", false)
  | 5 => ("RadixPages$Node", "children", "I", false)
  | 6 => ("RadixPages$Node", "edge", "I", false)
  | 7 => ("RadixPages$Node", "page", "I", false)
  | 8 => ("RadixPages$Node", "fresh", "Z", false)
  | 9 => ("RadixPages$Node", "parent", "LRadixPages$Node;", false)
  | 10 => ("RadixPages$Node", "first", "LRadixPages$Node;", false)
  | 11 => ("RadixPages$Node", "next", "LRadixPages$Node;", false)
  | _ => ("RadixPages$Node", "twin", "LRadixPages$Node;", false)
def tyX3 : Nat → FieldType := fun k => match k with
  | 0 => .array .int
  | 1 => .int
  | 2 => .int
  | 3 => .boolean
  | 4 => .long
  | 5 => .int
  | 6 => .int
  | 7 => .int
  | 8 => .boolean
  | 9 => .object "RadixPages$Node"
  | 10 => .object "RadixPages$Node"
  | 11 => .object "RadixPages$Node"
  | _ => .object "RadixPages$Node"
abbrev wsX30 : List Cond := u_ws RX3 TX3 13
theorem nmX3 : ∀ a, a < 13 → ∀ b, b < 13 → a ≠ b → (TX3 a).2.1 ≠ (TX3 b).2.1 := by decide +kernel
theorem tyX3_ok : ∀ k, k < 13 → parseFieldDescriptor (TX3 k).2.2.1 = some (tyX3 k) := by decide +kernel
abbrev cX3_init : ByteArray := prog_5_method_1_code
def yX3_init : MethodName := ⟨RX3, "<init>", "()V"⟩
abbrev cX3_reset : ByteArray := prog_5_method_2_code
def yX3_reset : MethodName := ⟨RX3, "reset", "()V"⟩
abbrev cX3_prefixAt : ByteArray := prog_5_method_3_code
def yX3_prefixAt : MethodName := ⟨RX3, "prefixAt", "(I)I"⟩
abbrev cX3_setPrefixAt : ByteArray := prog_5_method_4_code
def yX3_setPrefixAt : MethodName := ⟨RX3, "setPrefixAt", "(II)V"⟩
abbrev cX3_appendToPrefix : ByteArray := prog_5_method_5_code
def yX3_appendToPrefix : MethodName := ⟨RX3, "appendToPrefix", "(I)V"⟩
abbrev cX3_dropFromPrefix : ByteArray := prog_5_method_6_code
def yX3_dropFromPrefix : MethodName := ⟨RX3, "dropFromPrefix", "(I)V"⟩
abbrev cX3_takePrefixOfParent : ByteArray := prog_5_method_7_code
def yX3_takePrefixOfParent : MethodName := ⟨RX3, "takePrefixOfParent", "(LRadixPages$Node;)V"⟩
abbrev cX3_matching : ByteArray := prog_5_method_8_code
def yX3_matching : MethodName := ⟨RX3, "matching", "(LRadixPages$Tape;I)I"⟩
abbrev cX3_setValue : ByteArray := prog_5_method_9_code
def yX3_setValue : MethodName := ⟨RX3, "setValue", "(J)V"⟩
abbrev cX3_loseValue : ByteArray := prog_5_method_10_code
def yX3_loseValue : MethodName := ⟨RX3, "loseValue", "()V"⟩
abbrev cX3_lastBelow : ByteArray := prog_5_method_11_code
def yX3_lastBelow : MethodName := ⟨RX3, "lastBelow", "(I)LRadixPages$Node;"⟩
abbrev cX3_firstFrom : ByteArray := prog_5_method_12_code
def yX3_firstFrom : MethodName := ⟨RX3, "firstFrom", "(I)LRadixPages$Node;"⟩
abbrev cX3_childBy : ByteArray := prog_5_method_13_code
def yX3_childBy : MethodName := ⟨RX3, "childBy", "(I)LRadixPages$Node;"⟩
abbrev cX3_setNextOf : ByteArray := prog_5_method_14_code
def yX3_setNextOf : MethodName := ⟨RX3, "setNextOf", "(LRadixPages$Node;LRadixPages$Node;)V"⟩
abbrev cX3_gain : ByteArray := prog_5_method_15_code
def yX3_gain : MethodName := ⟨RX3, "gain", "(LRadixPages$Node;)V"⟩
abbrev cX3_lose : ByteArray := prog_5_method_16_code
def yX3_lose : MethodName := ⟨RX3, "lose", "(LRadixPages$Node;)V"⟩
abbrev cX3_yieldTo : ByteArray := prog_5_method_17_code
def yX3_yieldTo : MethodName := ⟨RX3, "yieldTo", "(LRadixPages$Node;)V"⟩
abbrev cX3_freshen : ByteArray := prog_5_method_18_code
def yX3_freshen : MethodName := ⟨RX3, "freshen", "()V"⟩
abbrev cX3_following : ByteArray := prog_5_method_19_code
def yX3_following : MethodName := ⟨RX3, "following", "()LRadixPages$Node;"⟩
abbrev cX3_behind : ByteArray := prog_5_method_20_code
def yX3_behind : MethodName := ⟨RX3, "behind", "()LRadixPages$Node;"⟩
abbrev cX3_lowest : ByteArray := prog_5_method_21_code
def yX3_lowest : MethodName := ⟨RX3, "lowest", "()LRadixPages$Node;"⟩
abbrev cX3_above : ByteArray := prog_5_method_22_code
def yX3_above : MethodName := ⟨RX3, "above", "()LRadixPages$Node;"⟩
abbrev cX3_lead : ByteArray := prog_5_method_23_code
def yX3_lead : MethodName := ⟨RX3, "lead", "()I"⟩
abbrev cX3_level : ByteArray := prog_5_method_24_code
def yX3_level : MethodName := ⟨RX3, "level", "()I"⟩
abbrev cX3_spell : ByteArray := prog_5_method_25_code
def yX3_spell : MethodName := ⟨RX3, "spell", "(LRadixPages$Tape;)V"⟩
abbrev cX3_hasReason : ByteArray := prog_5_method_26_code
def yX3_hasReason : MethodName := ⟨RX3, "hasReason", "()Z"⟩
abbrev cX3_twinOf : ByteArray := prog_5_method_27_code
def yX3_twinOf : MethodName := ⟨RX3, "twinOf", "(LRadixPages$Node;)LRadixPages$Node;"⟩
abbrev cX3_mirror : ByteArray := prog_5_method_28_code
def yX3_mirror : MethodName := ⟨RX3, "mirror", "(LRadixPages$Node;)V"⟩
def RX4 : String := "RadixPages$NodePage"
def TX4 : u_T := fun k => match k with
  | _ => ("", "", "", false)
def tyX4 : Nat → FieldType := fun k => match k with
  | _ => .int
abbrev wsX40 : List Cond := u_ws RX4 TX4 0
theorem nmX4 : ∀ a, a < 0 → ∀ b, b < 0 → a ≠ b → (TX4 a).2.1 ≠ (TX4 b).2.1 := by decide +kernel
theorem tyX4_ok : ∀ k, k < 0 → parseFieldDescriptor (TX4 k).2.2.1 = some (tyX4 k) := by decide +kernel
abbrev cX4_fill : ByteArray := prog_6_method_2_code
def yX4_fill : MethodName := ⟨RX4, "fill", "(LRadixPages$Row;LRadixPages$Node;)V"⟩
abbrev cX4_fillTable : ByteArray := prog_6_method_3_code
def yX4_fillTable : MethodName := ⟨RX4, "fillTable", "(LRadixPages$Row;LRadixPages$Node;)V"⟩
def RX5 : String := "RadixPages$Row"
def TX5 : u_T := fun k => match k with
  | _ => ("RadixPages$Row", "bytes", "[B", true)
def tyX5 : Nat → FieldType := fun k => match k with
  | _ => .array .byte
abbrev wsX50 : List Cond := u_ws RX5 TX5 1
theorem nmX5 : ∀ a, a < 1 → ∀ b, b < 1 → a ≠ b → (TX5 a).2.1 ≠ (TX5 b).2.1 := by decide +kernel
theorem tyX5_ok : ∀ k, k < 1 → parseFieldDescriptor (TX5 k).2.2.1 = some (tyX5 k) := by decide +kernel
abbrev cX5_init : ByteArray := prog_7_method_1_code
def yX5_init : MethodName := ⟨RX5, "<init>", "()V"⟩
abbrev cX5_at : ByteArray := prog_7_method_2_code
def yX5_at : MethodName := ⟨RX5, "at", "(I)I"⟩
abbrev cX5_set : ByteArray := prog_7_method_3_code
def yX5_set : MethodName := ⟨RX5, "set", "(II)V"⟩
abbrev cX5_longAt : ByteArray := prog_7_method_4_code
def yX5_longAt : MethodName := ⟨RX5, "longAt", "(I)J"⟩
abbrev cX5_setLong : ByteArray := prog_7_method_5_code
def yX5_setLong : MethodName := ⟨RX5, "setLong", "(IJ)V"⟩
abbrev cX5_wipe : ByteArray := prog_7_method_6_code
def yX5_wipe : MethodName := ⟨RX5, "wipe", "()V"⟩
abbrev cX5_seal : ByteArray := prog_7_method_7_code
def yX5_seal : MethodName := ⟨RX5, "seal", "()V"⟩
abbrev cX5_same : ByteArray := prog_7_method_8_code
def yX5_same : MethodName := ⟨RX5, "same", "(LRadixPages$Row;)Z"⟩
def RX6 : String := "RadixPages$Store"
def TX6 : u_T := fun k => match k with
  | 0 => ("RadixPages$Store", "disk", "LRadixPages$Disk;", true)
  | 1 => ("RadixPages$Store", "row", "LRadixPages$Row;", true)
  | 2 => ("RadixPages$Store", "again", "LRadixPages$Row;", true)
  | _ => ("RadixPages$Store", "taken", "[Z", true)
def tyX6 : Nat → FieldType := fun k => match k with
  | 0 => .object "RadixPages$Disk"
  | 1 => .object "RadixPages$Row"
  | 2 => .object "RadixPages$Row"
  | _ => .array .boolean
abbrev wsX60 : List Cond := u_ws RX6 TX6 4
theorem nmX6 : ∀ a, a < 4 → ∀ b, b < 4 → a ≠ b → (TX6 a).2.1 ≠ (TX6 b).2.1 := by decide +kernel
theorem tyX6_ok : ∀ k, k < 4 → parseFieldDescriptor (TX6 k).2.2.1 = some (tyX6 k) := by decide +kernel
abbrev cX6_init : ByteArray := prog_8_method_1_code
def yX6_init : MethodName := ⟨RX6, "<init>", "()V"⟩
abbrev cX6_save : ByteArray := prog_8_method_2_code
def yX6_save : MethodName := ⟨RX6, "save", "(LRadixPages$Tree;LRadixPages$Tree;I)Z"⟩
abbrev cX6_saveNode : ByteArray := prog_8_method_3_code
def yX6_saveNode : MethodName := ⟨RX6, "saveNode", "(LRadixPages$Node;)Z"⟩
abbrev cX6_freeAllPages : ByteArray := prog_8_method_4_code
def yX6_freeAllPages : MethodName := ⟨RX6, "freeAllPages", "()V"⟩
abbrev cX6_markPagesOf : ByteArray := prog_8_method_5_code
def yX6_markPagesOf : MethodName := ⟨RX6, "markPagesOf", "(LRadixPages$Tree;)V"⟩
abbrev cX6_takePage : ByteArray := prog_8_method_6_code
def yX6_takePage : MethodName := ⟨RX6, "takePage", "(I)Z"⟩
abbrev cX6_takeLeastPage : ByteArray := prog_8_method_7_code
def yX6_takeLeastPage : MethodName := ⟨RX6, "takeLeastPage", "()I"⟩
abbrev cX6_load : ByteArray := prog_8_method_8_code
def yX6_load : MethodName := ⟨RX6, "load", "(LRadixPages$Tree;)I"⟩
abbrev cX6_rightSequence : ByteArray := prog_8_method_9_code
def yX6_rightSequence : MethodName := ⟨RX6, "rightSequence", "(I)I"⟩
abbrev cX6_loadBy : ByteArray := prog_8_method_10_code
def yX6_loadBy : MethodName := ⟨RX6, "loadBy", "(ILRadixPages$Tree;)Z"⟩
abbrev cX6_loadNode : ByteArray := prog_8_method_11_code
def yX6_loadNode : MethodName := ⟨RX6, "loadNode", "(LRadixPages$Node;LRadixPages$Tree;)Z"⟩
abbrev cX6_hangListed : ByteArray := prog_8_method_12_code
def yX6_hangListed : MethodName := ⟨RX6, "hangListed", "(LRadixPages$Node;LRadixPages$Tree;I)Z"⟩
abbrev cX6_hangMapped : ByteArray := prog_8_method_13_code
def yX6_hangMapped : MethodName := ⟨RX6, "hangMapped", "(LRadixPages$Node;LRadixPages$Tree;)Z"⟩
abbrev cX6_hangBehind : ByteArray := prog_8_method_14_code
def yX6_hangBehind : MethodName := ⟨RX6, "hangBehind", "(LRadixPages$Node;LRadixPages$Node;LRadixPages$Node;II)Z"⟩
def RX7 : String := "RadixPages$Tape"
def TX7 : u_T := fun k => match k with
  | 0 => ("RadixPages$Tape", "bytes", "[I", true)
  | _ => ("RadixPages$Tape", "length", "I", false)
def tyX7 : Nat → FieldType := fun k => match k with
  | 0 => .array .int
  | _ => .int
abbrev wsX70 : List Cond := u_ws RX7 TX7 2
theorem nmX7 : ∀ a, a < 2 → ∀ b, b < 2 → a ≠ b → (TX7 a).2.1 ≠ (TX7 b).2.1 := by decide +kernel
theorem tyX7_ok : ∀ k, k < 2 → parseFieldDescriptor (TX7 k).2.2.1 = some (tyX7 k) := by decide +kernel
abbrev cX7_init : ByteArray := prog_9_method_1_code
def yX7_init : MethodName := ⟨RX7, "<init>", "()V"⟩
abbrev cX7_isKey : ByteArray := prog_9_method_2_code
def yX7_isKey : MethodName := ⟨RX7, "isKey", "()Z"⟩
abbrev cX7_byteAt : ByteArray := prog_9_method_3_code
def yX7_byteAt : MethodName := ⟨RX7, "byteAt", "(I)I"⟩
abbrev cX7_setByte : ByteArray := prog_9_method_4_code
def yX7_setByte : MethodName := ⟨RX7, "setByte", "(II)V"⟩
abbrev cX7_append : ByteArray := prog_9_method_5_code
def yX7_append : MethodName := ⟨RX7, "append", "(I)V"⟩
def RX8 : String := "RadixPages$Tree"
def TX8 : u_T := fun k => match k with
  | 0 => ("RadixPages$Tree", "stock", "[LRadixPages$Node;", true)
  | 1 => ("RadixPages$Tree", "spare", "LRadixPages$Node;", false)
  | 2 => ("RadixPages$Tree", "root", "LRadixPages$Node;", false)
  | 3 => ("RadixPages$Tree", "nodes", "I", false)
  | 4 => ("RadixPages$Tree", "keys", "I", false)
  | 5 => ("RadixPages$Tree", "spot", "LRadixPages$Node;", false)
  | 6 => ("RadixPages$Tree", "matched", "I", false)
  | _ => ("RadixPages$Tree", "used", "I", false)
def tyX8 : Nat → FieldType := fun k => match k with
  | 0 => .array (.object "RadixPages$Node")
  | 1 => .object "RadixPages$Node"
  | 2 => .object "RadixPages$Node"
  | 3 => .int
  | 4 => .int
  | 5 => .object "RadixPages$Node"
  | 6 => .int
  | _ => .int
abbrev wsX80 : List Cond := u_ws RX8 TX8 8
theorem nmX8 : ∀ a, a < 8 → ∀ b, b < 8 → a ≠ b → (TX8 a).2.1 ≠ (TX8 b).2.1 := by decide +kernel
theorem tyX8_ok : ∀ k, k < 8 → parseFieldDescriptor (TX8 k).2.2.1 = some (tyX8 k) := by decide +kernel
abbrev cX8_init : ByteArray := prog_10_method_1_code
def yX8_init : MethodName := ⟨RX8, "<init>", "()V"⟩
abbrev cX8_clear : ByteArray := prog_10_method_2_code
def yX8_clear : MethodName := ⟨RX8, "clear", "()V"⟩
abbrev cX8_take : ByteArray := prog_10_method_3_code
def yX8_take : MethodName := ⟨RX8, "take", "()LRadixPages$Node;"⟩
abbrev cX8_release : ByteArray := prog_10_method_4_code
def yX8_release : MethodName := ⟨RX8, "release", "(LRadixPages$Node;)V"⟩
abbrev cX8_seek : ByteArray := prog_10_method_5_code
def yX8_seek : MethodName := ⟨RX8, "seek", "(LRadixPages$Tape;)V"⟩
abbrev cX8_stepFrom : ByteArray := prog_10_method_6_code
def yX8_stepFrom : MethodName := ⟨RX8, "stepFrom", "(LRadixPages$Node;LRadixPages$Tape;)LRadixPages$Node;"⟩
abbrev cX8_nodeOf : ByteArray := prog_10_method_7_code
def yX8_nodeOf : MethodName := ⟨RX8, "nodeOf", "(LRadixPages$Tape;)LRadixPages$Node;"⟩
abbrev cX8_store : ByteArray := prog_10_method_8_code
def yX8_store : MethodName := ⟨RX8, "store", "(LRadixPages$Tape;J)I"⟩
abbrev cX8_storeFirst : ByteArray := prog_10_method_9_code
def yX8_storeFirst : MethodName := ⟨RX8, "storeFirst", "(LRadixPages$Tape;J)I"⟩
abbrev cX8_storeHere : ByteArray := prog_10_method_10_code
def yX8_storeHere : MethodName := ⟨RX8, "storeHere", "(J)I"⟩
abbrev cX8_storeByChild : ByteArray := prog_10_method_11_code
def yX8_storeByChild : MethodName := ⟨RX8, "storeByChild", "(LRadixPages$Tape;J)I"⟩
abbrev cX8_storeByCut : ByteArray := prog_10_method_12_code
def yX8_storeByCut : MethodName := ⟨RX8, "storeByCut", "(LRadixPages$Tape;J)I"⟩
abbrev cX8_hang : ByteArray := prog_10_method_13_code
def yX8_hang : MethodName := ⟨RX8, "hang", "(LRadixPages$Node;LRadixPages$Node;LRadixPages$Tape;J)V"⟩
abbrev cX8_insertAbove : ByteArray := prog_10_method_14_code
def yX8_insertAbove : MethodName := ⟨RX8, "insertAbove", "(LRadixPages$Node;LRadixPages$Node;)V"⟩
abbrev cX8_putInPlace : ByteArray := prog_10_method_15_code
def yX8_putInPlace : MethodName := ⟨RX8, "putInPlace", "(LRadixPages$Node;LRadixPages$Node;)V"⟩
abbrev cX8_drop : ByteArray := prog_10_method_16_code
def yX8_drop : MethodName := ⟨RX8, "drop", "(LRadixPages$Tape;)I"⟩
abbrev cX8_detach : ByteArray := prog_10_method_17_code
def yX8_detach : MethodName := ⟨RX8, "detach", "(LRadixPages$Node;LRadixPages$Node;)V"⟩
abbrev cX8_join : ByteArray := prog_10_method_18_code
def yX8_join : MethodName := ⟨RX8, "join", "(LRadixPages$Node;)V"⟩
abbrev cX8_keysBetween : ByteArray := prog_10_method_19_code
def yX8_keysBetween : MethodName := ⟨RX8, "keysBetween", "(LRadixPages$Node;LRadixPages$Node;)I"⟩
abbrev cX8_keysUnder : ByteArray := prog_10_method_20_code
def yX8_keysUnder : MethodName := ⟨RX8, "keysUnder", "(LRadixPages$Tape;)I"⟩
abbrev cX8_keysAhead : ByteArray := prog_10_method_21_code
def yX8_keysAhead : MethodName := ⟨RX8, "keysAhead", "(LRadixPages$Tape;)I"⟩
abbrev cX8_firstNotAhead : ByteArray := prog_10_method_22_code
def yX8_firstNotAhead : MethodName := ⟨RX8, "firstNotAhead", "(LRadixPages$Tape;)LRadixPages$Node;"⟩
abbrev cX8_keyNumber : ByteArray := prog_10_method_23_code
def yX8_keyNumber : MethodName := ⟨RX8, "keyNumber", "(I)LRadixPages$Node;"⟩
abbrev cX8_nodeNumber : ByteArray := prog_10_method_24_code
def yX8_nodeNumber : MethodName := ⟨RX8, "nodeNumber", "(I)LRadixPages$Node;"⟩
abbrev cX8_nodesOfFormat : ByteArray := prog_10_method_25_code
def yX8_nodesOfFormat : MethodName := ⟨RX8, "nodesOfFormat", "(I)I"⟩
abbrev cX8_freshNodes : ByteArray := prog_10_method_26_code
def yX8_freshNodes : MethodName := ⟨RX8, "freshNodes", "()I"⟩
abbrev cX8_nodesOnPages : ByteArray := prog_10_method_27_code
def yX8_nodesOnPages : MethodName := ⟨RX8, "nodesOnPages", "()I"⟩
abbrev cX8_depth : ByteArray := prog_10_method_28_code
def yX8_depth : MethodName := ⟨RX8, "depth", "()I"⟩
abbrev cX8_settle : ByteArray := prog_10_method_29_code
def yX8_settle : MethodName := ⟨RX8, "settle", "()V"⟩
abbrev cX8_become : ByteArray := prog_10_method_30_code
def yX8_become : MethodName := ⟨RX8, "become", "(LRadixPages$Tree;)V"⟩
def RX9 : String := "RadixPages"
def TX9 : u_T := fun k => match k with
  | 0 => ("RadixPages", "tape", "LRadixPages$Tape;", true)
  | 1 => ("RadixPages", "tree", "LRadixPages$Tree;", true)
  | 2 => ("RadixPages", "committed", "LRadixPages$Tree;", true)
  | 3 => ("RadixPages", "store", "LRadixPages$Store;", true)
  | 4 => ("RadixPages", "sequence", "I", false)
  | _ => ("RadixPages", "down", "Z", false)
def tyX9 : Nat → FieldType := fun k => match k with
  | 0 => .object "RadixPages$Tape"
  | 1 => .object "RadixPages$Tree"
  | 2 => .object "RadixPages$Tree"
  | 3 => .object "RadixPages$Store"
  | 4 => .int
  | _ => .boolean
abbrev wsX90 : List Cond := u_ws RX9 TX9 6
theorem nmX9 : ∀ a, a < 6 → ∀ b, b < 6 → a ≠ b → (TX9 a).2.1 ≠ (TX9 b).2.1 := by decide +kernel
theorem tyX9_ok : ∀ k, k < 6 → parseFieldDescriptor (TX9 k).2.2.1 = some (tyX9 k) := by decide +kernel
abbrev cX9_init : ByteArray := prog_1_method_1_code
def yX9_init : MethodName := ⟨RX9, "<init>", "()V"⟩
abbrev cX9_type : ByteArray := prog_1_method_2_code
def yX9_type : MethodName := ⟨RX9, "type", "(JI)I"⟩
abbrev cX9_cut : ByteArray := prog_1_method_3_code
def yX9_cut : MethodName := ⟨RX9, "cut", "(I)I"⟩
abbrev cX9_tapeAt : ByteArray := prog_1_method_4_code
def yX9_tapeAt : MethodName := ⟨RX9, "tapeAt", "(I)I"⟩
abbrev cX9_put : ByteArray := prog_1_method_5_code
def yX9_put : MethodName := ⟨RX9, "put", "(J)I"⟩
abbrev cX9_remove : ByteArray := prog_1_method_6_code
def yX9_remove : MethodName := ⟨RX9, "remove", "()I"⟩
abbrev cX9_get : ByteArray := prog_1_method_7_code
def yX9_get : MethodName := ⟨RX9, "get", "()J"⟩
abbrev cX9_with : ByteArray := prog_1_method_8_code
def yX9_with : MethodName := ⟨RX9, "with", "()I"⟩
abbrev cX9_before : ByteArray := prog_1_method_9_code
def yX9_before : MethodName := ⟨RX9, "before", "()I"⟩
abbrev cX9_nth : ByteArray := prog_1_method_10_code
def yX9_nth : MethodName := ⟨RX9, "nth", "(I)I"⟩
abbrev cX9_commit : ByteArray := prog_1_method_11_code
def yX9_commit : MethodName := ⟨RX9, "commit", "()I"⟩
abbrev cX9_back : ByteArray := prog_1_method_12_code
def yX9_back : MethodName := ⟨RX9, "back", "()I"⟩
abbrev cX9_count : ByteArray := prog_1_method_13_code
def yX9_count : MethodName := ⟨RX9, "count", "(I)I"⟩
abbrev cX9_node : ByteArray := prog_1_method_14_code
def yX9_node : MethodName := ⟨RX9, "node", "(II)I"⟩
abbrev cX9_power : ByteArray := prog_1_method_15_code
def yX9_power : MethodName := ⟨RX9, "power", "(II)I"⟩
abbrev cX9_start : ByteArray := prog_1_method_16_code
def yX9_start : MethodName := ⟨RX9, "start", "()I"⟩
abbrev cX9_halt : ByteArray := prog_1_method_17_code
def yX9_halt : MethodName := ⟨RX9, "halt", "()I"⟩
abbrev cX9_octet : ByteArray := prog_1_method_18_code
def yX9_octet : MethodName := ⟨RX9, "octet", "(II)I"⟩
abbrev cX9_poke : ByteArray := prog_1_method_19_code
def yX9_poke : MethodName := ⟨RX9, "poke", "(III)I"⟩
abbrev cX9_freePages : ByteArray := prog_1_method_20_code
def yX9_freePages : MethodName := ⟨RX9, "freePages", "()I"⟩
def RX10 : String := "RadixPagesModel"
def TX10 : u_T := fun k => match k with
  | 0 => ("RadixPagesModel", "thrown", "I", false)
  | 1 => ("RadixPagesModel", "tape", "[I", true)
  | 2 => ("RadixPagesModel", "size", "I", false)
  | 3 => ("RadixPagesModel", "down", "Z", false)
  | 4 => ("RadixPagesModel", "used", "[Z", true)
  | 5 => ("RadixPagesModel", "up", "[I", true)
  | 6 => ("RadixPagesModel", "by", "[I", true)
  | 7 => ("RadixPagesModel", "prefix", "[I", true)
  | 8 => ("RadixPagesModel", "wide", "[I", true)
  | 9 => ("RadixPagesModel", "valued", "[Z", true)
  | 10 => ("RadixPagesModel", "value", "[J", true)
  | 11 => ("RadixPagesModel", "format", "[I", true)
  | 12 => ("RadixPagesModel", "page", "[I", true)
  | 13 => ("RadixPagesModel", "fresh", "[Z", true)
  | 14 => ("RadixPagesModel", "root", "I", false)
  | 15 => ("RadixPagesModel", "keptRoot", "I", false)
  | 16 => ("RadixPagesModel", "sequence", "J", false)
  | 17 => ("RadixPagesModel", "disk", "[I", true)
  | 18 => ("RadixPagesModel", "powerAt", "I", false)
  | 19 => ("RadixPagesModel", "tear", "I", false)
  | 20 => ("RadixPagesModel", "atNode", "I", false)
  | 21 => ("RadixPagesModel", "alike", "I", false)
  | 22 => ("RadixPagesModel", "place", "I", false)
  | 23 => ("RadixPagesModel", "row", "[I", true)
  | 24 => ("RadixPagesModel", "rowSize", "I", false)
  | 25 => ("RadixPagesModel", "sheet", "[I", true)
  | _ => ("RadixPagesModel", "taken", "[Z", true)
def tyX10 : Nat → FieldType := fun k => match k with
  | 0 => .int
  | 1 => .array .int
  | 2 => .int
  | 3 => .boolean
  | 4 => .array .boolean
  | 5 => .array .int
  | 6 => .array .int
  | 7 => .array .int
  | 8 => .array .int
  | 9 => .array .boolean
  | 10 => .array .long
  | 11 => .array .int
  | 12 => .array .int
  | 13 => .array .boolean
  | 14 => .int
  | 15 => .int
  | 16 => .long
  | 17 => .array .int
  | 18 => .int
  | 19 => .int
  | 20 => .int
  | 21 => .int
  | 22 => .int
  | 23 => .array .int
  | 24 => .int
  | 25 => .array .int
  | _ => .array .boolean
abbrev wsX100 : List Cond := u_ws RX10 TX10 27
theorem nmX10 : ∀ a, a < 27 → ∀ b, b < 27 → a ≠ b → (TX10 a).2.1 ≠ (TX10 b).2.1 := by decide +kernel
theorem tyX10_ok : ∀ k, k < 27 → parseFieldDescriptor (TX10 k).2.2.1 = some (tyX10 k) := by decide +kernel
abbrev cX10_init : ByteArray := prog_12_method_1_code
def yX10_init : MethodName := ⟨RX10, "<init>", "()V"⟩
abbrev cX10_thrown : ByteArray := prog_12_method_2_code
def yX10_thrown : MethodName := ⟨RX10, "thrown", "()I"⟩
abbrev cX10_in : ByteArray := prog_12_method_3_code
def yX10_in : MethodName := ⟨RX10, "in", "(JJJ)Z"⟩
abbrev cX10_clear : ByteArray := prog_12_method_4_code
def yX10_clear : MethodName := ⟨RX10, "clear", "()V"⟩
abbrev cX10_copy : ByteArray := prog_12_method_5_code
def yX10_copy : MethodName := ⟨RX10, "copy", "(II)V"⟩
abbrev cX10_keep : ByteArray := prog_12_method_6_code
def yX10_keep : MethodName := ⟨RX10, "keep", "()V"⟩
abbrev cX10_type : ByteArray := prog_12_method_7_code
def yX10_type : MethodName := ⟨RX10, "type", "(JI)I"⟩
abbrev cX10_cut : ByteArray := prog_12_method_8_code
def yX10_cut : MethodName := ⟨RX10, "cut", "(I)I"⟩
abbrev cX10_tapeAt : ByteArray := prog_12_method_9_code
def yX10_tapeAt : MethodName := ⟨RX10, "tapeAt", "(I)I"⟩
abbrev cX10_newNode : ByteArray := prog_12_method_10_code
def yX10_newNode : MethodName := ⟨RX10, "newNode", "(II)I"⟩
abbrev cX10_nodes : ByteArray := prog_12_method_11_code
def yX10_nodes : MethodName := ⟨RX10, "nodes", "()I"⟩
abbrev cX10_childFrom : ByteArray := prog_12_method_12_code
def yX10_childFrom : MethodName := ⟨RX10, "childFrom", "(II)I"⟩
abbrev cX10_child : ByteArray := prog_12_method_13_code
def yX10_child : MethodName := ⟨RX10, "child", "(II)I"⟩
abbrev cX10_children : ByteArray := prog_12_method_14_code
def yX10_children : MethodName := ⟨RX10, "children", "(I)I"⟩
abbrev cX10_room : ByteArray := prog_12_method_15_code
def yX10_room : MethodName := ⟨RX10, "room", "(I)I"⟩
abbrev cX10_next : ByteArray := prog_12_method_16_code
def yX10_next : MethodName := ⟨RX10, "next", "(I)I"⟩
abbrev cX10_freshen : ByteArray := prog_12_method_17_code
def yX10_freshen : MethodName := ⟨RX10, "freshen", "(I)V"⟩
abbrev cX10_lead : ByteArray := prog_12_method_18_code
def yX10_lead : MethodName := ⟨RX10, "lead", "(I)I"⟩
abbrev cX10_seek : ByteArray := prog_12_method_19_code
def yX10_seek : MethodName := ⟨RX10, "seek", "()V"⟩
abbrev cX10_isFound : ByteArray := prog_12_method_20_code
def yX10_isFound : MethodName := ⟨RX10, "isFound", "()Z"⟩
abbrev cX10_setPrefix : ByteArray := prog_12_method_21_code
def yX10_setPrefix : MethodName := ⟨RX10, "setPrefix", "(II)V"⟩
abbrev cX10_give : ByteArray := prog_12_method_22_code
def yX10_give : MethodName := ⟨RX10, "give", "(IJ)V"⟩
abbrev cX10_isKey : ByteArray := prog_12_method_23_code
def yX10_isKey : MethodName := ⟨RX10, "isKey", "()Z"⟩
abbrev cX10_put : ByteArray := prog_12_method_24_code
def yX10_put : MethodName := ⟨RX10, "put", "(J)I"⟩
abbrev cX10_cutInTwo : ByteArray := prog_12_method_25_code
def yX10_cutInTwo : MethodName := ⟨RX10, "cutInTwo", "()V"⟩
abbrev cX10_remove : ByteArray := prog_12_method_26_code
def yX10_remove : MethodName := ⟨RX10, "remove", "()I"⟩
abbrev cX10_putTogether : ByteArray := prog_12_method_27_code
def yX10_putTogether : MethodName := ⟨RX10, "putTogether", "(I)V"⟩
abbrev cX10_get : ByteArray := prog_12_method_28_code
def yX10_get : MethodName := ⟨RX10, "get", "()J"⟩
abbrev cX10_tell : ByteArray := prog_12_method_29_code
def yX10_tell : MethodName := ⟨RX10, "tell", "(I)V"⟩
abbrev cX10_begins : ByteArray := prog_12_method_30_code
def yX10_begins : MethodName := ⟨RX10, "begins", "()Z"⟩
abbrev cX10_isBefore : ByteArray := prog_12_method_31_code
def yX10_isBefore : MethodName := ⟨RX10, "isBefore", "()Z"⟩
abbrev cX10_with : ByteArray := prog_12_method_32_code
def yX10_with : MethodName := ⟨RX10, "with", "()I"⟩
abbrev cX10_countKeys : ByteArray := prog_12_method_33_code
def yX10_countKeys : MethodName := ⟨RX10, "countKeys", "(Z)I"⟩
abbrev cX10_before : ByteArray := prog_12_method_34_code
def yX10_before : MethodName := ⟨RX10, "before", "()I"⟩
abbrev cX10_keys : ByteArray := prog_12_method_35_code
def yX10_keys : MethodName := ⟨RX10, "keys", "()I"⟩
abbrev cX10_nth : ByteArray := prog_12_method_36_code
def yX10_nth : MethodName := ⟨RX10, "nth", "(I)I"⟩
abbrev cX10_sum : ByteArray := prog_12_method_37_code
def yX10_sum : MethodName := ⟨RX10, "sum", "([II)J"⟩
abbrev cX10_number : ByteArray := prog_12_method_38_code
def yX10_number : MethodName := ⟨RX10, "number", "(IIJ)V"⟩
abbrev cX10_write : ByteArray := prog_12_method_39_code
def yX10_write : MethodName := ⟨RX10, "write", "(I)Z"⟩
abbrev cX10_beginSheet : ByteArray := prog_12_method_40_code
def yX10_beginSheet : MethodName := ⟨RX10, "beginSheet", "()V"⟩
abbrev cX10_writeNode : ByteArray := prog_12_method_41_code
def yX10_writeNode : MethodName := ⟨RX10, "writeNode", "(I)Z"⟩
abbrev cX10_deepest : ByteArray := prog_12_method_42_code
def yX10_deepest : MethodName := ⟨RX10, "deepest", "(I)I"⟩
abbrev cX10_freshMany : ByteArray := prog_12_method_43_code
def yX10_freshMany : MethodName := ⟨RX10, "freshMany", "()I"⟩
abbrev cX10_findTaken : ByteArray := prog_12_method_44_code
def yX10_findTaken : MethodName := ⟨RX10, "findTaken", "()I"⟩
abbrev cX10_commit : ByteArray := prog_12_method_45_code
def yX10_commit : MethodName := ⟨RX10, "commit", "()I"⟩
abbrev cX10_back : ByteArray := prog_12_method_46_code
def yX10_back : MethodName := ⟨RX10, "back", "()I"⟩
abbrev cX10_depth : ByteArray := prog_12_method_47_code
def yX10_depth : MethodName := ⟨RX10, "depth", "()I"⟩
abbrev cX10_count : ByteArray := prog_12_method_48_code
def yX10_count : MethodName := ⟨RX10, "count", "(I)I"⟩
abbrev cX10_node : ByteArray := prog_12_method_49_code
def yX10_node : MethodName := ⟨RX10, "node", "(II)I"⟩
abbrev cX10_ofNode : ByteArray := prog_12_method_50_code
def yX10_ofNode : MethodName := ⟨RX10, "ofNode", "(II)I"⟩
abbrev cX10_power : ByteArray := prog_12_method_51_code
def yX10_power : MethodName := ⟨RX10, "power", "(II)I"⟩
abbrev cX10_halt : ByteArray := prog_12_method_52_code
def yX10_halt : MethodName := ⟨RX10, "halt", "()I"⟩
abbrev cX10_numberAt : ByteArray := prog_12_method_53_code
def yX10_numberAt : MethodName := ⟨RX10, "numberAt", "([III)J"⟩
abbrev cX10_headOf : ByteArray := prog_12_method_54_code
def yX10_headOf : MethodName := ⟨RX10, "headOf", "(I)J"⟩
abbrev cX10_readNode : ByteArray := prog_12_method_55_code
def yX10_readNode : MethodName := ⟨RX10, "readNode", "(I)Z"⟩
abbrev cX10_readChildren : ByteArray := prog_12_method_56_code
def yX10_readChildren : MethodName := ⟨RX10, "readChildren", "(IIII)Z"⟩
abbrev cX10_readTree : ByteArray := prog_12_method_57_code
def yX10_readTree : MethodName := ⟨RX10, "readTree", "(IJ)Z"⟩
abbrev cX10_start : ByteArray := prog_12_method_58_code
def yX10_start : MethodName := ⟨RX10, "start", "()I"⟩
abbrev cX10_octet : ByteArray := prog_12_method_59_code
def yX10_octet : MethodName := ⟨RX10, "octet", "(II)I"⟩
abbrev cX10_poke : ByteArray := prog_12_method_60_code
def yX10_poke : MethodName := ⟨RX10, "poke", "(III)I"⟩
def RL : String := "RadixPagesLaw"
abbrev cL_type : ByteArray := method_3_code
def yL_type : MethodName := ⟨RL, "type", "(LRadixPages;JI[J)I"⟩
abbrev cL_cut : ByteArray := method_4_code
def yL_cut : MethodName := ⟨RL, "cut", "(LRadixPages;I[J)I"⟩
abbrev cL_octet : ByteArray := method_5_code
def yL_octet : MethodName := ⟨RL, "octet", "(LRadixPages;II[J)I"⟩
abbrev cL_poke : ByteArray := method_6_code
def yL_poke : MethodName := ⟨RL, "poke", "(LRadixPages;III[J)I"⟩
abbrev cL_law : ByteArray := code
def yL_law : MethodName := ⟨RL, "law", "([I)Z"⟩
abbrev vwCl : List vw_C := [(RX0, TX0, 3), (RX3, TX3, 13), (RX5, TX5, 1), (RX6, TX6, 4), (RX7, TX7, 2), (RX8, TX8, 8), (RX9, TX9, 6), (RX10, TX10, 27)]
end
section
/-! THE WORLD: all cells of the class, of the reference and of the law, by address: their kind, length, ints, longs, references. -/
abbrev xM : Type := List Nat × (Nat → Nat) × (Nat → Nat) × (Nat → Nat → Int32) × (Nat → Nat → Int64) × (Nat → Nat → Option Nat)
def xL (M : xM) : List Nat := M.1
def xK (M : xM) : Nat → Nat := M.2.1
def xN (M : xM) : Nat → Nat := M.2.2.1
def xI (M : xM) : Nat → Nat → Int32 := M.2.2.2.1
def xJ (M : xM) : Nat → Nat → Int64 := M.2.2.2.2.1
def xR (M : xM) : Nat → Nat → Option Nat := M.2.2.2.2.2
def xu2 {α : Type} (f : Nat → Nat → α) (a k : Nat) (v : α) : Nat → Nat → α := fun b j => if b = a ∧ j = k then v else f b j
def xuz {α : Type} (f : Nat → Nat → α) (a : Nat) (v : α) : Nat → Nat → α := fun b j => if b = a then v else f b j
def xsI (M : xM) (a k : Nat) (v : Int32) : xM := (M.1, M.2.1, M.2.2.1, xu2 M.2.2.2.1 a k v, M.2.2.2.2.1, M.2.2.2.2.2)
def xsJ (M : xM) (a k : Nat) (v : Int64) : xM := (M.1, M.2.1, M.2.2.1, M.2.2.2.1, xu2 M.2.2.2.2.1 a k v, M.2.2.2.2.2)
def xsR (M : xM) (a k : Nat) (v : Option Nat) : xM := (M.1, M.2.1, M.2.2.1, M.2.2.2.1, M.2.2.2.2.1, xu2 M.2.2.2.2.2 a k v)
def xnew (M : xM) (q kd n : Nat) : xM := (M.1 ++ [q], va_up M.2.1 q kd, va_up M.2.2.1 q n, xuz M.2.2.2.1 q 0, xuz M.2.2.2.2.1 q 0, xuz M.2.2.2.2.2 q none)
/-- the kinds' fields: 0 int, 1 long, 2 reference, 3 boolean -/
def xF : Nat → List Nat
  | 0 => [2, 0, 0]
  | 1 => [2, 0, 0, 3, 1, 0, 0, 0, 3, 2, 2, 2, 2]
  | 2 => [2]
  | 3 => [2, 2, 2, 2]
  | 4 => [2, 0]
  | 5 => [2, 2, 2, 0, 0, 2, 0, 0]
  | 6 => [2, 2, 2, 2, 0, 3]
  | 7 => [0, 2, 0, 3, 2, 2, 2, 2, 2, 2, 2, 2, 2, 2, 0, 0, 1, 2, 0, 0, 0, 0, 0, 2, 0, 2, 2]
  | _ => []
def xV (M : xM) (a k t : Nat) : Value := if t = 1 then .long (xJ M a k) else if t = 2 then va_rf (xR M a k) else .int (xI M a k)
def xFs (M : xM) (a : Nat) (ts : List Nat) : List Value := ts.mapIdx (fun k t => xV M a k t)
abbrev xG : Type := va_G × (Nat → ClassId) × Nat × Nat
def xAr (M : xM) (a : Nat) : vp_A := (xN M a, if xK M a = 10 then .inr (.inl (xJ M a)) else if xK M a = 12 then .inr (.inr (.inr (.inr (xR M a)))) else .inl (xI M a))
def xE (g : xG) (M : xM) (a : Nat) : va_E := if xK M a < 8 then .inr (xK M a, xFs M a (xF (xK M a))) else .inl (g.2.1 (xK M a), xAr M a)
def xW (g : xG) (M : xM) : va_W := va_pl (xL M) (xE g M)
def xTy (g : xG) : List (ClassId × FieldType) := [(g.2.1 8, .byte), (g.2.1 9, .int), (g.2.1 10, .long), (g.2.1 11, .boolean), (g.2.1 12, .object "RadixPages$Node")]
/-- the heap holds the world, all of it in A -/
def xP (g : xG) (A : Nat → Prop) (M : xM) (H : Heap) : Prop := va_P g.1 vwCl (xW g M) H ∧ va_D A (xW g M)
theorem xK_sI (M : xM) (a k : Nat) (v : Int32) : xK (xsI M a k v) = xK M := rfl
theorem xK_sJ (M : xM) (a k : Nat) (v : Int64) : xK (xsJ M a k v) = xK M := rfl
theorem xK_sR (M : xM) (a k : Nat) (v : Option Nat) : xK (xsR M a k v) = xK M := rfl
theorem xN_sI (M : xM) (a k : Nat) (v : Int32) : xN (xsI M a k v) = xN M := rfl
theorem xN_sJ (M : xM) (a k : Nat) (v : Int64) : xN (xsJ M a k v) = xN M := rfl
theorem xN_sR (M : xM) (a k : Nat) (v : Option Nat) : xN (xsR M a k v) = xN M := rfl
theorem xL_sI (M : xM) (a k : Nat) (v : Int32) : xL (xsI M a k v) = xL M := rfl
theorem xL_sJ (M : xM) (a k : Nat) (v : Int64) : xL (xsJ M a k v) = xL M := rfl
theorem xL_sR (M : xM) (a k : Nat) (v : Option Nat) : xL (xsR M a k v) = xL M := rfl
theorem xI_sI (M : xM) (a k : Nat) (v : Int32) (b j : Nat) : xI (xsI M a k v) b j = if b = a ∧ j = k then v else xI M b j := rfl
theorem xI_sJ (M : xM) (a k : Nat) (v : Int64) : xI (xsJ M a k v) = xI M := rfl
theorem xI_sR (M : xM) (a k : Nat) (v : Option Nat) : xI (xsR M a k v) = xI M := rfl
theorem xJ_sI (M : xM) (a k : Nat) (v : Int32) : xJ (xsI M a k v) = xJ M := rfl
theorem xJ_sJ (M : xM) (a k : Nat) (v : Int64) (b j : Nat) : xJ (xsJ M a k v) b j = if b = a ∧ j = k then v else xJ M b j := rfl
theorem xJ_sR (M : xM) (a k : Nat) (v : Option Nat) : xJ (xsR M a k v) = xJ M := rfl
theorem xR_sI (M : xM) (a k : Nat) (v : Int32) : xR (xsI M a k v) = xR M := rfl
theorem xR_sJ (M : xM) (a k : Nat) (v : Int64) : xR (xsJ M a k v) = xR M := rfl
theorem xR_sR (M : xM) (a k : Nat) (v : Option Nat) (b j : Nat) : xR (xsR M a k v) b j = if b = a ∧ j = k then v else xR M b j := rfl
theorem xFs_get (M : xM) (a : Nat) (ts : List Nat) (k t : Nat) (h : ts[k]? = some t) : (xFs M a ts)[k]? = some (xV M a k t) := by
  simp [xFs, List.getElem?_mapIdx, h]
theorem xFs_len (M : xM) (a : Nat) (ts : List Nat) : (xFs M a ts).length = ts.length := by simp [xFs]
theorem xFs_set (M M' : xM) (a : Nat) (ts : List Nat) (k t : Nat) (v : Value) (h : ts[k]? = some t) (hv : xV M' a k t = v) (ho : ∀ j u, j ≠ k → ts[j]? = some u → xV M' a j u = xV M a j u) : (xFs M a ts).set k v = xFs M' a ts := by
  apply List.ext_getElem?
  intro j
  by_cases hj : k = j
  · subst hj
    have hl : k < (xFs M a ts).length := by rw [xFs_len]; exact (List.getElem?_eq_some_iff.mp h).1
    rw [List.getElem?_set_self hl, xFs_get M' a ts k t h, hv]
  · rw [List.getElem?_set_ne hj]
    simp only [xFs, List.getElem?_mapIdx]
    cases hu : ts[j]? with
    | none => rfl
    | some u => simp [ho j u (Ne.symm hj) hu]
theorem xE_off (g : xG) {M M' : xM} {b : Nat} (hK : xK M' = xK M) (hN : xN M' = xN M) (hI : ∀ j, xI M' b j = xI M b j) (hJ : ∀ j, xJ M' b j = xJ M b j) (hR : ∀ j, xR M' b j = xR M b j) : xE g M' b = xE g M b := by
  have h1 : xI M' b = xI M b := funext hI
  have h2 : xJ M' b = xJ M b := funext hJ
  have h3 : xR M' b = xR M b := funext hR
  simp only [xE, xAr, xFs, xV, hK, hN, h1, h2, h3]
theorem xW_set (g : xG) {A : Nat → Prop} {M M' : xM} {a k : Nat} {e : va_E} (hD : va_D A (xW g M)) (ha : a ∈ xL M) (hk : (xW g M)[k]? = some (a, xE g M a)) (hL : xL M' = xL M) (he : xE g M' a = e) (ho : ∀ b, b ≠ a → xE g M' b = xE g M b) : (xW g M).set k (a, e) = xW g M' := by
  have h := va_pl_set (X := []) (f := xE g M) (L := xL M) (a := a) (k := k) (e := e) hD ha hk
  simp only [List.nil_append] at h
  unfold xW
  rw [h, hL]
  unfold va_pl
  apply List.map_congr_left
  intro b _
  by_cases hb : b = a
  · subst hb; rw [va_up_self, he]
  · rw [va_up_ne _ _ hb, ho b hb]
theorem xW_get (g : xG) {M : xM} {a : Nat} (ha : a ∈ xL M) : ∃ k : Nat, (xW g M)[k]? = some (a, xE g M a) := va_pl_get (X := []) (f := xE g M) ha
theorem xE_obj (g : xG) {M : xM} {a ci : Nat} (hk : xK M a = ci) (hc : ci < 8) : xE g M a = .inr (ci, xFs M a (xF ci)) := by
  unfold xE; rw [hk, if_pos hc]
theorem xE_arr (g : xG) {M : xM} {a ci : Nat} (hk : xK M a = ci) (hc : ¬ ci < 8) : xE g M a = .inl (g.2.1 ci, xAr M a) := by
  unfold xE; rw [hk, if_neg hc]
theorem xV_sI (M : xM) (a k : Nat) (v : Int32) (b j t : Nat) (h : b ≠ a ∨ j ≠ k) : xV (xsI M a k v) b j t = xV M b j t := by
  have : ¬ (b = a ∧ j = k) := fun q => h.elim (fun z => z q.1) (fun z => z q.2)
  simp only [xV, xI_sI, xJ_sI, xR_sI, if_neg this]
theorem xV_sJ (M : xM) (a k : Nat) (v : Int64) (b j t : Nat) (h : b ≠ a ∨ j ≠ k) : xV (xsJ M a k v) b j t = xV M b j t := by
  have : ¬ (b = a ∧ j = k) := fun q => h.elim (fun z => z q.1) (fun z => z q.2)
  simp only [xV, xI_sJ, xJ_sJ, xR_sJ, if_neg this]
theorem xV_sR (M : xM) (a k : Nat) (v : Option Nat) (b j t : Nat) (h : b ≠ a ∨ j ≠ k) : xV (xsR M a k v) b j t = xV M b j t := by
  have : ¬ (b = a ∧ j = k) := fun q => h.elim (fun z => z q.1) (fun z => z q.2)
  simp only [xV, xI_sR, xJ_sR, xR_sR, if_neg this]
theorem xE_sI_ne (g : xG) (M : xM) (a k : Nat) (v : Int32) (b : Nat) (h : b ≠ a) : xE g (xsI M a k v) b = xE g M b :=
  xE_off g rfl rfl (fun j => by rw [xI_sI, if_neg (fun q => h q.1)]) (fun _ => rfl) (fun _ => rfl)
theorem xE_sJ_ne (g : xG) (M : xM) (a k : Nat) (v : Int64) (b : Nat) (h : b ≠ a) : xE g (xsJ M a k v) b = xE g M b :=
  xE_off g rfl rfl (fun _ => rfl) (fun j => by rw [xJ_sJ, if_neg (fun q => h q.1)]) (fun _ => rfl)
theorem xE_sR_ne (g : xG) (M : xM) (a k : Nat) (v : Option Nat) (b : Nat) (h : b ≠ a) : xE g (xsR M a k v) b = xE g M b :=
  xE_off g rfl rfl (fun _ => rfl) (fun _ => rfl) (fun j => by rw [xR_sR, if_neg (fun q => h q.1)])
end
section
/-! THE JUDGEMENT xWp: a method's walk over the world, from a place, its locals and its stack, to its answer and the world then. -/
abbrev xMd : Type := MethodName × ByteArray × Nat × Option FieldType × Nat × Nat
def gl : List Cond := lw_tbl.filter goodWord
theorem gl_mem {w : Cond} (i : Nat) (h : lw_tbl[i]? = some w) (hg : goodWord w = true) : w ∈ gl := List.mem_filter.mpr ⟨List.mem_of_getElem? h, hg⟩
theorem gl_good : GoodIn gl gl := fun w h => ⟨h, good_of_word (List.mem_filter.mp h).2⟩
def xws (md : xMd) : List Cond := .code md.1 md.2.1 md.2.2.1 md.2.2.2.1 :: gl
theorem xws_good {md : xMd} (h : Cond.code md.1 md.2.1 md.2.2.1 md.2.2.2.1 ∈ gl) : GoodIn gl (xws md) := fun w hw => by
  rcases List.mem_cons.mp hw with rfl | hw
  · exact gl_good _ h
  · exact gl_good _ hw
def xrm (md : xMd) (mc ms : Nat) : Room := { frames := md.2.2.2.2.1, cells := mc, slots := ms, locals := md.2.2.2.2.2 }
def xNs : List Cond := [.methodLinkNest "RadixPages" 11 yX7_init "RadixPages", .methodLinkNest "RadixPages" 30 yX6_init "RadixPages", .methodLinkNest "RadixPages$Store" 11 yX0_init "RadixPages", .methodLinkNest "RadixPages$Store" 20 yX5_init "RadixPages", .methodLinkNest "RadixPages$Store" 203 yX3_setNextOf "RadixPages", .methodLinkNest "RadixPages$Tree" 31 yX3_reset "RadixPages"]
def xmc : Nat → Int32 := fun j => [0, 4, 16, 48, 256].getD j 0
def xsh : Nat → Int32 := fun j => [0, 0, 3, 12, 40].getD j 0
/-- what nobody writes: the two static arrays, the nest mates' links -/
def xSt (g : xG) (A : Nat → Prop) (U : State) (H : Heap) : Prop :=
  va_Z "RadixPages$Format" "MOST_CHILDREN" "[I" (.ref g.2.2.1) A U H ∧ va_T .int g.2.2.1 5 (fun j => .int (xmc j)) A U H ∧ va_Z "RadixPages$Format" "SHRINKS_AT" "[I" (.ref g.2.2.2) A U H ∧ va_T .int g.2.2.2 5 (fun j => .int (xsh j)) A U H ∧ (∀ w ∈ xNs, va_Nw w U) ∧ va_Nw (.fieldLinkNest "RadixPages$Disk" 27 "RadixPages$Row" "bytes" "[B" "RadixPages") U ∧ va_AO "RadixPages$Node" U
theorem xNs_warm {w : Cond} (h : w ∈ xNs) {s U : State} (hW : s.WarmedH U.vm) (hZ : va_Nw w s) : va_Nw w U := by
  simp only [xNs, List.mem_cons, List.not_mem_nil, or_false] at h
  rcases h with rfl | rfl | rfl | rfl | rfl | rfl <;> exact va_Nw.warmM hW hZ
theorem xSt.warm {g : xG} {A : Nat → Prop} {s U : State} {H : Heap} (hW : s.WarmedH U.vm) (h : xSt g A s H) : xSt g A U H := by
  obtain ⟨h1, h2, h3, h4, h5, h6, h7⟩ := h
  exact ⟨h1.moved hW.alike, h2.moved hW.alike, h3.moved hW.alike, h4.moved hW.alike, fun w hw => xNs_warm hw hW (h5 w hw), va_Nw.warmF hW h6, h7.moved hW.alike⟩
theorem xNs_tab {w : Cond} (h : w ∈ xNs) : w.onTables = true := by
  simp only [xNs, List.mem_cons, List.not_mem_nil, or_false] at h
  rcases h with rfl | rfl | rfl | rfl | rfl | rfl <;> rfl
theorem xSt.same {g : xG} {A : Nat → Prop} {s U : State} {H : Heap} (hvm : s.vm = U.vm) (h : xSt g A s H) : xSt g A U H := by
  obtain ⟨h1, h2, h3, h4, h5, h6, h7⟩ := h
  have ha : s.vm.Alike U.vm := by rw [hvm]; exact Vm.Alike.refl U.vm
  exact ⟨h1.moved ha, h2.moved ha, h3.moved ha, h4.moved ha, fun w hw => va_Nw.same (xNs_tab hw) hvm (h5 w hw), va_Nw.same rfl hvm h6, h7.moved ha⟩
theorem xSt.kept {g : xG} {A : Nat → Prop} {U : State} {H H1 : Heap} (h : xSt g A U H) (hq : ∀ a : Nat, a < H.size → ¬ A a → H1[a]? = H[a]?) : xSt g A U H1 := by
  obtain ⟨h1, h2, h3, h4, h5, h6, h7⟩ := h
  exact ⟨h1.kept hq, h2.kept hq, h3.kept hq, h4.kept hq, h5, h6, h7⟩
theorem xSt.narrow {g : xG} {A B : Nat → Prop} {U : State} {H : Heap} (h : xSt g A U H) (hAB : ∀ q, B q → A q) : xSt g B U H := by
  obtain ⟨h1, h2, h3, h4, h5, h6, h7⟩ := h
  exact ⟨h1.narrow hAB, h2.narrow hAB, h3.narrow hAB, h4.narrow hAB, h5, h6, h7⟩
/-- what stands fast in a method's walk -/
def xFix (g : xG) (md : xMd) (mc ms : Nat) (p : Program) (R : Room) (s : State) (m : MethodId) (args : Array Value) (meth : Method) (c : Code) (A : Nat → Prop) : Prop :=
  p.tables.exec = Jvm.exec ∧ c.code = md.2.1 ∧ c.maxLocals = md.2.2.1 ∧ s.vm.findClass md.1.cls = some m.cls ∧ (∀ w ∈ gl, w.before args s = true) ∧ va_K g.1 vwCl (xTy g) s ∧ meth.sig.returnType = md.2.2.2.1 ∧ meth.locks = false ∧ meth.name = md.1.name ∧ (∀ q, s.heap.size ≤ q → A q) ∧ (md.2.2.2.2.1 ≤ R.frames ∧ md.2.2.2.2.2 ≤ R.locals ∧ mc ≤ R.cells ∧ ms ≤ R.slots) ∧ xSt g A s s.heap
/-- a return: the instruction and the answer on the stack -/
def xRet (md : xMd) (pc : Nat) (r : Option Value) : Prop :=
  (md.2.2.2.1 = none ∧ r = none ∧ decode md.2.1 pc = .ok (.return_, 1)) ∨ (∃ ty v, md.2.2.2.1 = some ty ∧ r = some (.int v) ∧ narrow ty (.int v) = .int v ∧ decode md.2.1 pc = .ok (.ireturn, 1)) ∨ (∃ v, md.2.2.2.1 = some .long ∧ r = some (.long v) ∧ decode md.2.1 pc = .ok (.lreturn, 1)) ∨ (∃ n o, md.2.2.2.1 = some (.object n) ∧ r = some (va_rf o) ∧ decode md.2.1 pc = .ok (.areturn, 1))
/-- locals: their kinds (0 none, 1, 2 by category) and values -/
def xLr (ls : Array Slot) (n : Nat) (L : List (Nat × Value)) : Prop := ls.size = n ∧ lv_wf ls ∧ ∀ (i t : Nat) (v : Value), L[i]? = some (t, v) → t ≠ 0 → ls[i]? = some (.val v) ∧ v.category = t
def xEnd (l : Launch) (g : xG) (md : xMd) (mc ms : Nat) (p : Program) (e : Env) (R : Room) (s : State) (m : MethodId) (args : Array Value) (below : List Frame) (meth : Method) (c : Code) (A : Nat → Prop) (Q : Option Value → xM → Prop) (Z : State → Prop) : Prop :=
  ∀ (r : Option Value) (M : xM) (H : Heap) (locs : List Loc) (pc : Nat) (ls : Array Slot), Q r M → xP g A M H → va_S A s.heap H locs → xRet md pc r → W p l e R s m args below meth c H locs mc ms Z (F0 m pc ls r.toList)
def xWp (l : Launch) (g : xG) (md : xMd) (mc ms pc : Nat) (L : List (Nat × Value)) (st : List Value) (cs : Nat × Nat) (M : xM) (Q : Option Value → xM → Prop) : Prop :=
  ∀ (p : Program) (e : Env) (R : Room) (s : State) (m : MethodId) (args : Array Value) (below : List Frame) (meth : Method) (c : Code) (A : Nat → Prop) (H : Heap) (locs : List Loc) (Z : State → Prop) (ls : Array Slot),
    xFix g md mc ms p R s m args meth c A → xEnd l g md mc ms p e R s m args below meth c A Q Z → xP g A M H → va_S A s.heap H locs → xLr ls md.2.2.1 L → W p l e R s m args below meth c H locs cs.1 cs.2 Z (F0 m pc ls st)
/-- a method's contract -/
def xPre (g : xG) (M : xM) (sz : Nat) : State → Prop := fun U => U.heap.size = sz ∧ va_P g.1 vwCl (xW g M) U.heap ∧ va_K g.1 vwCl (xTy g) U ∧ va_D (fun _ => True) (xW g M) ∧ xSt g (va_A (xW g M) sz) U U.heap
def xPost (g : xG) (M : xM) (sz : Nat) (Q : Option Value → xM → Prop) : Array Value → State → Outcome → State → Prop := fun _ st oc t =>
  (∃ (r : Option Value) (M1 : xM), oc = .returned r ∧ Q r M1 ∧ va_P g.1 vwCl (xW g M1) t.heap ∧ va_K g.1 vwCl (xTy g) t ∧ va_D (va_A (xW g M) sz) (xW g M1)) ∧ va_F (va_A (xW g M) sz) st t
def xSpec (l : Launch) (g : xG) (md : xMd) (mc ms : Nat) (av : List Value) (M : xM) (Q : Option Value → xM → Prop) : Prop :=
  ∀ sz : Nat, Met l md.1 (xws md) (xrm md mc ms) (va_Pc av (xPre g M sz)) (xPost g M sz Q) mc ms (va_A (xW g M) sz)
def xSp (l : Launch) (g : xG) (md : xMd) (mc ms : Nat) (av : List Value) (M : xM) (Q : Option Value → xM → Prop) : Prop :=
  ∃ Q0 : Option Value → xM → Prop, (∀ r M1, Q0 r M1 → Q r M1) ∧ xSpec l g md mc ms av M Q0
theorem xSp.mono {l : Launch} {g : xG} {md : xMd} {mc ms : Nat} {av : List Value} {M : xM} {Q Q1 : Option Value → xM → Prop} (h : xSp l g md mc ms av M Q) (hQ : ∀ r M1, Q r M1 → Q1 r M1) : xSp l g md mc ms av M Q1 := by
  obtain ⟨Q0, h1, h2⟩ := h
  exact ⟨Q0, fun r M1 h => hQ r M1 (h1 r M1 h), h2⟩
/-- the locals with which a method begins, by its arguments with their categories -/
def xexp : List (Nat × Value) → List (Nat × Value)
  | [] => []
  | (t, v) :: r => if t = 2 then (2, v) :: (0, .null) :: xexp r else (1, v) :: xexp r
theorem xexp_args : ∀ (ta : List (Nat × Value)) (b : Nat), (∀ q ∈ ta, q.2.category = q.1) → ∀ (i t : Nat) (v : Value), (xexp ta)[i]? = some (t, v) → t ≠ 0 → (b + i, v) ∈ lv_args b (ta.map Prod.snd) ∧ v.category = t
  | [], b, _, i, t, v, h, _ => by simp [xexp] at h
  | (t0, v0) :: r, b, hc, i, t, v, h, ht => by
    have hc0 : v0.category = t0 := hc (t0, v0) List.mem_cons_self
    have hcr : ∀ q ∈ r, q.2.category = q.1 := fun q hq => hc q (List.mem_cons_of_mem _ hq)
    simp only [List.map_cons, lv_args]
    by_cases h2 : t0 = 2
    · subst h2
      simp only [xexp, if_pos] at h
      rw [if_pos hc0]
      match i, h with
      | 0, h => simp at h; obtain ⟨rfl, rfl⟩ := h; exact ⟨by simp, hc0⟩
      | 1, h => simp at h; exact absurd h.1.symm ht
      | i + 2, h =>
        simp at h
        obtain ⟨k1, k2⟩ := xexp_args r (b + 2) hcr i t v h ht
        exact ⟨List.mem_cons_of_mem _ (by rw [show b + (i + 2) = b + 2 + i by omega]; exact k1), k2⟩
    · have h1 : ¬ v0.category = 2 := by rw [hc0]; exact h2
      have h1' : v0.category = 1 := by rcases lv_cat v0 with q | q <;> omega
      simp only [xexp, if_neg h2] at h
      rw [if_neg h1]
      match i, h with
      | 0, h => simp at h; obtain ⟨rfl, rfl⟩ := h; exact ⟨by simp, h1'⟩
      | i + 1, h =>
        simp at h
        obtain ⟨k1, k2⟩ := xexp_args r (b + 1) hcr i t v h ht
        exact ⟨List.mem_cons_of_mem _ (by rw [show b + (i + 1) = b + 1 + i by omega]; exact k1), k2⟩
theorem xexp_pad {ta : List (Nat × Value)} {k : Nat} {i t : Nat} {v : Value} (h : (xexp ta ++ List.replicate k (0, Value.null))[i]? = some (t, v)) (ht : t ≠ 0) : (xexp ta)[i]? = some (t, v) := by
  by_cases hi : i < (xexp ta).length
  · rwa [List.getElem?_append_left hi] at h
  · rw [List.getElem?_append_right (by omega)] at h
    have := List.eq_of_mem_replicate (List.mem_of_getElem? h)
    cases this
    exact absurd rfl ht
theorem xPre_blind (g : xG) (M : xM) (sz : Nat) (av : List Value) : FrameBlind (va_Pc av (xPre g M sz)) := by
  intro a U f mk h
  obtain ⟨h0, h1, h2, h3, h4, h5⟩ := h
  exact ⟨h0, h1, h2, va_K.moved (u := U) (U := U.calling f mk a) (Vm.Alike.refl U.vm) h3, h4, xSt.same (s := U) (U := U.calling f mk a) rfl h5⟩
set_option maxHeartbeats 1000000 in
/-- a contract out of a walk of the body -/
theorem xBody {l : Launch} {g : xG} {md : xMd} {mc ms : Nat} {ta : List (Nat × Value)} {M : xM} {Q : Option Value → xM → Prop} (k : Nat) (hy : plainName md.1.cls = true) (hc : ∀ q ∈ ta, q.2.category = q.1) (hn : (lg_sl (ta.map Prod.snd)).length ≤ md.2.2.1)
    (h : xWp l g md mc ms 0 (xexp ta ++ List.replicate k (0, .null)) [] (0, 0) M Q) : xSpec l g md mc ms (ta.map Prod.snd) M Q := by
  intro sz
  refine Met.ofW (cc := md.2.1) (maxL := md.2.2.1) (ret := md.2.2.2.1) hy rfl ?_
  intro p e s m args below meth c s₁ B hml hv
  obtain ⟨rfl, hsz, hP, hK, hD0, hSt⟩ := hv
  have hts := atoms_spec (ws := xws md) B.pre
  have hown : s.vm.findClass md.1.cls = some m.cls := findClass_of_methodNamed B.named
  subst hsz
  have hD := hD0.self (sz := s.heap.size)
  have hl := lv_entry (ta.map Prod.snd) (n := md.2.2.1) hn
  rw [lg_entry_eq]
  refine h p e _ s m _ below meth c (va_A (xW g M) s.heap.size) s.heap [] _ _ ⟨B.exec, B.bytes, hml, hown, fun w hw => hts w (List.mem_cons_of_mem _ hw), hK, B.returns, B.notSynchronized, (name_of_methodNamed B.named B.method).1, fun q hq => Or.inr hq, ⟨Nat.le_refl _, Nat.le_refl _, Nat.le_refl _, Nat.le_refl _⟩, hSt⟩ ?_ ⟨hP, hD⟩ va_S.rf ⟨hl.1, hl.2.1, fun i t v hi ht => ?_⟩
  · intro r M1 H locs pc ls hq hw hS hret
    have hlocks := B.notSynchronized
    have hr := B.returns
    have key : ∀ t : State, t.heap = H → s.WarmedH t.vm → xPost g M s.heap.size Q (ta.map Prod.snd).toArray s (.returned r) t := fun t ht hWm =>
      ⟨⟨r, M1, rfl, hq, by rw [ht]; exact hw.1, va_K.moved hWm.alike hK, hw.2⟩, hS.F ht⟩
    rcases hret with ⟨e1, rfl, hd⟩ | ⟨ty, v, e1, rfl, hnr, hd⟩ | ⟨v, e1, rfl, hd⟩ | ⟨nm, o, e1, rfl, hd⟩
    · exact W.vret B.exec B.bytes (by rw [hr, e1]) key hS.2.2 hd
    · exact W.zret B.exec B.bytes (by rw [hr, e1]) hnr key hS.2.2 hd
    · exact W.lret B.exec B.bytes (by rw [hr, e1]) key hS.2.2 hd
    · refine W.aret B.exec B.bytes (by rw [hr, e1]) (Or.inl ⟨nm, rfl⟩) ?_ key hS.2.2 hd
      cases o with
      | none => exact Or.inl rfl
      | some a => exact Or.inr ⟨a, rfl⟩
  · obtain ⟨h1, h2⟩ := xexp_args ta 0 hc i t v (xexp_pad hi ht) ht
    exact ⟨by simpa using hl.2.2 _ h1, h2⟩
end
section
/-! THE ROWS of the judgement: an instruction, a row. -/
section XR
variable {l : Launch} {g : xG} {md : xMd} {mc ms pc : Nat} {L : List (Nat × Value)} {st : List Value} {cs : Nat × Nat} {M : xM} {Q : Option Value → xM → Prop}
theorem xWp.lift {pc1 : Nat} {st1 : List Value} (f : ∀ (p : Program) (e : Env) (R : Room) (s : State) (m : MethodId) (args : Array Value) (below : List Frame) (meth : Method) (c : Code) (H : Heap) (locs : List Loc) (cells slots : Nat) (Z : State → Prop) (ls : Array Slot), p.tables.exec = Jvm.exec → c.code = md.2.1 → xLr ls md.2.2.1 L → W p l e R s m args below meth c H locs cells slots Z (F0 m pc1 ls st1) → W p l e R s m args below meth c H locs cells slots Z (F0 m pc ls st))
    (h : xWp l g md mc ms pc1 L st1 cs M Q) : xWp l g md mc ms pc L st cs M Q := fun p e R s m args below meth c A H locs Z ls hF hE hP hS hl => f p e R s m args below meth c H locs cs.1 cs.2 Z ls hF.1 hF.2.1 hl (h p e R s m args below meth c A H locs Z ls hF hE hP hS hl)
theorem xWp.lift2 {pc1 pc2 : Nat} {st1 : List Value} {C : Prop} (f : ∀ (p : Program) (e : Env) (R : Room) (s : State) (m : MethodId) (args : Array Value) (below : List Frame) (meth : Method) (c : Code) (H : Heap) (locs : List Loc) (cells slots : Nat) (Z : State → Prop) (ls : Array Slot), p.tables.exec = Jvm.exec → c.code = md.2.1 → (C → W p l e R s m args below meth c H locs cells slots Z (F0 m pc1 ls st1)) → (¬ C → W p l e R s m args below meth c H locs cells slots Z (F0 m pc2 ls st1)) → W p l e R s m args below meth c H locs cells slots Z (F0 m pc ls st))
    (h1 : C → xWp l g md mc ms pc1 L st1 cs M Q) (h2 : ¬ C → xWp l g md mc ms pc2 L st1 cs M Q) : xWp l g md mc ms pc L st cs M Q := fun p e R s m args below meth c A H locs Z ls hF hE hP hS hl => f p e R s m args below meth c H locs cs.1 cs.2 Z ls hF.1 hF.2.1 (fun k => h1 k p e R s m args below meth c A H locs Z ls hF hE hP hS hl) (fun k => h2 k p e R s m args below meth c A H locs Z ls hF hE hP hS hl)
theorem xWp.q {Q1 : Option Value → xM → Prop} (h : xWp l g md mc ms pc L st cs M Q) (hq : ∀ r M1, Q r M1 → Q1 r M1) : xWp l g md mc ms pc L st cs M Q1 := fun p e R s m args below meth c A H locs Z ls hF hE hP hS hl => h p e R s m args below meth c A H locs Z ls hF (fun r M1 H1 locs1 pc1 ls1 k => hE r M1 H1 locs1 pc1 ls1 (hq r M1 k)) hP hS hl

theorem xr_iconst {n : Int} (v : Int32) (d : decode md.2.1 pc = .ok (.iconst n, 1)) (hv : Int32.ofInt n = v) (h : xWp l g md mc ms (pc + 1) L (.int v :: st) cs M Q) : xWp l g md mc ms pc L st cs M Q := xWp.lift (fun _ _ _ _ _ _ _ _ _ _ _ _ _ _ _ hx hb _ k => lv_iconst hx hb d hv k) h
theorem xr_bipush {n : Int} (v : Int32) (d : decode md.2.1 pc = .ok (.bipush n, 2)) (hv : (Int8.ofInt n).toInt32 = v) (h : xWp l g md mc ms (pc + 2) L (.int v :: st) cs M Q) : xWp l g md mc ms pc L st cs M Q := xWp.lift (fun _ _ _ _ _ _ _ _ _ _ _ _ _ _ _ hx hb _ k => lv_bipush hx hb d hv k) h
theorem xr_sipush {n : Int} (v : Int32) (d : decode md.2.1 pc = .ok (.sipush n, 3)) (hv : (Int16.ofInt n).toInt32 = v) (h : xWp l g md mc ms (pc + 3) L (.int v :: st) cs M Q) : xWp l g md mc ms pc L st cs M Q := xWp.lift (fun _ _ _ _ _ _ _ _ _ _ _ _ _ _ _ hx hb _ k => lv_sipush hx hb d hv k) h
theorem xr_lconst {n : Fin 2} (v : Int64) (d : decode md.2.1 pc = .ok (.lconst n, 1)) (hv : Int64.ofNat (n : Nat) = v) (h : xWp l g md mc ms (pc + 1) L (.long v :: st) cs M Q) : xWp l g md mc ms pc L st cs M Q := xWp.lift (fun _ _ _ _ _ _ _ _ _ _ _ _ _ _ _ hx hb _ k => lv_lconst hx hb d hv k) h
theorem xr_null (d : decode md.2.1 pc = .ok (.aconst_null, 1)) (h : xWp l g md mc ms (pc + 1) L (va_rf none :: st) cs M Q) : xWp l g md mc ms pc L st cs M Q := xWp.lift (fun _ _ _ _ _ _ _ _ _ _ _ _ _ _ _ hx hb _ k => lv_null hx hb d k) h
theorem xr_ldc {i : Nat} (v : Int32) (d : decode md.2.1 pc = .ok (.ldc i, 2)) (hw : Cond.constant md.1.cls i v ∈ gl) (h : xWp l g md mc ms (pc + 2) L (.int v :: st) cs M Q) : xWp l g md mc ms pc L st cs M Q := fun p e R s m args below meth c A H locs Z ls hF hE hP hS hl => lv_ldc hF.1 hF.2.1 hF.2.2.2.1 (hF.2.2.2.2.1 _ hw) d (h p e R s m args below meth c A H locs Z ls hF hE hP hS hl)
theorem xr_ldc2 {i : Nat} (v : Int64) (d : decode md.2.1 pc = .ok (.ldc2_w i, 3)) (hw : Cond.constantLong md.1.cls i v ∈ gl) (h : xWp l g md mc ms (pc + 3) L (.long v :: st) cs M Q) : xWp l g md mc ms pc L st cs M Q := fun p e R s m args below meth c A H locs Z ls hF hE hP hS hl => lv_ldc2 hF.1 hF.2.1 hF.2.2.2.1 (hF.2.2.2.2.1 _ hw) d (h p e R s m args below meth c A H locs Z ls hF hE hP hS hl)
theorem xr_iload_n {n : Fin 4} (i : Nat) {t : Nat} {x : Int32} (d : decode md.2.1 pc = .ok (.iload_n n, 1)) (hi : (n : Nat) = i) (hL : L[i]? = some (t + 1, .int x)) (h : xWp l g md mc ms (pc + 1) L (.int x :: st) cs M Q) : xWp l g md mc ms pc L st cs M Q := xWp.lift (fun _ _ _ _ _ _ _ _ _ _ _ _ _ _ _ hx hb hl k => lv_iload_n hx hb d hi (hl.2.2 i _ _ hL (Nat.succ_ne_zero _)).1 k) h
theorem xr_iload {i : Nat} {t : Nat} {x : Int32} (d : decode md.2.1 pc = .ok (.iload i, 2)) (hL : L[i]? = some (t + 1, .int x)) (h : xWp l g md mc ms (pc + 2) L (.int x :: st) cs M Q) : xWp l g md mc ms pc L st cs M Q := xWp.lift (fun _ _ _ _ _ _ _ _ _ _ _ _ _ _ _ hx hb hl k => lv_iload hx hb d (hl.2.2 i _ _ hL (Nat.succ_ne_zero _)).1 k) h
theorem xr_lload_n {n : Fin 4} (i : Nat) {t : Nat} {x : Int64} (d : decode md.2.1 pc = .ok (.lload_n n, 1)) (hi : (n : Nat) = i) (hL : L[i]? = some (t + 1, .long x)) (h : xWp l g md mc ms (pc + 1) L (.long x :: st) cs M Q) : xWp l g md mc ms pc L st cs M Q := xWp.lift (fun _ _ _ _ _ _ _ _ _ _ _ _ _ _ _ hx hb hl k => lv_lload_n hx hb d hi (hl.2.2 i _ _ hL (Nat.succ_ne_zero _)).1 k) h
theorem xr_lload {i : Nat} {t : Nat} {x : Int64} (d : decode md.2.1 pc = .ok (.lload i, 2)) (hL : L[i]? = some (t + 1, .long x)) (h : xWp l g md mc ms (pc + 2) L (.long x :: st) cs M Q) : xWp l g md mc ms pc L st cs M Q := xWp.lift (fun _ _ _ _ _ _ _ _ _ _ _ _ _ _ _ hx hb hl k => lv_lload hx hb d (hl.2.2 i _ _ hL (Nat.succ_ne_zero _)).1 k) h
theorem xr_aload_n {n : Fin 4} (i : Nat) {t : Nat} {x : Option Nat} (d : decode md.2.1 pc = .ok (.aload_n n, 1)) (hi : (n : Nat) = i) (hL : L[i]? = some (t + 1, va_rf x)) (h : xWp l g md mc ms (pc + 1) L (va_rf x :: st) cs M Q) : xWp l g md mc ms pc L st cs M Q := xWp.lift (fun _ _ _ _ _ _ _ _ _ _ _ _ _ _ _ hx hb hl k => by
  have hz := (hl.2.2 i _ _ hL (Nat.succ_ne_zero _)).1
  cases x with
  | none => exact lv_aload_nN hx hb d hi hz k
  | some a => exact lv_aload_n hx hb d hi hz k) h
theorem xr_aload {i : Nat} {t : Nat} {x : Option Nat} (d : decode md.2.1 pc = .ok (.aload i, 2)) (hL : L[i]? = some (t + 1, va_rf x)) (h : xWp l g md mc ms (pc + 2) L (va_rf x :: st) cs M Q) : xWp l g md mc ms pc L st cs M Q := xWp.lift (fun _ _ _ _ _ _ _ _ _ _ _ _ _ _ _ hx hb hl k => by
  have hz := (hl.2.2 i _ _ hL (Nat.succ_ne_zero _)).1
  cases x with
  | none => exact lv_aloadN hx hb d hz k
  | some a => exact lv_aload hx hb d hz k) h
/-- locals behind a store -/
def xkill (i : Nat) (L : List (Nat × Value)) : List (Nat × Value) := match i with
  | 0 => L
  | j + 1 => match L[j]? with
    | some (2, v) => L.set j (0, v)
    | _ => L
def xst1 (i : Nat) (v : Value) (L : List (Nat × Value)) : List (Nat × Value) := (xkill i L).set i (1, v)
def xst2 (i : Nat) (v : Value) (L : List (Nat × Value)) : List (Nat × Value) := ((xkill i L).set i (2, v)).set (i + 1) (0, v)
theorem xkill_get {i j t : Nat} {v : Value} {L : List (Nat × Value)} (h : (xkill i L)[j]? = some (t, v)) (ht : t ≠ 0) : L[j]? = some (t, v) ∧ ¬ (j + 1 = i ∧ t = 2) := by
  unfold xkill at h
  cases i with
  | zero => exact ⟨h, by omega⟩
  | succ k =>
    simp only at h
    split at h
    next w hw =>
      by_cases hk : k = j
      · subst hk
        rw [List.getElem?_set_self (List.getElem?_eq_some_iff.mp hw).1] at h
        cases h
        exact absurd rfl ht
      · rw [List.getElem?_set_ne hk] at h
        exact ⟨h, by omega⟩
    next hw =>
      refine ⟨h, fun hz => ?_⟩
      obtain ⟨h1, h2⟩ := hz
      have : j = k := by omega
      subst this; subst h2
      exact hw v h
theorem xst1_ok {ls : Array Slot} {n i : Nat} {v : Value} {L : List (Nat × Value)} (hl : xLr ls n L) (hi : i < n) (hc : v.category = 1) : ∃ ls', storeLocals ls i v = some ls' ∧ xLr ls' n (xst1 i v L) := by
  have hh : lv_has ls n ((xkill i L).zipIdx.filterMap (fun q => if q.1.1 = 0 ∨ q.2 = i then none else some (q.2, q.1.2))) := ⟨hl.1, hl.2.1, fun q hq => by
    obtain ⟨x, hx, hq⟩ := List.mem_filterMap.mp hq
    obtain ⟨⟨t, w⟩, j⟩ := x
    have hj := List.mem_zipIdx_iff_getElem?.mp hx
    simp only at hj hq
    split at hq
    next => cases hq
    next hne =>
      cases hq
      exact (hl.2.2 j t w (xkill_get hj (fun z => hne (Or.inl z))).1 (fun z => hne (Or.inl z))).1⟩
  obtain ⟨ls', h1, h2⟩ := lv_store1 hh hi hc
  refine ⟨ls', h1, h2.1, h2.2.1, fun j t w hj ht => ?_⟩
  unfold xst1 at hj
  by_cases hij : i = j
  · subst hij
    have hlen : i < (xkill i L).length := by
      have := (List.getElem?_eq_some_iff.mp hj).1
      simpa using this
    rw [List.getElem?_set_self hlen] at hj
    cases hj
    exact ⟨h2.2.2 (i, v) List.mem_cons_self, hc⟩
  · rw [List.getElem?_set_ne hij] at hj
    obtain ⟨k1, k2⟩ := xkill_get hj ht
    obtain ⟨k3, k4⟩ := hl.2.2 j t w k1 ht
    refine ⟨h2.2.2 (j, w) (List.mem_cons_of_mem _ (List.mem_filter.mpr ⟨List.mem_filterMap.mpr ⟨((t, w), j), List.mem_zipIdx_iff_getElem?.mpr hj, by simp [ht, Ne.symm hij]⟩, ?_⟩)), k4⟩
    have e1 : (j == i) = false := by simp [Ne.symm hij]
    simp only [e1, Bool.not_false, Bool.true_and]
    rw [k4]
    by_cases hz : j + 1 = i
    · have : t ≠ 2 := fun q => k2 ⟨hz, q⟩
      simp [this]
    · simp [hz]
theorem xst2_ok {ls : Array Slot} {n i : Nat} {v : Value} {L : List (Nat × Value)} (hl : xLr ls n L) (hi : i + 1 < n) (hc : v.category = 2) : ∃ ls', storeLocals ls i v = some ls' ∧ xLr ls' n (xst2 i v L) := by
  have hh : lv_has ls n ((xkill i L).zipIdx.filterMap (fun q => if q.1.1 = 0 ∨ q.2 = i then none else some (q.2, q.1.2))) := ⟨hl.1, hl.2.1, fun q hq => by
    obtain ⟨x, hx, hq⟩ := List.mem_filterMap.mp hq
    obtain ⟨⟨t, w⟩, j⟩ := x
    have hj := List.mem_zipIdx_iff_getElem?.mp hx
    simp only at hj hq
    split at hq
    next => cases hq
    next hne =>
      cases hq
      exact (hl.2.2 j t w (xkill_get hj (fun z => hne (Or.inl z))).1 (fun z => hne (Or.inl z))).1⟩
  obtain ⟨ls', h1, h2⟩ := lv_store2 hh hi hc
  refine ⟨ls', h1, h2.1, h2.2.1, fun j t w hj ht => ?_⟩
  unfold xst2 at hj
  by_cases hij2 : i + 1 = j
  · subst hij2
    have hlen : i + 1 < ((xkill i L).set i (2, v)).length := by
      have := (List.getElem?_eq_some_iff.mp hj).1
      simpa using this
    rw [List.getElem?_set_self hlen] at hj
    cases hj
    exact absurd rfl ht
  · rw [List.getElem?_set_ne hij2] at hj
    by_cases hij : i = j
    · subst hij
      have hlen : i < (xkill i L).length := by
        have := (List.getElem?_eq_some_iff.mp hj).1
        simpa using this
      rw [List.getElem?_set_self hlen] at hj
      cases hj
      exact ⟨h2.2.2 (i, v) List.mem_cons_self, hc⟩
    · rw [List.getElem?_set_ne hij] at hj
      obtain ⟨k1, k2⟩ := xkill_get hj ht
      obtain ⟨k3, k4⟩ := hl.2.2 j t w k1 ht
      refine ⟨h2.2.2 (j, w) (List.mem_cons_of_mem _ (List.mem_filter.mpr ⟨List.mem_filterMap.mpr ⟨((t, w), j), List.mem_zipIdx_iff_getElem?.mpr hj, by simp [ht, Ne.symm hij]⟩, ?_⟩)), k4⟩
      have e1 : (j == i) = false := by simp [Ne.symm hij]
      have e2 : (j == i + 1) = false := by simp [Ne.symm hij2]
      simp only [e1, e2, Bool.not_false, Bool.true_and]
      rw [k4]
      by_cases hz : j + 1 = i
      · have : t ≠ 2 := fun q => k2 ⟨hz, q⟩
        simp [this]
      · simp [hz]

theorem xr_istore_n {n : Fin 4} (i : Nat) {x : Int32} (d : decode md.2.1 pc = .ok (.istore_n n, 1)) (hi : (n : Nat) = i) (hn : i < md.2.2.1) (h : xWp l g md mc ms (pc + 1) (xst1 i (Value.int x) L) st cs M Q) : xWp l g md mc ms pc L (Value.int x :: st) cs M Q := fun p e R s m args below meth c A H locs Z ls hF hE hP hS hl => by
  obtain ⟨hx, hb, hF'⟩ := id hF
  obtain ⟨ls', e', h'⟩ := xst1_ok (v := Value.int x) hl hn rfl
  intro T hT X
  obtain ⟨t, a, b⟩ := h p e R s m args below meth c A H locs Z ls' hF hE hP hS h' T hT X
  refine ⟨t, ?_, b⟩
  subst hi
  jvm_step X.here [X.here.top, ↓top_set X.here.top, hx, hb, d, e']
  exact a
theorem xr_istore {i : Nat} {x : Int32} (d : decode md.2.1 pc = .ok (.istore i, 2)) (hn : i < md.2.2.1) (h : xWp l g md mc ms (pc + 2) (xst1 i (Value.int x) L) st cs M Q) : xWp l g md mc ms pc L (Value.int x :: st) cs M Q := fun p e R s m args below meth c A H locs Z ls hF hE hP hS hl => by
  obtain ⟨hx, hb, hF'⟩ := id hF
  obtain ⟨ls', e', h'⟩ := xst1_ok (v := Value.int x) hl hn rfl
  intro T hT X
  obtain ⟨t, a, b⟩ := h p e R s m args below meth c A H locs Z ls' hF hE hP hS h' T hT X
  refine ⟨t, ?_, b⟩
  jvm_step X.here [X.here.top, ↓top_set X.here.top, hx, hb, d, e']
  exact a
theorem xr_lstore_n {n : Fin 4} (i : Nat) {x : Int64} (d : decode md.2.1 pc = .ok (.lstore_n n, 1)) (hi : (n : Nat) = i) (hn : i + 1 < md.2.2.1) (h : xWp l g md mc ms (pc + 1) (xst2 i (Value.long x) L) st cs M Q) : xWp l g md mc ms pc L (Value.long x :: st) cs M Q := fun p e R s m args below meth c A H locs Z ls hF hE hP hS hl => by
  obtain ⟨hx, hb, hF'⟩ := id hF
  obtain ⟨ls', e', h'⟩ := xst2_ok (v := Value.long x) hl hn rfl
  intro T hT X
  obtain ⟨t, a, b⟩ := h p e R s m args below meth c A H locs Z ls' hF hE hP hS h' T hT X
  refine ⟨t, ?_, b⟩
  subst hi
  jvm_step X.here [X.here.top, ↓top_set X.here.top, hx, hb, d, e']
  exact a
theorem xr_lstore {i : Nat} {x : Int64} (d : decode md.2.1 pc = .ok (.lstore i, 2)) (hn : i + 1 < md.2.2.1) (h : xWp l g md mc ms (pc + 2) (xst2 i (Value.long x) L) st cs M Q) : xWp l g md mc ms pc L (Value.long x :: st) cs M Q := fun p e R s m args below meth c A H locs Z ls hF hE hP hS hl => by
  obtain ⟨hx, hb, hF'⟩ := id hF
  obtain ⟨ls', e', h'⟩ := xst2_ok (v := Value.long x) hl hn rfl
  intro T hT X
  obtain ⟨t, a, b⟩ := h p e R s m args below meth c A H locs Z ls' hF hE hP hS h' T hT X
  refine ⟨t, ?_, b⟩
  jvm_step X.here [X.here.top, ↓top_set X.here.top, hx, hb, d, e']
  exact a
theorem xr_astore_n {n : Fin 4} (i : Nat) {x : Option Nat} (d : decode md.2.1 pc = .ok (.astore_n n, 1)) (hi : (n : Nat) = i) (hn : i < md.2.2.1) (h : xWp l g md mc ms (pc + 1) (xst1 i (va_rf x) L) st cs M Q) : xWp l g md mc ms pc L (va_rf x :: st) cs M Q := fun p e R s m args below meth c A H locs Z ls hF hE hP hS hl => by
  obtain ⟨hx, hb, hF'⟩ := id hF
  obtain ⟨ls', e', h'⟩ := xst1_ok (v := va_rf x) hl hn (by cases x <;> rfl)
  intro T hT X
  obtain ⟨t, a, b⟩ := h p e R s m args below meth c A H locs Z ls' hF hE hP hS h' T hT X
  refine ⟨t, ?_, b⟩
  subst hi
  cases x with
  | none =>
    simp only [va_rf] at e'
    jvm_step X.here [X.here.top, ↓top_set X.here.top, hx, hb, d, e', Value.isRef, va_rf]
    exact a
  | some q =>
    simp only [va_rf] at e'
    jvm_step X.here [X.here.top, ↓top_set X.here.top, hx, hb, d, e', Value.isRef, va_rf]
    exact a
theorem xr_astore {i : Nat} {x : Option Nat} (d : decode md.2.1 pc = .ok (.astore i, 2)) (hn : i < md.2.2.1) (h : xWp l g md mc ms (pc + 2) (xst1 i (va_rf x) L) st cs M Q) : xWp l g md mc ms pc L (va_rf x :: st) cs M Q := fun p e R s m args below meth c A H locs Z ls hF hE hP hS hl => by
  obtain ⟨hx, hb, hF'⟩ := id hF
  obtain ⟨ls', e', h'⟩ := xst1_ok (v := va_rf x) hl hn (by cases x <;> rfl)
  intro T hT X
  obtain ⟨t, a, b⟩ := h p e R s m args below meth c A H locs Z ls' hF hE hP hS h' T hT X
  refine ⟨t, ?_, b⟩
  cases x with
  | none =>
    simp only [va_rf] at e'
    jvm_step X.here [X.here.top, ↓top_set X.here.top, hx, hb, d, e', Value.isRef, va_rf]
    exact a
  | some q =>
    simp only [va_rf] at e'
    jvm_step X.here [X.here.top, ↓top_set X.here.top, hx, hb, d, e', Value.isRef, va_rf]
    exact a
theorem xr_iinc {i : Nat} {n : Int} {t : Nat} {x : Int32} (v : Int32) (d : decode md.2.1 pc = .ok (.iinc i n, 3)) (hL : L[i]? = some (t + 1, .int x)) (hv : x + Int32.ofInt n = v) (hn : i < md.2.2.1) (h : xWp l g md mc ms (pc + 3) (xst1 i (.int v) L) st cs M Q) : xWp l g md mc ms pc L st cs M Q := fun p e R s m args below meth c A H locs Z ls hF hE hP hS hl => by
  subst hv
  obtain ⟨hx, hb, hF'⟩ := id hF
  have hg := (hl.2.2 i _ _ hL (Nat.succ_ne_zero _)).1
  obtain ⟨ls', e', h'⟩ := xst1_ok (v := .int (x + Int32.ofInt n)) hl hn rfl
  intro T hT X
  obtain ⟨t, a, b⟩ := h p e R s m args below meth c A H locs Z ls' hF hE hP hS h' T hT X
  refine ⟨t, ?_, b⟩
  jvm_step X.here [X.here.top, ↓top_set X.here.top, hx, hb, d, hg, e']
  exact a
theorem xr_iadd {x y : Int32} (d : decode md.2.1 pc = .ok (.iadd, 1)) (h : xWp l g md mc ms (pc + 1) L (.int (x + y) :: st) cs M Q) : xWp l g md mc ms pc L (.int y :: .int x :: st) cs M Q := xWp.lift (fun _ _ _ _ _ _ _ _ _ _ _ _ _ _ _ hx hb _ k => lv_iadd hx hb d k) h
theorem xr_isub {x y : Int32} (d : decode md.2.1 pc = .ok (.isub, 1)) (h : xWp l g md mc ms (pc + 1) L (.int (x - y) :: st) cs M Q) : xWp l g md mc ms pc L (.int y :: .int x :: st) cs M Q := xWp.lift (fun _ _ _ _ _ _ _ _ _ _ _ _ _ _ _ hx hb _ k => lv_isub hx hb d k) h
theorem xr_imul {x y : Int32} (d : decode md.2.1 pc = .ok (.imul, 1)) (h : xWp l g md mc ms (pc + 1) L (.int (x * y) :: st) cs M Q) : xWp l g md mc ms pc L (.int y :: .int x :: st) cs M Q := xWp.lift (fun _ _ _ _ _ _ _ _ _ _ _ _ _ _ _ hx hb _ k => lv_imul hx hb d k) h
theorem xr_iand {x y : Int32} (d : decode md.2.1 pc = .ok (.iand, 1)) (h : xWp l g md mc ms (pc + 1) L (.int (x &&& y) :: st) cs M Q) : xWp l g md mc ms pc L (.int y :: .int x :: st) cs M Q := xWp.lift (fun _ _ _ _ _ _ _ _ _ _ _ _ _ _ _ hx hb _ k => lv_iand hx hb d k) h
theorem xr_ior {x y : Int32} (d : decode md.2.1 pc = .ok (.ior, 1)) (h : xWp l g md mc ms (pc + 1) L (.int (x ||| y) :: st) cs M Q) : xWp l g md mc ms pc L (.int y :: .int x :: st) cs M Q := xWp.lift (fun _ _ _ _ _ _ _ _ _ _ _ _ _ _ _ hx hb _ k => lv_ior hx hb d k) h
theorem xr_ixor {x y : Int32} (d : decode md.2.1 pc = .ok (.ixor, 1)) (h : xWp l g md mc ms (pc + 1) L (.int (x ^^^ y) :: st) cs M Q) : xWp l g md mc ms pc L (.int y :: .int x :: st) cs M Q := xWp.lift (fun _ _ _ _ _ _ _ _ _ _ _ _ _ _ _ hx hb _ k => lv_ixor hx hb d k) h
theorem xr_ishl {x y : Int32} (d : decode md.2.1 pc = .ok (.ishl, 1)) (h : xWp l g md mc ms (pc + 1) L (.int (x <<< (y &&& 31)) :: st) cs M Q) : xWp l g md mc ms pc L (.int y :: .int x :: st) cs M Q := xWp.lift (fun _ _ _ _ _ _ _ _ _ _ _ _ _ _ _ hx hb _ k => lv_ishl hx hb d k) h
theorem xr_ishr {x y : Int32} (d : decode md.2.1 pc = .ok (.ishr, 1)) (h : xWp l g md mc ms (pc + 1) L (.int (x >>> (y &&& 31)) :: st) cs M Q) : xWp l g md mc ms pc L (.int y :: .int x :: st) cs M Q := xWp.lift (fun _ _ _ _ _ _ _ _ _ _ _ _ _ _ _ hx hb _ k => lv_ishr hx hb d k) h
theorem xr_irem {x y : Int32} (d : decode md.2.1 pc = .ok (.irem, 1)) (hne : ¬ y = 0) (h : xWp l g md mc ms (pc + 1) L (.int (x - x / y * y) :: st) cs M Q) : xWp l g md mc ms pc L (.int y :: .int x :: st) cs M Q := xWp.lift (fun _ _ _ _ _ _ _ _ _ _ _ _ _ _ _ hx hb _ k => lv_irem hx hb d hne k) h
theorem xr_ladd {x y : Int64} (d : decode md.2.1 pc = .ok (.ladd, 1)) (h : xWp l g md mc ms (pc + 1) L (.long (x + y) :: st) cs M Q) : xWp l g md mc ms pc L (.long y :: .long x :: st) cs M Q := xWp.lift (fun _ _ _ _ _ _ _ _ _ _ _ _ _ _ _ hx hb _ k => lv_ladd hx hb d k) h
theorem xr_lsub {x y : Int64} (d : decode md.2.1 pc = .ok (.lsub, 1)) (h : xWp l g md mc ms (pc + 1) L (.long (x - y) :: st) cs M Q) : xWp l g md mc ms pc L (.long y :: .long x :: st) cs M Q := xWp.lift (fun _ _ _ _ _ _ _ _ _ _ _ _ _ _ _ hx hb _ k => lv_lsub hx hb d k) h
theorem xr_lmul {x y : Int64} (d : decode md.2.1 pc = .ok (.lmul, 1)) (h : xWp l g md mc ms (pc + 1) L (.long (x * y) :: st) cs M Q) : xWp l g md mc ms pc L (.long y :: .long x :: st) cs M Q := xWp.lift (fun _ _ _ _ _ _ _ _ _ _ _ _ _ _ _ hx hb _ k => lv_lmul hx hb d k) h
theorem xr_land {x y : Int64} (d : decode md.2.1 pc = .ok (.land, 1)) (h : xWp l g md mc ms (pc + 1) L (.long (x &&& y) :: st) cs M Q) : xWp l g md mc ms pc L (.long y :: .long x :: st) cs M Q := xWp.lift (fun _ _ _ _ _ _ _ _ _ _ _ _ _ _ _ hx hb _ k => lv_land hx hb d k) h
theorem xr_lor {x y : Int64} (d : decode md.2.1 pc = .ok (.lor, 1)) (h : xWp l g md mc ms (pc + 1) L (.long (x ||| y) :: st) cs M Q) : xWp l g md mc ms pc L (.long y :: .long x :: st) cs M Q := xWp.lift (fun _ _ _ _ _ _ _ _ _ _ _ _ _ _ _ hx hb _ k => lv_lor hx hb d k) h
theorem xr_lxor {x y : Int64} (d : decode md.2.1 pc = .ok (.lxor, 1)) (h : xWp l g md mc ms (pc + 1) L (.long (x ^^^ y) :: st) cs M Q) : xWp l g md mc ms pc L (.long y :: .long x :: st) cs M Q := xWp.lift (fun _ _ _ _ _ _ _ _ _ _ _ _ _ _ _ hx hb _ k => lv_lxor hx hb d k) h
theorem xr_lrem {x y : Int64} (d : decode md.2.1 pc = .ok (.lrem, 1)) (hne : ¬ y = 0) (h : xWp l g md mc ms (pc + 1) L (.long (x - x / y * y) :: st) cs M Q) : xWp l g md mc ms pc L (.long y :: .long x :: st) cs M Q := xWp.lift (fun _ _ _ _ _ _ _ _ _ _ _ _ _ _ _ hx hb _ k => lv_lrem hx hb d hne k) h
theorem xr_lcmp {x y : Int64} (d : decode md.2.1 pc = .ok (.lcmp, 1)) (h : xWp l g md mc ms (pc + 1) L (.int (lg_cmp x y) :: st) cs M Q) : xWp l g md mc ms pc L (.long y :: .long x :: st) cs M Q := xWp.lift (fun _ _ _ _ _ _ _ _ _ _ _ _ _ _ _ hx hb _ k => W.lcmp hx hb d k) h
theorem xr_lushr {x : Int64} {y : Int32} (d : decode md.2.1 pc = .ok (.lushr, 1)) (h : xWp l g md mc ms (pc + 1) L (.long ((x.toUInt64 >>> (y.toInt64.toUInt64 &&& Int64.toUInt64 63)).toInt64) :: st) cs M Q) : xWp l g md mc ms pc L (.int y :: .long x :: st) cs M Q := xWp.lift (fun _ _ _ _ _ _ _ _ _ _ _ _ _ _ _ hx hb _ k => lv_lushr hx hb d rfl k) h
theorem xr_lshl {x : Int64} {y : Int32} (d : decode md.2.1 pc = .ok (.lshl, 1)) (h : xWp l g md mc ms (pc + 1) L (.long (x <<< (y.toInt64 &&& 63)) :: st) cs M Q) : xWp l g md mc ms pc L (.int y :: .long x :: st) cs M Q := xWp.lift (fun _ _ _ _ _ _ _ _ _ _ _ _ _ _ _ hx hb _ k => lv_lshl hx hb d rfl k) h
theorem xr_lshr {x : Int64} {y : Int32} (d : decode md.2.1 pc = .ok (.lshr, 1)) (h : xWp l g md mc ms (pc + 1) L (.long (x >>> (y.toInt64 &&& 63)) :: st) cs M Q) : xWp l g md mc ms pc L (.int y :: .long x :: st) cs M Q := xWp.lift (fun _ _ _ _ _ _ _ _ _ _ _ _ _ _ _ hx hb _ k => lv_lshr hx hb d rfl k) h
theorem xr_i2l {x : Int32} (d : decode md.2.1 pc = .ok (.i2l, 1)) (h : xWp l g md mc ms (pc + 1) L (.long x.toInt64 :: st) cs M Q) : xWp l g md mc ms pc L (.int x :: st) cs M Q := xWp.lift (fun _ _ _ _ _ _ _ _ _ _ _ _ _ _ _ hx hb _ k => lv_i2l hx hb d rfl k) h
theorem xr_l2i {x : Int64} (d : decode md.2.1 pc = .ok (.l2i, 1)) (h : xWp l g md mc ms (pc + 1) L (.int x.toInt32 :: st) cs M Q) : xWp l g md mc ms pc L (.long x :: st) cs M Q := xWp.lift (fun _ _ _ _ _ _ _ _ _ _ _ _ _ _ _ hx hb _ k => lv_l2i hx hb d rfl k) h
theorem xr_i2b {x : Int32} (d : decode md.2.1 pc = .ok (.i2b, 1)) (h : xWp l g md mc ms (pc + 1) L (.int x.toInt8.toInt32 :: st) cs M Q) : xWp l g md mc ms pc L (.int x :: st) cs M Q := xWp.lift (fun _ _ _ _ _ _ _ _ _ _ _ _ _ _ _ hx hb _ k => lv_i2b hx hb d rfl k) h
theorem xr_dup {v : Value} (d : decode md.2.1 pc = .ok (.dup, 1)) (hv : v.category = 1) (h : xWp l g md mc ms (pc + 1) L (v :: v :: st) cs M Q) : xWp l g md mc ms pc L (v :: st) cs M Q := xWp.lift (fun _ _ _ _ _ _ _ _ _ _ _ _ _ _ _ hx hb _ k => lv_dup hx hb d hv k) h
theorem xr_pop {v : Value} (d : decode md.2.1 pc = .ok (.pop, 1)) (hv : v.category = 1) (h : xWp l g md mc ms (pc + 1) L st cs M Q) : xWp l g md mc ms pc L (v :: st) cs M Q := xWp.lift (fun _ _ _ _ _ _ _ _ _ _ _ _ _ _ _ hx hb _ k => lv_pop hx hb d hv k) h
theorem xr_dup_x1 {v u : Value} (d : decode md.2.1 pc = .ok (.dup_x1, 1)) (hv : v.category = 1) (hu : u.category = 1) (h : xWp l g md mc ms (pc + 1) L (v :: u :: v :: st) cs M Q) : xWp l g md mc ms pc L (v :: u :: st) cs M Q := xWp.lift (fun _ _ _ _ _ _ _ _ _ _ _ _ _ _ _ hx hb _ k => lv_dup_x1 hx hb d hv hu k) h
theorem xr_dup2 {v u : Value} (d : decode md.2.1 pc = .ok (.dup2, 1)) (hv : v.category = 1) (hu : u.category = 1) (h : xWp l g md mc ms (pc + 1) L (v :: u :: v :: u :: st) cs M Q) : xWp l g md mc ms pc L (v :: u :: st) cs M Q := xWp.lift (fun _ _ _ _ _ _ _ _ _ _ _ _ _ _ _ hx hb _ k => lv_dup2_11 hx hb d hv hu k) h
theorem xr_goto {off : Int} (tgt : Nat) (d : decode md.2.1 pc = .ok (.goto off, 3)) (ht : (pc : Int) + off = (tgt : Int)) (h : xWp l g md mc ms tgt L st cs M Q) : xWp l g md mc ms pc L st cs M Q := xWp.lift (fun _ _ _ _ _ _ _ _ _ _ _ _ _ _ _ hx hb _ k => lv_goto hx hb d ht k) h
theorem xr_if_eq {x : Int32} {off : Int} (tgt : Nat) (d : decode md.2.1 pc = .ok (.ifCond .eq off, 3)) (ht : (pc : Int) + off = (tgt : Int)) (h1 : x = 0 → xWp l g md mc ms tgt L st cs M Q) (h2 : ¬ x = 0 → xWp l g md mc ms (pc + 3) L st cs M Q) : xWp l g md mc ms pc L (.int x :: st) cs M Q := xWp.lift2 (fun _ _ _ _ _ _ _ _ _ _ _ _ _ _ _ hx hb k1 k2 => lv_if_eq hx hb d ht k1 k2) h1 h2
theorem xr_icmp_eq {x y : Int32} {off : Int} (tgt : Nat) (d : decode md.2.1 pc = .ok (.if_icmp .eq off, 3)) (ht : (pc : Int) + off = (tgt : Int)) (h1 : x = y → xWp l g md mc ms tgt L st cs M Q) (h2 : ¬ x = y → xWp l g md mc ms (pc + 3) L st cs M Q) : xWp l g md mc ms pc L (.int y :: .int x :: st) cs M Q := xWp.lift2 (fun _ _ _ _ _ _ _ _ _ _ _ _ _ _ _ hx hb k1 k2 => lv_icmp_eq hx hb d ht k1 k2) h1 h2
theorem xr_if_ne {x : Int32} {off : Int} (tgt : Nat) (d : decode md.2.1 pc = .ok (.ifCond .ne off, 3)) (ht : (pc : Int) + off = (tgt : Int)) (h1 : ¬ x = 0 → xWp l g md mc ms tgt L st cs M Q) (h2 : x = 0 → xWp l g md mc ms (pc + 3) L st cs M Q) : xWp l g md mc ms pc L (.int x :: st) cs M Q := xWp.lift2 (C := ¬ x = 0) (fun _ _ _ _ _ _ _ _ _ _ _ _ _ _ _ hx hb k1 k2 => lv_if_ne hx hb d ht k1 (fun h => k2 (fun q => q h))) h1 (fun h => h2 (Classical.not_not.mp h))
theorem xr_icmp_ne {x y : Int32} {off : Int} (tgt : Nat) (d : decode md.2.1 pc = .ok (.if_icmp .ne off, 3)) (ht : (pc : Int) + off = (tgt : Int)) (h1 : ¬ x = y → xWp l g md mc ms tgt L st cs M Q) (h2 : x = y → xWp l g md mc ms (pc + 3) L st cs M Q) : xWp l g md mc ms pc L (.int y :: .int x :: st) cs M Q := xWp.lift2 (C := ¬ x = y) (fun _ _ _ _ _ _ _ _ _ _ _ _ _ _ _ hx hb k1 k2 => lv_icmp_ne hx hb d ht k1 (fun h => k2 (fun q => q h))) h1 (fun h => h2 (Classical.not_not.mp h))
theorem xr_if_lt {x : Int32} {off : Int} (tgt : Nat) (d : decode md.2.1 pc = .ok (.ifCond .lt off, 3)) (ht : (pc : Int) + off = (tgt : Int)) (h1 : x < 0 → xWp l g md mc ms tgt L st cs M Q) (h2 : ¬ x < 0 → xWp l g md mc ms (pc + 3) L st cs M Q) : xWp l g md mc ms pc L (.int x :: st) cs M Q := xWp.lift2 (fun _ _ _ _ _ _ _ _ _ _ _ _ _ _ _ hx hb k1 k2 => lv_if_lt hx hb d ht k1 k2) h1 h2
theorem xr_icmp_lt {x y : Int32} {off : Int} (tgt : Nat) (d : decode md.2.1 pc = .ok (.if_icmp .lt off, 3)) (ht : (pc : Int) + off = (tgt : Int)) (h1 : x < y → xWp l g md mc ms tgt L st cs M Q) (h2 : ¬ x < y → xWp l g md mc ms (pc + 3) L st cs M Q) : xWp l g md mc ms pc L (.int y :: .int x :: st) cs M Q := xWp.lift2 (fun _ _ _ _ _ _ _ _ _ _ _ _ _ _ _ hx hb k1 k2 => lv_icmp_lt hx hb d ht k1 k2) h1 h2
theorem xr_if_ge {x : Int32} {off : Int} (tgt : Nat) (d : decode md.2.1 pc = .ok (.ifCond .ge off, 3)) (ht : (pc : Int) + off = (tgt : Int)) (h1 : 0 ≤ x → xWp l g md mc ms tgt L st cs M Q) (h2 : ¬ 0 ≤ x → xWp l g md mc ms (pc + 3) L st cs M Q) : xWp l g md mc ms pc L (.int x :: st) cs M Q := xWp.lift2 (fun _ _ _ _ _ _ _ _ _ _ _ _ _ _ _ hx hb k1 k2 => lv_if_ge hx hb d ht k1 k2) h1 h2
theorem xr_icmp_ge {x y : Int32} {off : Int} (tgt : Nat) (d : decode md.2.1 pc = .ok (.if_icmp .ge off, 3)) (ht : (pc : Int) + off = (tgt : Int)) (h1 : y ≤ x → xWp l g md mc ms tgt L st cs M Q) (h2 : ¬ y ≤ x → xWp l g md mc ms (pc + 3) L st cs M Q) : xWp l g md mc ms pc L (.int y :: .int x :: st) cs M Q := xWp.lift2 (fun _ _ _ _ _ _ _ _ _ _ _ _ _ _ _ hx hb k1 k2 => lv_icmp_ge hx hb d ht k1 k2) h1 h2
theorem xr_if_gt {x : Int32} {off : Int} (tgt : Nat) (d : decode md.2.1 pc = .ok (.ifCond .gt off, 3)) (ht : (pc : Int) + off = (tgt : Int)) (h1 : 0 < x → xWp l g md mc ms tgt L st cs M Q) (h2 : ¬ 0 < x → xWp l g md mc ms (pc + 3) L st cs M Q) : xWp l g md mc ms pc L (.int x :: st) cs M Q := xWp.lift2 (fun _ _ _ _ _ _ _ _ _ _ _ _ _ _ _ hx hb k1 k2 => lv_if_gt hx hb d ht k1 k2) h1 h2
theorem xr_icmp_gt {x y : Int32} {off : Int} (tgt : Nat) (d : decode md.2.1 pc = .ok (.if_icmp .gt off, 3)) (ht : (pc : Int) + off = (tgt : Int)) (h1 : y < x → xWp l g md mc ms tgt L st cs M Q) (h2 : ¬ y < x → xWp l g md mc ms (pc + 3) L st cs M Q) : xWp l g md mc ms pc L (.int y :: .int x :: st) cs M Q := xWp.lift2 (fun _ _ _ _ _ _ _ _ _ _ _ _ _ _ _ hx hb k1 k2 => lv_icmp_gt hx hb d ht k1 k2) h1 h2
theorem xr_if_le {x : Int32} {off : Int} (tgt : Nat) (d : decode md.2.1 pc = .ok (.ifCond .le off, 3)) (ht : (pc : Int) + off = (tgt : Int)) (h1 : x ≤ 0 → xWp l g md mc ms tgt L st cs M Q) (h2 : ¬ x ≤ 0 → xWp l g md mc ms (pc + 3) L st cs M Q) : xWp l g md mc ms pc L (.int x :: st) cs M Q := xWp.lift2 (fun _ _ _ _ _ _ _ _ _ _ _ _ _ _ _ hx hb k1 k2 => lv_if_le hx hb d ht k1 k2) h1 h2
theorem xr_icmp_le {x y : Int32} {off : Int} (tgt : Nat) (d : decode md.2.1 pc = .ok (.if_icmp .le off, 3)) (ht : (pc : Int) + off = (tgt : Int)) (h1 : x ≤ y → xWp l g md mc ms tgt L st cs M Q) (h2 : ¬ x ≤ y → xWp l g md mc ms (pc + 3) L st cs M Q) : xWp l g md mc ms pc L (.int y :: .int x :: st) cs M Q := xWp.lift2 (fun _ _ _ _ _ _ _ _ _ _ _ _ _ _ _ hx hb k1 k2 => lv_icmp_le hx hb d ht k1 k2) h1 h2
theorem xr_acmp_eq {rx ry : Option Nat} {off : Int} (tgt : Nat) (d : decode md.2.1 pc = .ok (.if_acmp .eq off, 3)) (ht : (pc : Int) + off = (tgt : Int)) (h1 : rx = ry → xWp l g md mc ms tgt L st cs M Q) (h2 : ¬ rx = ry → xWp l g md mc ms (pc + 3) L st cs M Q) : xWp l g md mc ms pc L (va_rf ry :: va_rf rx :: st) cs M Q := xWp.lift2 (fun _ _ _ _ _ _ _ _ _ _ _ _ _ _ _ hx hb k1 k2 => lv_acmp_eq hx hb d ht k1 k2) h1 h2
theorem xr_acmp_ne {rx ry : Option Nat} {off : Int} (tgt : Nat) (d : decode md.2.1 pc = .ok (.if_acmp .ne off, 3)) (ht : (pc : Int) + off = (tgt : Int)) (h1 : ¬ rx = ry → xWp l g md mc ms tgt L st cs M Q) (h2 : rx = ry → xWp l g md mc ms (pc + 3) L st cs M Q) : xWp l g md mc ms pc L (va_rf ry :: va_rf rx :: st) cs M Q := xWp.lift2 (C := ¬ rx = ry) (fun _ _ _ _ _ _ _ _ _ _ _ _ _ _ _ hx hb k1 k2 => lv_acmp_ne hx hb d ht k1 (fun h => k2 (fun q => q h))) h1 (fun h => h2 (Classical.not_not.mp h))
theorem xr_ifnull {r : Option Nat} {off : Int} (tgt : Nat) (d : decode md.2.1 pc = .ok (.ifnull off, 3)) (ht : (pc : Int) + off = (tgt : Int)) (h1 : r = none → xWp l g md mc ms tgt L st cs M Q) (h2 : ¬ r = none → xWp l g md mc ms (pc + 3) L st cs M Q) : xWp l g md mc ms pc L (va_rf r :: st) cs M Q := xWp.lift2 (fun _ _ _ _ _ _ _ _ _ _ _ _ _ _ _ hx hb k1 k2 => by
  cases r with
  | none => exact lv_ifnullN hx hb d ht (k1 rfl)
  | some a => exact lv_ifnull hx hb d (k2 (fun h => by cases h))) h1 h2
theorem xr_ifnonnull {r : Option Nat} {off : Int} (tgt : Nat) (d : decode md.2.1 pc = .ok (.ifnonnull off, 3)) (ht : (pc : Int) + off = (tgt : Int)) (h1 : ¬ r = none → xWp l g md mc ms tgt L st cs M Q) (h2 : r = none → xWp l g md mc ms (pc + 3) L st cs M Q) : xWp l g md mc ms pc L (va_rf r :: st) cs M Q := xWp.lift2 (C := ¬ r = none) (fun _ _ _ _ _ _ _ _ _ _ _ _ _ _ _ hx hb k1 k2 => by
  cases r with
  | none => exact lv_ifnonnullN hx hb d (k2 (fun h => h rfl))
  | some a => exact lv_ifnonnull hx hb d ht (k1 (fun h => by cases h))) h1 (fun h => h2 (Classical.not_not.mp h))
theorem xr_tableOut {dflt lo hi : Int} {offs : Array Int} {len : Nat} {x : Int32} (tgt : Nat) (d : decode md.2.1 pc = .ok (.tableswitch dflt lo hi offs, len)) (hc : x.toInt < lo ∨ hi < x.toInt) (ht : (pc : Int) + dflt = (tgt : Int)) (h : xWp l g md mc ms tgt L st cs M Q) : xWp l g md mc ms pc L (.int x :: st) cs M Q := xWp.lift (fun _ _ _ _ _ _ _ _ _ _ _ _ _ _ _ hx hb _ k => lv_tableOut hx hb d hc ht k) h
theorem xr_tableIn {dflt lo hi : Int} {offs : Array Int} {len : Nat} {x : Int32} {off : Int} (tgt : Nat) (d : decode md.2.1 pc = .ok (.tableswitch dflt lo hi offs, len)) (h1 : ¬ x.toInt < lo) (h2 : ¬ hi < x.toInt) (ho : offs[(x.toInt - lo).toNat]? = some off) (ht : (pc : Int) + off = (tgt : Int)) (h : xWp l g md mc ms tgt L st cs M Q) : xWp l g md mc ms pc L (.int x :: st) cs M Q := xWp.lift (fun _ _ _ _ _ _ _ _ _ _ _ _ _ _ _ hx hb _ k => lv_tableIn hx hb d h1 h2 ho ht k) h
theorem xr_ret (hm : cs.1 ≤ mc ∧ cs.2 ≤ ms) (hr : xRet md pc none) (h : Q none M) : xWp l g md mc ms pc L [] cs M Q := fun p e R s m args below meth c A H locs Z ls hF hE hP hS hl => W.widen hm.1 hm.2 (hE none M H locs pc ls h hP hS hr)
theorem xr_retv {v : Value} (hm : cs.1 ≤ mc ∧ cs.2 ≤ ms) (hr : xRet md pc (some v)) (h : Q (some v) M) : xWp l g md mc ms pc L [v] cs M Q := fun p e R s m args below meth c A H locs Z ls hF hE hP hS hl => W.widen hm.1 hm.2 (hE (some v) M H locs pc ls h hP hS hr)
theorem xRi {ty : FieldType} {v : Int32} (h1 : md.2.2.2.1 = some ty) (h2 : narrow ty (.int v) = .int v) (d : decode md.2.1 pc = .ok (.ireturn, 1)) : xRet md pc (some (.int v)) := Or.inr (Or.inl ⟨ty, v, h1, rfl, h2, d⟩)
theorem xRl {v : Int64} (h1 : md.2.2.2.1 = some .long) (d : decode md.2.1 pc = .ok (.lreturn, 1)) : xRet md pc (some (.long v)) := Or.inr (Or.inr (Or.inl ⟨v, h1, rfl, d⟩))
theorem xRa {n : String} {o : Option Nat} (h1 : md.2.2.2.1 = some (.object n)) (d : decode md.2.1 pc = .ok (.areturn, 1)) : xRet md pc (some (va_rf o)) := Or.inr (Or.inr (Or.inr ⟨n, o, h1, rfl, d⟩))
theorem xRv (h1 : md.2.2.2.1 = none) (d : decode md.2.1 pc = .ok (.return_, 1)) : xRet md pc none := Or.inl ⟨h1, rfl, d⟩
end XR
end
section
/-! THE ROWS of the judgement that read and write the world, make cells, and call. -/
section XMR
variable {l : Launch} {g : xG} {md : xMd} {mc ms pc : Nat} {L : List (Nat × Value)} {st : List Value} {cs : Nat × Nat} {M : xM} {Q : Option Value → xM → Prop}
/-- a field by its link -/
def xFl (own : String) (i ci k t : Nat) : Prop := ∃ (C : String) (T : u_T) (N : Nat), vwCl[ci]? = some (C, T, N) ∧ ci < 8 ∧ k < N ∧ (∀ w ∈ u_ws C T N, w ∈ gl) ∧ Cond.fieldLink own i (T k).1 (T k).2.1 (T k).2.2.1 ∈ gl ∧ (xF ci)[k]? = some t
/-- a field that is written -/
def xFp (fin : Bool) (own : String) (i ci k t : Nat) (ty : FieldType) : Prop := ∃ (C : String) (T : u_T) (N : Nat) (ty0 : Nat → FieldType), vwCl[ci]? = some (C, T, N) ∧ ci < 8 ∧ k < N ∧ (∀ w ∈ u_ws C T N, w ∈ gl) ∧ Cond.fieldLink own i (T k).1 (T k).2.1 (T k).2.2.1 ∈ gl ∧ (xF ci)[k]? = some t ∧ (∀ j, j < N → parseFieldDescriptor (T j).2.2.1 = some (ty0 j)) ∧ (∀ a, a < N → ∀ b, b < N → a ≠ b → (T a).2.1 ≠ (T b).2.1) ∧ (T k).2.2.2 = fin ∧ parseFieldDescriptor (T k).2.2.1 = some ty ∧ (fin = true → (T k).1 = own)
theorem xr_get {a i ci k : Nat} (t : Nat) (d : decode md.2.1 pc = .ok (.getfield i, 3)) (hf : xFl md.1.cls i ci k t) (ha : a ∈ xL M) (hk : xK M a = ci) (h : xWp l g md mc ms (pc + 3) L (xV M a k t :: st) cs M Q) : xWp l g md mc ms pc L (va_rf (some a) :: st) cs M Q := fun p e R s m args below meth c A H locs Z ls hF hE hP hS hl => by
  obtain ⟨C, T, N, h1, h2, h3, h4, h5, h6⟩ := hf
  obtain ⟨q, hq⟩ := xW_get g ha
  rw [xE_obj g hk h2] at hq
  exact va_get (D := g.1) (ci := ci) (C := C) (T := T) (N := N) hF.1 hF.2.1 hF.2.2.2.2.1 h4 hF.2.2.2.1 hF.2.2.2.2.2.1 hP.1 q hq h1 k h3 (hF.2.2.2.2.1 _ h5) (fun _ h9 => h9) (xFs_get M a _ k t h6) d (h p e R s m args below meth c A H locs Z ls hF hE hP hS hl)
theorem xr_getN {a : Nat} (d : decode md.2.1 pc = .ok (.getfield 27, 3)) (ho : md.1.cls = "RadixPages$Disk") (hin : ∀ w ∈ u_ws RX5 TX5 1, w ∈ gl) (ha : a ∈ xL M) (hk : xK M a = 2) (h : xWp l g md mc ms (pc + 3) L (va_rf (xR M a 0) :: st) cs M Q) : xWp l g md mc ms pc L (va_rf (some a) :: st) cs M Q := fun p e R s m args below meth c A H locs Z ls hF hE hP hS hl => by
  obtain ⟨q, hq⟩ := xW_get g ha
  rw [xE_obj g hk (by decide)] at hq
  exact va_getN (D := g.1) (ci := 2) (C := RX5) (T := TX5) (N := 1) hF.1 hF.2.1 hF.2.2.2.2.1 hin hF.2.2.2.1 hF.2.2.2.2.2.1 hP.1 q hq rfl 0 (by decide) (ref := "RadixPages$Row") (host := "RadixPages") (by rw [ho]; exact va_Nw.use rfl hF.2.2.2.2.2.2.2.2.2.2.2.2.2.2.2.2.1) (fun _ h9 => h9) (xFs_get M a _ 0 2 rfl) d (h p e R s m args below meth c A H locs Z ls hF hE hP hS hl)
theorem xr_putG {a i ci k t : Nat} {ty : FieldType} {v : Value} (M1 : xM) (d : decode md.2.1 pc = .ok (.putfield i, 3)) (hf : xFp false md.1.cls i ci k t ty) (ha : a ∈ xL M) (hk : xK M a = ci) (hn : narrow ty v = v) (hfit : fits ty v = true) (hL : xL M1 = xL M) (hK1 : xK M1 = xK M) (hv : xV M1 a k t = v) (ho : ∀ j u, j ≠ k → xV M1 a j u = xV M a j u) (hO : ∀ b, b ≠ a → xE g M1 b = xE g M b) (h : xWp l g md mc ms (pc + 3) L st cs M1 Q) : xWp l g md mc ms pc L (v :: va_rf (some a) :: st) cs M Q := fun p e R s m args below meth c A H locs Z ls hF hE hP hS hl => by
  obtain ⟨C, T, N, ty0, h1, h2, h3, h4, h5, h6, h7, h8, h9, h10, -⟩ := hf
  obtain ⟨q, hq⟩ := xW_get g ha
  have hq' := hq
  rw [xE_obj g hk h2] at hq'
  have hset : (xW g M).set q (a, .inr (ci, (xFs M a (xF ci)).set k v)) = xW g M1 := xW_set g hP.2 ha hq hL (by rw [xE_obj g (by rw [hK1]; exact hk) h2, xFs_set M M1 a (xF ci) k t v h6 hv (fun j u hj _ => ho j u hj)]) hO
  refine va_put (D := g.1) (ci := ci) (C := C) (T := T) (N := N) hF.1 hF.2.1 hF.2.2.2.2.1 h4 ty0 h7 h8 hF.2.2.2.1 hF.2.2.2.2.2.1 hP.1 hP.2 hS q hq' h1 k h3 (hF.2.2.2.2.1 _ h5) (fun _ z => z) h9 h10 hn hfit (by rw [xFs_len]; exact (List.getElem?_eq_some_iff.mp h6).1) d (fun H1 locs1 hP1 hD1 hS1 => ?_)
  rw [hset] at hP1 hD1
  exact h p e R s m args below meth c A H1 locs1 Z ls hF hE ⟨hP1, hD1⟩ hS1 hl
theorem xr_putGF {a i ci k t : Nat} {ty : FieldType} {v : Value} (M1 : xM) (d : decode md.2.1 pc = .ok (.putfield i, 3)) (hi : md.1.name = "<init>") (hf : xFp true md.1.cls i ci k t ty) (ha : a ∈ xL M) (hk : xK M a = ci) (hn : narrow ty v = v) (hfit : fits ty v = true) (hL : xL M1 = xL M) (hK1 : xK M1 = xK M) (hv : xV M1 a k t = v) (ho : ∀ j u, j ≠ k → xV M1 a j u = xV M a j u) (hO : ∀ b, b ≠ a → xE g M1 b = xE g M b) (h : xWp l g md mc ms (pc + 3) L st cs M1 Q) : xWp l g md mc ms pc L (v :: va_rf (some a) :: st) cs M Q := fun p e R s m args below meth c A H locs Z ls hF hE hP hS hl => by
  obtain ⟨C, T, N, ty0, h1, h2, h3, h4, h5, h6, h7, h8, h9, h10, h11⟩ := hf
  obtain ⟨q, hq⟩ := xW_get g ha
  have hq' := hq
  rw [xE_obj g hk h2] at hq'
  have hset : (xW g M).set q (a, .inr (ci, (xFs M a (xF ci)).set k v)) = xW g M1 := xW_set g hP.2 ha hq hL (by rw [xE_obj g (by rw [hK1]; exact hk) h2, xFs_set M M1 a (xF ci) k t v h6 hv (fun j u hj _ => ho j u hj)]) hO
  refine va_putF (D := g.1) (ci := ci) (C := C) (T := T) (N := N) hF.1 hF.2.1 hF.2.2.2.2.1 h4 ty0 h7 h8 hF.2.2.2.1 hF.2.2.2.2.2.1 hP.1 hP.2 hS q hq' h1 k h3 (hF.2.2.2.2.1 _ h5) (fun _ z => z) h9 (hF.2.2.2.2.2.2.2.2.1.trans hi) (h11 rfl) h10 hn hfit (by rw [xFs_len]; exact (List.getElem?_eq_some_iff.mp h6).1) d (fun H1 locs1 hP1 hD1 hS1 => ?_)
  rw [hset] at hP1 hD1
  exact h p e R s m args below meth c A H1 locs1 Z ls hF hE ⟨hP1, hD1⟩ hS1 hl
theorem xr_putI {a i ci k : Nat} {x : Int32} (d : decode md.2.1 pc = .ok (.putfield i, 3)) (hf : xFp false md.1.cls i ci k 0 .int) (ha : a ∈ xL M) (hk : xK M a = ci) (h : xWp l g md mc ms (pc + 3) L st cs (xsI M a k x) Q) : xWp l g md mc ms pc L (.int x :: va_rf (some a) :: st) cs M Q :=
  xr_putG (xsI M a k x) d hf ha hk rfl rfl rfl rfl (by simp [xV, xI_sI]) (fun j u hj => xV_sI M a k x a j u (Or.inr hj)) (fun b hb => xE_sI_ne g M a k x b hb) h
theorem xr_putZ {a i ci k : Nat} {x : Int32} (d : decode md.2.1 pc = .ok (.putfield i, 3)) (hf : xFp false md.1.cls i ci k 3 .boolean) (ha : a ∈ xL M) (hk : xK M a = ci) (hx : x = 0 ∨ x = 1) (h : xWp l g md mc ms (pc + 3) L st cs (xsI M a k x) Q) : xWp l g md mc ms pc L (.int x :: va_rf (some a) :: st) cs M Q :=
  xr_putG (xsI M a k x) d hf ha hk (by rcases hx with rfl | rfl <;> rfl) (by rcases hx with rfl | rfl <;> rfl) rfl rfl (by simp [xV, xI_sI]) (fun j u hj => xV_sI M a k x a j u (Or.inr hj)) (fun b hb => xE_sI_ne g M a k x b hb) h
theorem xr_putJ {a i ci k : Nat} {x : Int64} (d : decode md.2.1 pc = .ok (.putfield i, 3)) (hf : xFp false md.1.cls i ci k 1 .long) (ha : a ∈ xL M) (hk : xK M a = ci) (h : xWp l g md mc ms (pc + 3) L st cs (xsJ M a k x) Q) : xWp l g md mc ms pc L (.long x :: va_rf (some a) :: st) cs M Q :=
  xr_putG (xsJ M a k x) d hf ha hk rfl rfl rfl rfl (by simp [xV, xJ_sJ]) (fun j u hj => xV_sJ M a k x a j u (Or.inr hj)) (fun b hb => xE_sJ_ne g M a k x b hb) h
theorem xr_putR {a i ci k : Nat} {n : String} {x : Option Nat} (d : decode md.2.1 pc = .ok (.putfield i, 3)) (hf : xFp false md.1.cls i ci k 2 (.object n)) (ha : a ∈ xL M) (hk : xK M a = ci) (h : xWp l g md mc ms (pc + 3) L st cs (xsR M a k x) Q) : xWp l g md mc ms pc L (va_rf x :: va_rf (some a) :: st) cs M Q :=
  xr_putG (xsR M a k x) d hf ha hk (by cases x <;> rfl) (by cases x <;> rfl) rfl rfl (by simp [xV, xR_sR]) (fun j u hj => xV_sR M a k x a j u (Or.inr hj)) (fun b hb => xE_sR_ne g M a k x b hb) h
theorem xr_putRF {a i ci k : Nat} {ty : FieldType} {x : Option Nat} (d : decode md.2.1 pc = .ok (.putfield i, 3)) (hi : md.1.name = "<init>") (hf : xFp true md.1.cls i ci k 2 ty) (ht : (∃ n, ty = .object n) ∨ ∃ n, ty = .array n) (ha : a ∈ xL M) (hk : xK M a = ci) (h : xWp l g md mc ms (pc + 3) L st cs (xsR M a k x) Q) : xWp l g md mc ms pc L (va_rf x :: va_rf (some a) :: st) cs M Q :=
  xr_putGF (xsR M a k x) d hi hf ha hk (by rcases ht with ⟨n, rfl⟩ | ⟨n, rfl⟩ <;> cases x <;> rfl) (by rcases ht with ⟨n, rfl⟩ | ⟨n, rfl⟩ <;> cases x <;> rfl) rfl rfl (by simp [xV, xR_sR]) (fun j u hj => xV_sR M a k x a j u (Or.inr hj)) (fun b hb => xE_sR_ne g M a k x b hb) h
/-! arrays -/
theorem xArI {a kd : Nat} (hk : xK M a = kd) (h1 : kd ≠ 10) (h2 : kd ≠ 12) : xAr M a = (xN M a, .inl (xI M a)) := by
  unfold xAr; rw [hk, if_neg h1, if_neg h2]
theorem xArJ {a : Nat} (hk : xK M a = 10) : xAr M a = (xN M a, .inr (.inl (xJ M a))) := by
  unfold xAr; rw [hk, if_pos rfl]
theorem xArR {a : Nat} (hk : xK M a = 12) : xAr M a = (xN M a, .inr (.inr (.inr (.inr (xR M a))))) := by
  unfold xAr; rw [hk, if_neg (by decide), if_pos rfl]
theorem xr_iald {a : Nat} {i : Int32} (j : Nat) (d : decode md.2.1 pc = .ok (.iaload, 1)) (ha : a ∈ xL M) (hk : xK M a = 9) (hi : i = nI j) (hj : j < xN M a) (hn : xN M a < 2 ^ 31) (h : xWp l g md mc ms (pc + 1) L (.int (xI M a j) :: st) cs M Q) : xWp l g md mc ms pc L (.int i :: va_rf (some a) :: st) cs M Q := fun p e R s m args below meth c A H locs Z ls hF hE hP hS hl => by
  obtain ⟨q, hq⟩ := xW_get g ha
  rw [xE_arr g hk (by decide), xArI hk (by decide) (by decide)] at hq
  subst hi
  refine va_iald (D := g.1) hF.1 hF.2.1 hF.2.2.2.2.2.1 hP.1 q 1 hq rfl (vp_in_nI hj hn) d ?_
  rw [nI_clamp (by omega)]
  exact h p e R s m args below meth c A H locs Z ls hF hE hP hS hl
theorem xr_bald {a : Nat} {i : Int32} (j : Nat) (d : decode md.2.1 pc = .ok (.baload, 1)) (ha : a ∈ xL M) (hk : xK M a = 8) (hi : i = nI j) (hj : j < xN M a) (hn : xN M a < 2 ^ 31) (h : xWp l g md mc ms (pc + 1) L (.int (xI M a j) :: st) cs M Q) : xWp l g md mc ms pc L (.int i :: va_rf (some a) :: st) cs M Q := fun p e R s m args below meth c A H locs Z ls hF hE hP hS hl => by
  obtain ⟨q, hq⟩ := xW_get g ha
  rw [xE_arr g hk (by decide), xArI hk (by decide) (by decide)] at hq
  subst hi
  refine va_bald (D := g.1) hF.1 hF.2.1 hF.2.2.2.2.2.1 hP.1 q 0 hq rfl (vp_in_nI hj hn) d ?_
  rw [nI_clamp (by omega)]
  exact h p e R s m args below meth c A H locs Z ls hF hE hP hS hl
theorem xr_zald {a : Nat} {i : Int32} (j : Nat) (d : decode md.2.1 pc = .ok (.baload, 1)) (ha : a ∈ xL M) (hk : xK M a = 11) (hi : i = nI j) (hj : j < xN M a) (hn : xN M a < 2 ^ 31) (h : xWp l g md mc ms (pc + 1) L (.int (xI M a j) :: st) cs M Q) : xWp l g md mc ms pc L (.int i :: va_rf (some a) :: st) cs M Q := fun p e R s m args below meth c A H locs Z ls hF hE hP hS hl => by
  obtain ⟨q, hq⟩ := xW_get g ha
  rw [xE_arr g hk (by decide), xArI hk (by decide) (by decide)] at hq
  subst hi
  refine va_zald (D := g.1) hF.1 hF.2.1 hF.2.2.2.2.2.1 hP.1 q 3 hq rfl (vp_in_nI hj hn) d ?_
  rw [nI_clamp (by omega)]
  exact h p e R s m args below meth c A H locs Z ls hF hE hP hS hl
theorem xr_lald {a : Nat} {i : Int32} (j : Nat) (d : decode md.2.1 pc = .ok (.laload, 1)) (ha : a ∈ xL M) (hk : xK M a = 10) (hi : i = nI j) (hj : j < xN M a) (hn : xN M a < 2 ^ 31) (h : xWp l g md mc ms (pc + 1) L (.long (xJ M a j) :: st) cs M Q) : xWp l g md mc ms pc L (.int i :: va_rf (some a) :: st) cs M Q := fun p e R s m args below meth c A H locs Z ls hF hE hP hS hl => by
  obtain ⟨q, hq⟩ := xW_get g ha
  rw [xE_arr g hk (by decide), xArJ hk] at hq
  subst hi
  refine va_lald (D := g.1) hF.1 hF.2.1 hF.2.2.2.2.2.1 hP.1 q 2 hq rfl (vp_in_nI hj hn) d ?_
  rw [nI_clamp (by omega)]
  exact h p e R s m args below meth c A H locs Z ls hF hE hP hS hl
theorem xr_aald {a : Nat} {i : Int32} (j : Nat) (d : decode md.2.1 pc = .ok (.aaload, 1)) (ha : a ∈ xL M) (hk : xK M a = 12) (hi : i = nI j) (hj : j < xN M a) (hn : xN M a < 2 ^ 31) (h : xWp l g md mc ms (pc + 1) L (va_rf (xR M a j) :: st) cs M Q) : xWp l g md mc ms pc L (.int i :: va_rf (some a) :: st) cs M Q := fun p e R s m args below meth c A H locs Z ls hF hE hP hS hl => by
  obtain ⟨q, hq⟩ := xW_get g ha
  rw [xE_arr g hk (by decide), xArR hk] at hq
  subst hi
  refine va_aldq (D := g.1) hF.1 hF.2.1 hF.2.2.2.2.2.1 hP.1 q 4 hq rfl (vp_in_nI hj hn) d ?_
  rw [nI_clamp (by omega)]
  exact h p e R s m args below meth c A H locs Z ls hF hE hP hS hl
theorem xr_alen {a kd t : Nat} {ty : FieldType} (d : decode md.2.1 pc = .ok (.arraylength, 1)) (ha : a ∈ xL M) (hk : xK M a = kd) (h8 : ¬ kd < 8) (ht : ∀ g : xG, (xTy g)[t]? = some (g.2.1 kd, ty)) (h : xWp l g md mc ms (pc + 1) L (.int (nI (xN M a)) :: st) cs M Q) : xWp l g md mc ms pc L (va_rf (some a) :: st) cs M Q := fun p e R s m args below meth c A H locs Z ls hF hE hP hS hl => by
  obtain ⟨q, hq⟩ := xW_get g ha
  rw [xE_arr g hk h8] at hq
  exact va_alen (D := g.1) hF.1 hF.2.1 hF.2.2.2.2.2.1 hP.1 q t hq (ht g) rfl d (h p e R s m args below meth c A H locs Z ls hF hE hP hS hl)
theorem xupd_I (a j : Nat) (x : Int32) : xI (xsI M a j x) a = upd (xI M a) j x := by
  funext k
  simp only [xI_sI, upd]
  by_cases hk : k = j <;> simp [hk]
theorem xupd_J (a j : Nat) (x : Int64) : xJ (xsJ M a j x) a = vp_updL (xJ M a) j x := by
  funext k
  simp only [xJ_sJ, vp_updL]
  by_cases hk : k = j <;> simp [hk]
theorem xupd_R (a j : Nat) (x : Option Nat) : xR (xsR M a j x) a = va_up (xR M a) j x := by
  funext k
  simp only [xR_sR, va_up]
  by_cases hk : k = j <;> simp [hk]
theorem xr_iast {a : Nat} {i x : Int32} (j : Nat) (d : decode md.2.1 pc = .ok (.iastore, 1)) (ha : a ∈ xL M) (hk : xK M a = 9) (hi : i = nI j) (hj : j < xN M a) (hn : xN M a < 2 ^ 31) (h : xWp l g md mc ms (pc + 1) L st cs (xsI M a j x) Q) : xWp l g md mc ms pc L (.int x :: .int i :: va_rf (some a) :: st) cs M Q := fun p e R s m args below meth c A H locs Z ls hF hE hP hS hl => by
  obtain ⟨q, hq⟩ := xW_get g ha
  have hq' := hq
  rw [xE_arr g hk (by decide), xArI hk (by decide) (by decide)] at hq'
  subst hi
  have hset : (xW g M).set q (a, .inl (g.2.1 9, xN M a, .inl (upd (xI M a) j x))) = xW g (xsI M a j x) := xW_set g hP.2 ha hq rfl (by rw [xE_arr g (M := xsI M a j x) hk (by decide), xArI (M := xsI M a j x) hk (by decide) (by decide), xupd_I]; rfl) (fun b hb => xE_sI_ne g M a j x b hb)
  refine va_iast (D := g.1) hF.1 hF.2.1 hF.2.2.2.2.2.1 hP.1 hP.2 hS q 1 hq' rfl (vp_in_nI hj hn) d (fun H1 locs1 hP1 hD1 hS1 => ?_)
  rw [nI_clamp (by omega), hset] at hP1 hD1
  exact h p e R s m args below meth c A H1 locs1 Z ls hF hE ⟨hP1, hD1⟩ hS1 hl
theorem xr_bast {a : Nat} {i x : Int32} (j : Nat) (d : decode md.2.1 pc = .ok (.bastore, 1)) (ha : a ∈ xL M) (hk : xK M a = 8) (hi : i = nI j) (hj : j < xN M a) (hn : xN M a < 2 ^ 31) (h : xWp l g md mc ms (pc + 1) L st cs (xsI M a j x.toInt8.toInt32) Q) : xWp l g md mc ms pc L (.int x :: .int i :: va_rf (some a) :: st) cs M Q := fun p e R s m args below meth c A H locs Z ls hF hE hP hS hl => by
  obtain ⟨q, hq⟩ := xW_get g ha
  have hq' := hq
  rw [xE_arr g hk (by decide), xArI hk (by decide) (by decide)] at hq'
  subst hi
  have hset : (xW g M).set q (a, .inl (g.2.1 8, xN M a, .inl (upd (xI M a) j x.toInt8.toInt32))) = xW g (xsI M a j x.toInt8.toInt32) := xW_set g hP.2 ha hq rfl (by rw [xE_arr g (M := xsI M a j _) hk (by decide), xArI (M := xsI M a j _) hk (by decide) (by decide), xupd_I]; rfl) (fun b hb => xE_sI_ne g M a j _ b hb)
  refine va_bast (D := g.1) hF.1 hF.2.1 hF.2.2.2.2.2.1 hP.1 hP.2 hS q 0 hq' rfl (vp_in_nI hj hn) d (fun H1 locs1 hP1 hD1 hS1 => ?_)
  rw [vp_nar_byte, nI_clamp (by omega), hset] at hP1 hD1
  exact h p e R s m args below meth c A H1 locs1 Z ls hF hE ⟨hP1, hD1⟩ hS1 hl
theorem xr_zast {a : Nat} {i x : Int32} (j : Nat) (d : decode md.2.1 pc = .ok (.bastore, 1)) (ha : a ∈ xL M) (hk : xK M a = 11) (hi : i = nI j) (hj : j < xN M a) (hn : xN M a < 2 ^ 31) (h : xWp l g md mc ms (pc + 1) L st cs (xsI M a j (x &&& 1)) Q) : xWp l g md mc ms pc L (.int x :: .int i :: va_rf (some a) :: st) cs M Q := fun p e R s m args below meth c A H locs Z ls hF hE hP hS hl => by
  obtain ⟨q, hq⟩ := xW_get g ha
  have hq' := hq
  rw [xE_arr g hk (by decide), xArI hk (by decide) (by decide)] at hq'
  subst hi
  have hset : (xW g M).set q (a, .inl (g.2.1 11, xN M a, .inl (upd (xI M a) j (x &&& 1)))) = xW g (xsI M a j (x &&& 1)) := xW_set g hP.2 ha hq rfl (by rw [xE_arr g (M := xsI M a j _) hk (by decide), xArI (M := xsI M a j _) hk (by decide) (by decide), xupd_I]; rfl) (fun b hb => xE_sI_ne g M a j _ b hb)
  refine va_zast (D := g.1) hF.1 hF.2.1 hF.2.2.2.2.2.1 hP.1 hP.2 hS q 3 hq' rfl (vp_in_nI hj hn) d (fun H1 locs1 hP1 hD1 hS1 => ?_)
  have hb : vp_nar .boolean x = x &&& 1 := rfl
  rw [hb, nI_clamp (by omega), hset] at hP1 hD1
  exact h p e R s m args below meth c A H1 locs1 Z ls hF hE ⟨hP1, hD1⟩ hS1 hl
theorem xr_last {a : Nat} {i : Int32} {x : Int64} (j : Nat) (d : decode md.2.1 pc = .ok (.lastore, 1)) (ha : a ∈ xL M) (hk : xK M a = 10) (hi : i = nI j) (hj : j < xN M a) (hn : xN M a < 2 ^ 31) (h : xWp l g md mc ms (pc + 1) L st cs (xsJ M a j x) Q) : xWp l g md mc ms pc L (.long x :: .int i :: va_rf (some a) :: st) cs M Q := fun p e R s m args below meth c A H locs Z ls hF hE hP hS hl => by
  obtain ⟨q, hq⟩ := xW_get g ha
  have hq' := hq
  rw [xE_arr g hk (by decide), xArJ hk] at hq'
  subst hi
  have hset : (xW g M).set q (a, .inl (g.2.1 10, xN M a, .inr (.inl (vp_updL (xJ M a) j x)))) = xW g (xsJ M a j x) := xW_set g hP.2 ha hq rfl (by rw [xE_arr g (M := xsJ M a j x) hk (by decide), xArJ (M := xsJ M a j x) hk, xupd_J]; rfl) (fun b hb => xE_sJ_ne g M a j x b hb)
  refine va_last (D := g.1) hF.1 hF.2.1 hF.2.2.2.2.2.1 hP.1 hP.2 hS q 2 hq' rfl (vp_in_nI hj hn) d (fun H1 locs1 hP1 hD1 hS1 => ?_)
  rw [nI_clamp (by omega), hset] at hP1 hD1
  exact h p e R s m args below meth c A H1 locs1 Z ls hF hE ⟨hP1, hD1⟩ hS1 hl
theorem xr_aast {a b : Nat} {i : Int32} (j : Nat) (d : decode md.2.1 pc = .ok (.aastore, 1)) (ha : a ∈ xL M) (hk : xK M a = 12) (hb : b ∈ xL M) (hkb : xK M b = 1) (hi : i = nI j) (hj : j < xN M a) (hn : xN M a < 2 ^ 31) (h : xWp l g md mc ms (pc + 1) L st cs (xsR M a j (some b)) Q) : xWp l g md mc ms pc L (va_rf (some b) :: .int i :: va_rf (some a) :: st) cs M Q := fun p e R s m args below meth c A H locs Z ls hF hE hP hS hl => by
  obtain ⟨q, hq⟩ := xW_get g ha
  obtain ⟨q2, hq2⟩ := xW_get g hb
  rw [xE_obj g hkb (by decide)] at hq2
  have hq' := hq
  rw [xE_arr g hk (by decide), xArR hk] at hq'
  subst hi
  have hset : (xW g M).set q (a, .inl (g.2.1 12, xN M a, .inr (.inr (.inr (.inr (va_up (xR M a) j (some b))))))) = xW g (xsR M a j (some b)) := xW_set g hP.2 ha hq rfl (by rw [xE_arr g (M := xsR M a j _) hk (by decide), xArR (M := xsR M a j _) hk, xupd_R]; rfl) (fun b' hb' => xE_sR_ne g M a j _ b' hb')
  refine va_astq (D := g.1) hF.1 hF.2.1 hF.2.2.2.2.2.1 hP.1 hP.2 hS q 4 q2 1 (r := (RX3, TX3, 13)) hq' rfl hq2 rfl (vp_in_nI hj hn) d (fun H1 locs1 hP1 hD1 hS1 => ?_)
  rw [nI_clamp (by omega), hset] at hP1 hD1
  exact h p e R s m args below meth c A H1 locs1 Z ls hF hE ⟨hP1, hD1⟩ hS1 hl
end XMR
end
section
/-! NEW CELLS, STATICS, CALLS. -/
section XCR
variable {l : Launch} {g : xG} {md : xMd} {mc ms pc : Nat} {L : List (Nat × Value)} {st : List Value} {cs : Nat × Nat} {M : xM} {Q : Option Value → xM → Prop}
def xdf (t : Nat) : Value := if t = 1 then .long 0 else if t = 2 then .null else .int 0
theorem xK_new (M : xM) (q kd n b : Nat) : xK (xnew M q kd n) b = if b = q then kd else xK M b := rfl
theorem xN_new (M : xM) (q kd n b : Nat) : xN (xnew M q kd n) b = if b = q then n else xN M b := rfl
theorem xI_new (M : xM) (q kd n b j : Nat) : xI (xnew M q kd n) b j = if b = q then 0 else xI M b j := rfl
theorem xJ_new (M : xM) (q kd n b j : Nat) : xJ (xnew M q kd n) b j = if b = q then 0 else xJ M b j := rfl
theorem xR_new (M : xM) (q kd n b j : Nat) : xR (xnew M q kd n) b j = if b = q then none else xR M b j := rfl
theorem xL_new (M : xM) (q kd n : Nat) : xL (xnew M q kd n) = xL M ++ [q] := rfl
theorem xE_new_ne (g : xG) (M : xM) (q kd n b : Nat) (h : b ≠ q) : xE g (xnew M q kd n) b = xE g M b := by
  have h1 : xI (xnew M q kd n) b = xI M b := funext fun j => by rw [xI_new, if_neg h]
  have h2 : xJ (xnew M q kd n) b = xJ M b := funext fun j => by rw [xJ_new, if_neg h]
  have h3 : xR (xnew M q kd n) b = xR M b := funext fun j => by rw [xR_new, if_neg h]
  have h4 : xK (xnew M q kd n) b = xK M b := by rw [xK_new, if_neg h]
  have h5 : xN (xnew M q kd n) b = xN M b := by rw [xN_new, if_neg h]
  simp only [xE, xAr, xFs, xV, h1, h2, h3, h4, h5]
theorem xW_push (g : xG) (M : xM) (q kd n : Nat) (h : q ∉ xL M) {e : va_E} (he : xE g (xnew M q kd n) q = e) : xW g M ++ [(q, e)] = xW g (xnew M q kd n) := by
  unfold xW
  rw [va_pl_push h, xL_new]
  unfold va_pl
  apply List.map_congr_left
  intro b _
  by_cases hb : b = q
  · subst hb; rw [va_up_self, he]
  · rw [va_up_ne _ _ hb, xE_new_ne g M q kd n b hb]
theorem xFs_new (M : xM) (q kd n : Nat) (ts : List Nat) : xFs (xnew M q kd n) q ts = ts.map xdf := by
  apply List.ext_getElem?
  intro j
  simp only [xFs, List.getElem?_mapIdx, List.getElem?_map]
  cases ts[j]? with
  | none => rfl
  | some t =>
    simp only [Option.map_some, xV, xdf, xI_new, xJ_new, xR_new, if_true]
    rfl
/-- a class that is made -/
def xCn (own : String) (i ci N : Nat) : Prop := ∃ (C : String) (T : u_T) (ty : Nat → FieldType), vwCl[ci]? = some (C, T, N) ∧ ci < 8 ∧ (∀ w ∈ u_ws C T N, w ∈ gl) ∧ (∀ j, j < N → parseFieldDescriptor (T j).2.2.1 = some (ty j)) ∧ (∀ j, j < N → defaultValue (ty j) = vp_V ((xF ci).map xdf) j) ∧ Cond.classLink own i C ∈ gl ∧ Cond.instantiable C N ∈ gl ∧ Cond.initialized C ∈ gl
theorem xr_new {i ci N : Nat} (d : decode md.2.1 pc = .ok (.new i, 3)) (hc : xCn md.1.cls i ci N) (hm : cs.1 + 1 ≤ mc ∧ cs.2 + N ≤ ms) (h : ∀ q, q ∉ xL M → xWp l g md mc ms (pc + 3) L (va_rf (some q) :: st) (cs.1 + 1, cs.2 + N) (xnew M q ci 0) Q) : xWp l g md mc ms pc L st cs M Q := fun p e R s m args below meth c A H locs Z ls hF hE hP hS hl => by
  obtain ⟨C, T, ty, h1, h2, h3, h4, h5, h6, h7, h8⟩ := hc
  obtain ⟨r1, r2, r3, r4⟩ := hF.2.2.2.2.2.2.2.2.2.2.1
  refine va_new (D := g.1) (ci := ci) (C := C) (T := T) (N := N) hF.1 hF.2.1 hF.2.2.2.2.1 h3 ty h4 hF.2.2.2.1 (hF.2.2.2.2.1 _ h6) (hF.2.2.2.2.1 _ h7) (hF.2.2.2.2.1 _ h8) hF.2.2.2.2.2.1 hP.1 hP.2 hS hF.2.2.2.2.2.2.2.2.2.1 h1 h5 (Nat.le_trans hm.1 r3) (Nat.le_trans hm.2 r4) d (fun q H1 hP1 hD1 hS1 => ?_)
  have hq : q ∉ xL M := va_pl_fresh2 (X := []) (f := xE g M) hD1
  rw [xW_push g M q ci 0 hq (by rw [xE_obj g (M := xnew M q ci 0) (ci := ci) (by rw [xK_new, if_pos rfl]) h2, xFs_new])] at hP1 hD1
  exact h q hq p e R s m args below meth c A H1 locs Z ls hF hE ⟨hP1, hD1⟩ hS1 hl
theorem xcA_eq {s : State} {t kd : Nat} {ty : FieldType} {cA : ClassId} {tys : List (ClassId × FieldType)} (hK : va_K g.1 vwCl (xTy g) s) (ht : (xTy g)[t]? = some (g.2.1 kd, ty)) (hK1 : va_K g.1 vwCl (xTy g ++ [(cA, ty)]) s) : cA = g.2.1 kd := by
  have h1 := (hK.2 t _ ht).2
  have h2 := (hK1.2 (xTy g).length (cA, ty) (by simp)).2
  simp only at h1 h2
  cases ty with
  | object C =>
    obtain ⟨_, _, _, _, _, e1⟩ := h1
    obtain ⟨_, _, _, _, _, e2⟩ := h2
    exact Option.some.inj (e2.symm.trans e1)
  | _ => exact Option.some.inj (h2.symm.trans h1)
theorem xr_newa {atype : ArrayType} {ty : FieldType} {kd t n : Nat} {x : Int32} (d : decode md.2.1 pc = .ok (.newarray atype, 2)) (hty : newarray.typeOf atype = ty) (hw : Cond.arrayClass (newarray.typeOf atype) ∈ gl) (ht : ∀ g : xG, (xTy g)[t]? = some (g.2.1 kd, ty)) (h8 : ¬ kd < 8) (h12 : kd ≠ 12) (hdv : defaultValue ty = if kd = 10 then .long 0 else .int 0) (hx : x = nI n) (hn : n < 1000000) (hcb : componentBytes ty ≤ 8) (hm : cs.1 + 1 ≤ mc ∧ cs.2 + n ≤ ms) (h : ∀ q, q ∉ xL M → xWp l g md mc ms (pc + 2) L (va_rf (some q) :: st) (cs.1 + 1, cs.2 + n) (xnew M q kd n) Q) : xWp l g md mc ms pc L (.int x :: st) cs M Q := fun p e R s m args below meth c A H locs Z ls hF hE hP hS hl => by
  obtain ⟨r1, r2, r3, r4⟩ := hF.2.2.2.2.2.2.2.2.2.2.1
  subst hx
  have hcl : (nI n).toNatClampNeg = n := nI_clamp (by omega)
  refine va_newa (D := g.1) hF.1 hF.2.1 (hF.2.2.2.2.1 _ hw) hty hF.2.2.2.2.2.1 hP.1 hP.2 hS hF.2.2.2.2.2.2.2.2.2.1 (N' := n) (a0 := (n, if kd = 10 then .inr (.inl (fun _ => 0)) else .inl (fun _ => 0))) ?_ (nI_pos (by omega)) hcl ?_ (Nat.le_trans hm.1 r3) (Nat.le_trans hm.2 r4) d (fun q cA H1 hK1 hP1 hD1 hS1 => ?_)
  · intro cA
    rw [hdv]
    by_cases h10 : kd = 10
    · simp only [h10, if_true]; rfl
    · simp only [if_neg h10]; rfl
  · calc n * componentBytes ty ≤ n * 8 := Nat.mul_le_mul_left _ hcb
      _ ≤ 536870912 := by omega
  · have hq : q ∉ xL M := va_pl_fresh2 (X := []) (f := xE g M) hD1
    have hcA : cA = g.2.1 kd := xcA_eq (tys := []) hF.2.2.2.2.2.1 (ht g) hK1
    subst hcA
    rw [xW_push g M q kd n hq (by
      rw [xE_arr g (M := xnew M q kd n) (ci := kd) (by rw [xK_new, if_pos rfl]) h8]
      have e1 : xI (xnew M q kd n) q = fun _ => 0 := funext fun j => by rw [xI_new, if_pos rfl]
      have e2 : xJ (xnew M q kd n) q = fun _ => 0 := funext fun j => by rw [xJ_new, if_pos rfl]
      have e3 : xK (xnew M q kd n) q = kd := by rw [xK_new, if_pos rfl]
      have e4 : xN (xnew M q kd n) q = n := by rw [xN_new, if_pos rfl]
      simp only [xAr, e1, e2, e3, e4, if_neg h12])] at hP1 hD1
    exact h q hq p e R s m args below meth c A H1 locs Z ls hF hE ⟨hP1, hD1⟩ hS1 hl
theorem xr_newq {i n : Nat} {x : Int32} (d : decode md.2.1 pc = .ok (.anewarray i, 3)) (hw : Cond.classLink md.1.cls i "RadixPages$Node" ∈ gl) (hx : x = nI n) (hn : n < 1000000) (hm : cs.1 + 1 ≤ mc ∧ cs.2 + n ≤ ms) (h : ∀ q, q ∉ xL M → xWp l g md mc ms (pc + 3) L (va_rf (some q) :: st) (cs.1 + 1, cs.2 + n) (xnew M q 12 n) Q) : xWp l g md mc ms pc L (.int x :: st) cs M Q := fun p e R s m args below meth c A H locs Z ls hF hE hP hS hl => by
  obtain ⟨r1, r2, r3, r4⟩ := hF.2.2.2.2.2.2.2.2.2.2.1
  subst hx
  have hcl : (nI n).toNatClampNeg = n := nI_clamp (by omega)
  refine va_newq (D := g.1) hF.1 hF.2.1 hF.2.2.2.1 (hF.2.2.2.2.1 _ hw) hF.2.2.2.2.2.2.2.2.2.2.2.2.2.2.2.2.2 hF.2.2.2.2.2.1 hP.1 hP.2 hS hF.2.2.2.2.2.2.2.2.2.1 (nI_pos (by omega)) hcl (by omega) (Nat.le_trans hm.1 r3) (Nat.le_trans hm.2 r4) d (fun q cA H1 hK1 hP1 hD1 hS1 => ?_)
  have hq : q ∉ xL M := va_pl_fresh2 (X := []) (f := xE g M) hD1
  have hcA : cA = g.2.1 12 := xcA_eq (tys := []) (t := 4) hF.2.2.2.2.2.1 rfl hK1
  subst hcA
  rw [xW_push g M q 12 n hq (by
    rw [xE_arr g (M := xnew M q 12 n) (ci := 12) (by rw [xK_new, if_pos rfl]) (by decide)]
    have e1 : xR (xnew M q 12 n) q = fun _ => none := funext fun j => by rw [xR_new, if_pos rfl]
    have e3 : xK (xnew M q 12 n) q = 12 := by rw [xK_new, if_pos rfl]
    have e4 : xN (xnew M q 12 n) q = n := by rw [xN_new, if_pos rfl]
    simp only [xAr, e1, e3, e4]
    rfl)] at hP1 hD1
  exact h q hq p e R s m args below meth c A H1 locs Z ls hF hE ⟨hP1, hD1⟩ hS1 hl
/-- Object's constructor -/
theorem xr_obj {i a : Nat} (d : decode md.2.1 pc = .ok (.invokespecial i, 3)) (h1 : Cond.methodLink md.1.cls i objectInit ∈ gl) (h2 : Cond.instanceMethod objectInit ∈ gl) (h3 : Cond.code objectInit ⟨#[0xb1]⟩ 1 none ∈ gl) (hf : 1 ≤ md.2.2.2.2.1) (hw : (st.map fun v => v.category).sum + 12 ≤ md.2.2.2.2.2) (h : xWp l g md mc ms (pc + 3) L st cs M Q) : xWp l g md mc ms pc L (va_rf (some a) :: st) cs M Q := fun p e R s m args below meth c A H locs Z ls hF hE hP hS hl => by
  obtain ⟨r1, r2, r3, r4⟩ := hF.2.2.2.2.2.2.2.2.2.2.1
  exact W.objInit hF.1 hF.2.1 hF.2.2.2.1 (hF.2.2.2.2.1 _ h1) (hF.2.2.2.2.1 _ h2) (hF.2.2.2.2.1 _ h3) rfl (by rw [hF.2.2.1]; exact hl.1) (a := a) (rest := st) rfl d (Nat.le_trans hf r1) (by show 2 * 0 + _ + 12 ≤ _; omega) (h p e R s m args below meth c A H locs Z ls hF hE hP hS hl)
/-- the two static arrays -/
theorem xr_gsM {i : Nat} (d : decode md.2.1 pc = .ok (.getstatic i, 3)) (hw : Cond.fieldLink md.1.cls i "RadixPages$Format" "MOST_CHILDREN" "[I" ∈ gl) (h : xWp l g md mc ms (pc + 3) L (va_rf (some g.2.2.1) :: st) cs M Q) : xWp l g md mc ms pc L st cs M Q := fun p e R s m args below meth c A H locs Z ls hF hE hP hS hl => va_gets hF.1 hF.2.1 hF.2.2.2.2.2.2.2.2.2.2.2.1 hS hF.2.2.2.1 (hF.2.2.2.2.1 _ hw) (fun _ z => z) d (h p e R s m args below meth c A H locs Z ls hF hE hP hS hl)
theorem xr_gsS {i : Nat} (d : decode md.2.1 pc = .ok (.getstatic i, 3)) (hw : Cond.fieldLink md.1.cls i "RadixPages$Format" "SHRINKS_AT" "[I" ∈ gl) (h : xWp l g md mc ms (pc + 3) L (va_rf (some g.2.2.2) :: st) cs M Q) : xWp l g md mc ms pc L st cs M Q := fun p e R s m args below meth c A H locs Z ls hF hE hP hS hl => va_gets hF.1 hF.2.1 hF.2.2.2.2.2.2.2.2.2.2.2.2.2.1 hS hF.2.2.2.1 (hF.2.2.2.2.1 _ hw) (fun _ z => z) d (h p e R s m args below meth c A H locs Z ls hF hE hP hS hl)
theorem xr_salM {i : Int32} (j : Nat) (d : decode md.2.1 pc = .ok (.iaload, 1)) (hi : i = nI j) (hj : j < 5) (h : xWp l g md mc ms (pc + 1) L (.int (xmc j) :: st) cs M Q) : xWp l g md mc ms pc L (.int i :: va_rf (some g.2.2.1) :: st) cs M Q := fun p e R s m args below meth c A H locs Z ls hF hE hP hS hl => by
  subst hi
  exact va_ti hF.1 hF.2.1 hF.2.2.2.2.2.2.2.2.2.2.2.2.1 hS (vp_in_nI hj (by omega)) (by rw [nI_clamp (by omega)]) d (h p e R s m args below meth c A H locs Z ls hF hE hP hS hl)
theorem xr_salS {i : Int32} (j : Nat) (d : decode md.2.1 pc = .ok (.iaload, 1)) (hi : i = nI j) (hj : j < 5) (h : xWp l g md mc ms (pc + 1) L (.int (xsh j) :: st) cs M Q) : xWp l g md mc ms pc L (.int i :: va_rf (some g.2.2.2) :: st) cs M Q := fun p e R s m args below meth c A H locs Z ls hF hE hP hS hl => by
  subst hi
  exact va_ti hF.1 hF.2.1 hF.2.2.2.2.2.2.2.2.2.2.2.2.2.2.1 hS (vp_in_nI hj (by omega)) (by rw [nI_clamp (by omega)]) d (h p e R s m args below meth c A H locs Z ls hF hE hP hS hl)
/-- behind a call: the callee's answer and world -/
theorem xWp.run {mc2 ms2 : Nat} {st0 : List Value} {Q0 : Option Value → xM → Prop} {av : Array Value} {p : Program} {e : Env} {R : Room} {s : State} {m : MethodId} {args : Array Value} {below : List Frame} {meth : Method} {c : Code} {A : Nat → Prop} {H : Heap} {locs : List Loc} {Z : State → Prop} {ls : Array Slot}
    (hr : va_Run p l e R s m args below meth c H locs cs.1 cs.2 mc2 ms2 (F0 m pc ls st0) st (xPost g M H.size Q0 av) (va_A (xW g M) H.size))
    (hF : xFix g md mc ms p R s m args meth c A) (hE : xEnd l g md mc ms p e R s m args below meth c A Q Z) (hP : xP g A M H) (hS : va_S A s.heap H locs) (hl : xLr ls md.2.2.1 L)
    (h : ∀ r M1, Q0 r M1 → xWp l g md mc ms (pc + 3) L (r.toList ++ st) (cs.1 + mc2, cs.2 + ms2) M1 Q) : W p l e R s m args below meth c H locs cs.1 cs.2 Z (F0 m pc ls st0) := by
  have hfree : ∀ q, va_A (xW g M) H.size q → A q := fun q hq => by
    rcases hq with ⟨k, e0, h1⟩ | h1
    · exact hP.2.2 k (q, e0) h1
    · exact hF.2.2.2.2.2.2.2.2.2.1 q (Nat.le_trans hS.1 h1)
  intro T hT X
  obtain ⟨v, st₀, t, T', L', h0, X', hL, e1, e2, ⟨⟨r, M1, hv, hq, hP1, hK1, hD1⟩, hz, hk⟩, stp⟩ := hr T hT X
  cases hv
  rw [h0] at hz hk
  have hS1 : va_S A s.heap T'.heap (locs ++ L') := ⟨Nat.le_trans hS.1 (by rw [e1]; exact hz), fun q h1 h2 => by rw [e1, hk q (Nat.lt_of_lt_of_le h1 hS.1) (fun z => h2 (hfree q z))]; exact hS.2.1 q h1 h2, fun q hq => by
      rcases List.mem_append.mp hq with z | z
      · exact hS.2.2 q z
      · exact hfree _ (hL q z)⟩
  obtain ⟨t2, a1, b1⟩ := h v M1 hq p e R s m args below meth c A T'.heap (locs ++ L') Z ls hF hE ⟨by rw [e1]; exact hP1, hD1.weaken (fun _ _ _ z => hfree _ z)⟩ hS1 hl T' rfl X'
  exact ⟨t2, stp t2 a1, b1⟩
theorem xPre_of {p : Program} {R : Room} {s : State} {m : MethodId} {args : Array Value} {meth : Method} {c : Code} {A : Nat → Prop} {H : Heap} {locs : List Loc} (hF : xFix g md mc ms p R s m args meth c A) (hP : xP g A M H) (hS : va_S A s.heap H locs) (U : State) (hU : U.heap = H) (hW : s.WarmedH U.vm) : xPre g M H.size U := by
  have hfree : ∀ q, va_A (xW g M) H.size q → A q := fun q hq => by
    rcases hq with ⟨k, e0, h1⟩ | h1
    · exact hP.2.2 k (q, e0) h1
    · exact hF.2.2.2.2.2.2.2.2.2.1 q (Nat.le_trans hS.1 h1)
  refine ⟨by rw [hU], by rw [hU]; exact hP.1, va_K.moved hW.alike hF.2.2.2.2.2.1, hP.2.weaken (fun _ _ _ _ => trivial), ?_⟩
  rw [hU]
  exact ((hF.2.2.2.2.2.2.2.2.2.2.2.kept hS.2.1).narrow hfree).warm hW
/-- what a call site stands on -/
def xCb (md md2 : xMd) (n : Nat) : Prop := Cond.code md2.1 md2.2.1 md2.2.2.1 md2.2.2.2.1 ∈ gl ∧ Cond.initialized md2.1.cls ∈ gl ∧ (md2.1.cls ≠ "java/lang/invoke/MethodHandle" ∧ md2.1.cls ≠ "java/lang/invoke/VarHandle" ∧ (parseMethodDescriptor md2.1.desc).map (fun d => d.parameters.length) = some n) ∧ md2.2.2.2.2.1 + 1 ≤ md.2.2.2.2.1 ∧ 8 + (md2.2.2.1 + 11) + md2.2.2.2.2.2 ≤ md.2.2.2.2.2
def xCv (md : xMd) (i : Nat) (md2 : xMd) (n ci : Nat) : Prop := xCb md md2 n ∧ Cond.methodLink md.1.cls i md2.1 ∈ gl ∧ Cond.instanceMethod md2.1 ∈ gl ∧ Cond.selects md2.1.cls md2.1 md2.1 ∈ gl ∧ ci < 8 ∧ ∃ T N, vwCl[ci]? = some (md2.1.cls, T, N)
def xCs (md : xMd) (i : Nat) (md2 : xMd) (n : Nat) : Prop := xCb md md2 n ∧ Cond.methodLink md.1.cls i md2.1 ∈ gl ∧ Cond.static md2.1 ∈ gl
def xCi (md : xMd) (i : Nat) (md2 : xMd) (n : Nat) : Prop := xCb md md2 n ∧ Cond.methodLink md.1.cls i md2.1 ∈ gl ∧ md2.1.name = "<init>" ∧ Cond.instanceMethod md2.1 ∈ gl ∧ md2.2.2.2.1 = none
def xCvN (md : xMd) (i : Nat) (md2 : xMd) (n ci : Nat) : Prop := xCb md md2 n ∧ Cond.methodLinkNest md.1.cls i md2.1 "RadixPages" ∈ xNs ∧ Cond.instanceMethod md2.1 ∈ gl ∧ Cond.selects md2.1.cls md2.1 md2.1 ∈ gl ∧ ci < 8 ∧ ∃ T N, vwCl[ci]? = some (md2.1.cls, T, N)
def xCiN (md : xMd) (i : Nat) (md2 : xMd) (n : Nat) : Prop := xCb md md2 n ∧ Cond.methodLinkNest md.1.cls i md2.1 "RadixPages" ∈ xNs ∧ md2.1.name = "<init>" ∧ Cond.instanceMethod md2.1 ∈ gl ∧ md2.2.2.2.1 = none
theorem xr_callV {i ci : Nat} {md2 : xMd} {mc2 ms2 a : Nat} (As : List Value) {st0 : List Value} (d : decode md.2.1 pc = .ok (.invokevirtual i, 3)) (hc : xCv md i md2 As.length ci) (hst : st0 = As.reverse ++ va_rf (some a) :: st) (ha : a ∈ xL M) (hk : xK M a = ci) (hw : (st.map fun v => v.category).sum ≤ 8) (hm : cs.1 + mc2 ≤ mc ∧ cs.2 + ms2 ≤ ms)
    (h : xSp l g md2 mc2 ms2 (va_rf (some a) :: As) M (fun r M1 => xWp l g md mc ms (pc + 3) L (r.toList ++ st) (cs.1 + mc2, cs.2 + ms2) M1 Q)) : xWp l g md mc ms pc L st0 cs M Q := fun p e R s m args below meth c A H locs Z ls hF hE hP hS hl => by
  obtain ⟨Q0, h1, h2⟩ := h
  obtain ⟨⟨c1, c2, c3, c4, c5⟩, c6, c7, c8, c9, T, N, c10⟩ := hc
  obtain ⟨r1, r2, r3, r4⟩ := hF.2.2.2.2.2.2.2.2.2.2.1
  have hts := hF.2.2.2.2.1
  obtain ⟨q, hq⟩ := xW_get g ha
  rw [xE_obj g hk c9] at hq
  exact xWp.run (va_runV (As := As) (rest := st) ⟨hF.1, hF.2.1, hF.2.2.1, hF.2.2.2.1, hts⟩ (h2 H.size) ⟨callB_of (rm := xrm md2 mc2 ms2) As.length hts (xws_good c1) rfl rfl rfl (hts _ c2) (hts _ c6) c3 ⟨Nat.le_trans c4 r1, Nat.le_trans c5 r2⟩, hts _ c7, hts _ c8⟩ ⟨xPre_blind g M H.size _, va_recv hF.2.2.2.2.2.1 hP.1 c10 hq, fun U hU hW => ⟨rfl, xPre_of hF hP hS U hU hW⟩⟩ rfl rfl hl.1 hst (by show 2 * 0 + _ ≤ 8; omega) d ⟨Nat.le_trans hm.1 r3, Nat.le_trans hm.2 r4⟩) hF hE hP hS hl h1
theorem xr_callS {i : Nat} {md2 : xMd} {mc2 ms2 : Nat} (As : List Value) {st0 : List Value} (d : decode md.2.1 pc = .ok (.invokestatic i, 3)) (hc : xCs md i md2 As.length) (hst : st0 = As.reverse ++ st) (hw : (st.map fun v => v.category).sum ≤ 8) (hm : cs.1 + mc2 ≤ mc ∧ cs.2 + ms2 ≤ ms)
    (h : xSp l g md2 mc2 ms2 As M (fun r M1 => xWp l g md mc ms (pc + 3) L (r.toList ++ st) (cs.1 + mc2, cs.2 + ms2) M1 Q)) : xWp l g md mc ms pc L st0 cs M Q := fun p e R s m args below meth c A H locs Z ls hF hE hP hS hl => by
  obtain ⟨Q0, h1, h2⟩ := h
  obtain ⟨⟨c1, c2, c3, c4, c5⟩, c6, c7⟩ := hc
  obtain ⟨r1, r2, r3, r4⟩ := hF.2.2.2.2.2.2.2.2.2.2.1
  have hts := hF.2.2.2.2.1
  exact xWp.run (va_runS (As := As) (rest := st) ⟨hF.1, hF.2.1, hF.2.2.1, hF.2.2.2.1, hts⟩ (h2 H.size) ⟨callB_of (rm := xrm md2 mc2 ms2) As.length hts (xws_good c1) rfl rfl rfl (hts _ c2) (hts _ c6) c3 ⟨Nat.le_trans c4 r1, Nat.le_trans c5 r2⟩, hts _ c7⟩ ⟨xPre_blind g M H.size _, fun U hU hW => ⟨rfl, xPre_of hF hP hS U hU hW⟩⟩ rfl rfl hl.1 hst (by show 2 * 0 + _ ≤ 8; omega) d ⟨Nat.le_trans hm.1 r3, Nat.le_trans hm.2 r4⟩) hF hE hP hS hl h1
theorem xr_callI {i : Nat} {md2 : xMd} {mc2 ms2 a : Nat} (As : List Value) {st0 : List Value} (d : decode md.2.1 pc = .ok (.invokespecial i, 3)) (hc : xCi md i md2 As.length) (hst : st0 = As.reverse ++ va_rf (some a) :: st) (hw : (st.map fun v => v.category).sum ≤ 8) (hm : cs.1 + mc2 ≤ mc ∧ cs.2 + ms2 ≤ ms)
    (h : xSp l g md2 mc2 ms2 (va_rf (some a) :: As) M (fun r M1 => xWp l g md mc ms (pc + 3) L (r.toList ++ st) (cs.1 + mc2, cs.2 + ms2) M1 Q)) : xWp l g md mc ms pc L st0 cs M Q := fun p e R s m args below meth c A H locs Z ls hF hE hP hS hl => by
  obtain ⟨Q0, h1, h2⟩ := h
  obtain ⟨⟨c1, c2, c3, c4, c5⟩, c6, c7, c8, c9⟩ := hc
  obtain ⟨r1, r2, r3, r4⟩ := hF.2.2.2.2.2.2.2.2.2.2.1
  have hts := hF.2.2.2.2.1
  exact xWp.run (va_runI (As := As) (rest := st) (bytes := md2.2.1) (maxL := md2.2.2.1) ⟨hF.1, hF.2.1, hF.2.2.1, hF.2.2.2.1, hts⟩ (h2 H.size) ⟨by rw [← c9]; exact callB_of (rm := xrm md2 mc2 ms2) As.length hts (xws_good c1) rfl rfl rfl (hts _ c2) (hts _ c6) c3 ⟨Nat.le_trans c4 r1, Nat.le_trans c5 r2⟩, c7, hts _ c8⟩ ⟨xPre_blind g M H.size _, fun U hU hW => ⟨rfl, xPre_of hF hP hS U hU hW⟩⟩ rfl rfl hl.1 hst (by show 2 * 0 + _ ≤ 8; omega) d ⟨Nat.le_trans hm.1 r3, Nat.le_trans hm.2 r4⟩) hF hE hP hS hl h1
theorem xr_callVN {i ci : Nat} {md2 : xMd} {mc2 ms2 a : Nat} (As : List Value) {st0 : List Value} (d : decode md.2.1 pc = .ok (.invokevirtual i, 3)) (hc : xCvN md i md2 As.length ci) (hst : st0 = As.reverse ++ va_rf (some a) :: st) (ha : a ∈ xL M) (hk : xK M a = ci) (hw : (st.map fun v => v.category).sum ≤ 8) (hm : cs.1 + mc2 ≤ mc ∧ cs.2 + ms2 ≤ ms)
    (h : xSp l g md2 mc2 ms2 (va_rf (some a) :: As) M (fun r M1 => xWp l g md mc ms (pc + 3) L (r.toList ++ st) (cs.1 + mc2, cs.2 + ms2) M1 Q)) : xWp l g md mc ms pc L st0 cs M Q := fun p e R s m args below meth c A H locs Z ls hF hE hP hS hl => by
  obtain ⟨Q0, h1, h2⟩ := h
  obtain ⟨⟨c1, c2, c3, c4, c5⟩, c6, c7, c8, c9, T, N, c10⟩ := hc
  obtain ⟨r1, r2, r3, r4⟩ := hF.2.2.2.2.2.2.2.2.2.2.1
  have hts := hF.2.2.2.2.1
  obtain ⟨q, hq⟩ := xW_get g ha
  rw [xE_obj g hk c9] at hq
  exact xWp.run (va_runVN (As := As) (rest := st) ⟨hF.1, hF.2.1, hF.2.2.1, hF.2.2.2.1, hts⟩ (h2 H.size) ⟨va_cnB (rm := xrm md2 mc2 ms2) As.length hts (xws_good c1) rfl rfl rfl (hF.2.2.2.2.2.2.2.2.2.2.2.2.2.2.2.1 _ c6) (hts _ c2) c3 ⟨Nat.le_trans c4 r1, Nat.le_trans c5 r2⟩, hts _ c7, hts _ c8⟩ ⟨xPre_blind g M H.size _, va_recv hF.2.2.2.2.2.1 hP.1 c10 hq, fun U hU hW => ⟨rfl, xPre_of hF hP hS U hU hW⟩⟩ rfl rfl hl.1 hst (by show 2 * 0 + _ ≤ 8; omega) d ⟨Nat.le_trans hm.1 r3, Nat.le_trans hm.2 r4⟩) hF hE hP hS hl h1
theorem xr_callIN {i : Nat} {md2 : xMd} {mc2 ms2 a : Nat} (As : List Value) {st0 : List Value} (d : decode md.2.1 pc = .ok (.invokespecial i, 3)) (hc : xCiN md i md2 As.length) (hst : st0 = As.reverse ++ va_rf (some a) :: st) (hw : (st.map fun v => v.category).sum ≤ 8) (hm : cs.1 + mc2 ≤ mc ∧ cs.2 + ms2 ≤ ms)
    (h : xSp l g md2 mc2 ms2 (va_rf (some a) :: As) M (fun r M1 => xWp l g md mc ms (pc + 3) L (r.toList ++ st) (cs.1 + mc2, cs.2 + ms2) M1 Q)) : xWp l g md mc ms pc L st0 cs M Q := fun p e R s m args below meth c A H locs Z ls hF hE hP hS hl => by
  obtain ⟨Q0, h1, h2⟩ := h
  obtain ⟨⟨c1, c2, c3, c4, c5⟩, c6, c7, c8, c9⟩ := hc
  obtain ⟨r1, r2, r3, r4⟩ := hF.2.2.2.2.2.2.2.2.2.2.1
  have hts := hF.2.2.2.2.1
  exact xWp.run (va_runIN (As := As) (rest := st) (bytes := md2.2.1) (maxL := md2.2.2.1) (host := "RadixPages") ⟨hF.1, hF.2.1, hF.2.2.1, hF.2.2.2.1, hts⟩ (h2 H.size) ⟨by rw [← c9]; exact va_cnB (rm := xrm md2 mc2 ms2) As.length hts (xws_good c1) rfl rfl rfl (hF.2.2.2.2.2.2.2.2.2.2.2.2.2.2.2.1 _ c6) (hts _ c2) c3 ⟨Nat.le_trans c4 r1, Nat.le_trans c5 r2⟩, c7, hts _ c8⟩ ⟨xPre_blind g M H.size _, fun U hU hW => ⟨rfl, xPre_of hF hP hS U hU hW⟩⟩ rfl rfl hl.1 hst (by show 2 * 0 + _ ≤ 8; omega) d ⟨Nat.le_trans hm.1 r3, Nat.le_trans hm.2 r4⟩) hF hE hP hS hl h1
end XCR
end
section
/-! Math.max, Math.min, System.arraycopy of bytes. -/
section XJ
variable {l : Launch} {g : xG} {md : xMd} {mc ms pc : Nat} {L : List (Nat × Value)} {st : List Value} {cs : Nat × Nat} {M : xM} {Q : Option Value → xM → Prop}
theorem xr_mmax {i : Nat} {x y : Int32} (d : decode md.2.1 pc = .ok (.invokestatic i, 3)) (h1 : Cond.methodLink md.1.cls i Lib.Math.max.name ∈ gl) (h2 : Cond.static Lib.Math.max.name ∈ gl) (h3 : Cond.initialized "java/lang/Math" ∈ gl) (h4 : Cond.code Lib.Math.max.name Lib.Math.max.code 2 (some .int) ∈ gl) (hf : 1 ≤ md.2.2.2.2.1) (hw : (st.map fun v => v.category).sum + 13 ≤ md.2.2.2.2.2) (hm : cs.1 ≤ mc ∧ cs.2 ≤ ms) (h : xWp l g md mc ms (pc + 3) L (.int (if x < y then y else x) :: st) cs M Q) : xWp l g md mc ms pc L (.int y :: .int x :: st) cs M Q := fun p e R s m args below meth c A H locs Z ls hF hE hP hS hl => by
  obtain ⟨r1, r2, r3, r4⟩ := hF.2.2.2.2.2.2.2.2.2.2.1
  exact va_mmax hF.1 hF.2.1 (by rw [hF.2.2.1]; exact hl.1.symm) hF.2.2.2.1 (hF.2.2.2.2.1 _ h1) (hF.2.2.2.2.1 _ h2) (hF.2.2.2.2.1 _ h3) (hF.2.2.2.2.1 _ h4) (Nat.le_trans hf r1) (Nat.le_trans hw r2) (Nat.le_trans hm.1 r3) (Nat.le_trans hm.2 r4) d (h p e R s m args below meth c A H locs Z ls hF hE hP hS hl)
theorem xr_mmin {i : Nat} {x y : Int32} (d : decode md.2.1 pc = .ok (.invokestatic i, 3)) (h1 : Cond.methodLink md.1.cls i Lib.Math.min.name ∈ gl) (h2 : Cond.static Lib.Math.min.name ∈ gl) (h3 : Cond.initialized "java/lang/Math" ∈ gl) (h4 : Cond.code Lib.Math.min.name Lib.Math.min.code 2 (some .int) ∈ gl) (hf : 1 ≤ md.2.2.2.2.1) (hw : (st.map fun v => v.category).sum + 13 ≤ md.2.2.2.2.2) (hm : cs.1 ≤ mc ∧ cs.2 ≤ ms) (h : xWp l g md mc ms (pc + 3) L (.int (if y < x then y else x) :: st) cs M Q) : xWp l g md mc ms pc L (.int y :: .int x :: st) cs M Q := fun p e R s m args below meth c A H locs Z ls hF hE hP hS hl => by
  obtain ⟨r1, r2, r3, r4⟩ := hF.2.2.2.2.2.2.2.2.2.2.1
  exact va_mmin hF.1 hF.2.1 (by rw [hF.2.2.1]; exact hl.1.symm) hF.2.2.2.1 (hF.2.2.2.2.1 _ h1) (hF.2.2.2.2.1 _ h2) (hF.2.2.2.2.1 _ h3) (hF.2.2.2.2.1 _ h4) (Nat.le_trans hf r1) (Nat.le_trans hw r2) (Nat.le_trans hm.1 r3) (Nat.le_trans hm.2 r4) d (h p e R s m args below meth c A H locs Z ls hF hE hP hS hl)
/-- bytes copied from the array a0 at sp to the array a at dp, n of them -/
def xcp (M : xM) (a0 a sp dp n : Nat) : xM := (M.1, M.2.1, M.2.2.1, (fun b => if b = a then va_cpy (xI M a0) (xI M a) sp dp n else xI M b), M.2.2.2.2.1, M.2.2.2.2.2)
theorem xK_cp (M : xM) (a0 a sp dp n : Nat) : xK (xcp M a0 a sp dp n) = xK M := rfl
theorem xN_cp (M : xM) (a0 a sp dp n : Nat) : xN (xcp M a0 a sp dp n) = xN M := rfl
theorem xL_cp (M : xM) (a0 a sp dp n : Nat) : xL (xcp M a0 a sp dp n) = xL M := rfl
theorem xJ_cp (M : xM) (a0 a sp dp n : Nat) : xJ (xcp M a0 a sp dp n) = xJ M := rfl
theorem xR_cp (M : xM) (a0 a sp dp n : Nat) : xR (xcp M a0 a sp dp n) = xR M := rfl
theorem xI_cp (M : xM) (a0 a sp dp n b j : Nat) : xI (xcp M a0 a sp dp n) b j = if b = a then (if dp ≤ j ∧ j < dp + n then xI M a0 (sp + (j - dp)) else xI M a j) else xI M b j := by
  show (if b = a then va_cpy (xI M a0) (xI M a) sp dp n else xI M b) j = _
  by_cases h : b = a
  · rw [if_pos h, if_pos h]; rfl
  · rw [if_neg h, if_neg h]
theorem xr_copy {i a0 a : Nat} {x y z : Int32} (sp dp n : Nat) (d : decode md.2.1 pc = .ok (.invokestatic i, 3)) (h1 : Cond.methodLink md.1.cls i arraycopyName ∈ gl) (h2 : Cond.native arraycopyName ∈ gl) (h3 : Cond.static arraycopyName ∈ gl) (h4 : Cond.initialized "java/lang/System" ∈ gl) (hf : 1 ≤ md.2.2.2.2.1) (hw : (st.map fun v => v.category).sum + (nativeFrameWords "java/lang/System" "arraycopy" 5 + 11) ≤ md.2.2.2.2.2)
    (ha0 : a0 ∈ xL M) (hk0 : xK M a0 = 8) (ha : a ∈ xL M) (hk : xK M a = 8) (hx : x = nI sp) (hy : y = nI dp) (hz : z = nI n) (hsp : sp < 2 ^ 31) (hdp : dp < 2 ^ 31) (hn : n < 2 ^ 31) (hb0 : sp + n ≤ xN M a0) (hb1 : dp + n ≤ xN M a) (hfit : ∀ j, j < n → fits .byte (.int (xI M a0 (sp + j))) = true)
    (h : xWp l g md mc ms (pc + 3) L st cs (xcp M a0 a sp dp n) Q) : xWp l g md mc ms pc L (.int z :: .int y :: va_rf (some a) :: .int x :: va_rf (some a0) :: st) cs M Q := fun p e R s m args below meth c A H locs Z ls hF hE hP hS hl => by
  obtain ⟨r1, r2, r3, r4⟩ := hF.2.2.2.2.2.2.2.2.2.2.1
  subst hx; subst hy; subst hz
  obtain ⟨q0, hq0⟩ := xW_get g ha0
  obtain ⟨q1, hq1⟩ := xW_get g ha
  have hq1' := hq1
  rw [xE_arr g hk0 (by decide), xArI hk0 (by decide) (by decide)] at hq0
  rw [xE_arr g hk (by decide), xArI hk (by decide) (by decide)] at hq1'
  have e1 : (nI sp).toNatClampNeg = sp := nI_clamp hsp
  have e2 : (nI dp).toNatClampNeg = dp := nI_clamp hdp
  have e3 : (nI n).toNatClampNeg = n := nI_clamp hn
  have hset : (xW g M).set q1 (a, .inl (g.2.1 8, xN M a, .inl (va_cpy (xI M a0) (xI M a) sp dp n))) = xW g (xcp M a0 a sp dp n) := xW_set g hP.2 ha hq1 rfl (by
    rw [xE_arr g (M := xcp M a0 a sp dp n) hk (by decide), xArI (M := xcp M a0 a sp dp n) hk (by decide) (by decide)]
    have : xI (xcp M a0 a sp dp n) a = va_cpy (xI M a0) (xI M a) sp dp n := by show (if a = a then _ else _) = _; rw [if_pos rfl]
    rw [this]; rfl) (fun b hb => xE_off g rfl rfl (fun j => by rw [xI_cp, if_neg hb]) (fun _ => rfl) (fun _ => rfl))
  refine va_copyi (D := g.1) hF.1 hF.2.1 (by rw [hF.2.2.1]; exact hl.1.symm) hF.2.2.2.1 (hF.2.2.2.2.1 _ h1) (hF.2.2.2.2.1 _ h2) (hF.2.2.2.2.1 _ h3) (hF.2.2.2.2.1 _ h4) hF.2.2.2.2.2.1 hP.1 hP.2 hS q0 q1 0 0 hq0 hq1' rfl rfl rfl (nI_pos hsp) (nI_pos hdp) (nI_pos hn) (by rw [e1, e3]; exact hb0) (by rw [e2, e3]; exact hb1) (by rw [e1, e3]; exact hfit) (Nat.le_trans hf r1) (Nat.le_trans hw r2) d (fun H1 locs1 hP1 hD1 hS1 => ?_)
  rw [e1, e2, e3, hset] at hP1 hD1
  exact h p e R s m args below meth c A H1 locs1 Z ls hF hE ⟨hP1, hD1⟩ hS1 hl
end XJ
end
section
/-! THE SAME ROWS, with a reference that may be null in the walk's words and is known not to be. -/
def xat (M : xM) (a ci : Nat) : Prop := a ∈ xL M ∧ xK M a = ci
section YR
variable {l : Launch} {g : xG} {md : xMd} {mc ms pc : Nat} {L : List (Nat × Value)} {st : List Value} {cs : Nat × Nat} {M : xM} {Q : Option Value → xM → Prop}
theorem yr_getI {r : Option Nat} {a i ci k : Nat} (d : decode md.2.1 pc = .ok (.getfield i, 3)) (hf : xFl md.1.cls i ci k 0) (hr : r = some a) (ha : xat M a ci) (h : xWp l g md mc ms (pc + 3) L (.int (xI M a k) :: st) cs M Q) : xWp l g md mc ms pc L (va_rf r :: st) cs M Q := by
  subst hr; exact xr_get 0 d hf ha.1 ha.2 h
theorem yr_getZ {r : Option Nat} {a i ci k : Nat} (d : decode md.2.1 pc = .ok (.getfield i, 3)) (hf : xFl md.1.cls i ci k 3) (hr : r = some a) (ha : xat M a ci) (h : xWp l g md mc ms (pc + 3) L (.int (xI M a k) :: st) cs M Q) : xWp l g md mc ms pc L (va_rf r :: st) cs M Q := by
  subst hr; exact xr_get 3 d hf ha.1 ha.2 h
theorem yr_getJ {r : Option Nat} {a i ci k : Nat} (d : decode md.2.1 pc = .ok (.getfield i, 3)) (hf : xFl md.1.cls i ci k 1) (hr : r = some a) (ha : xat M a ci) (h : xWp l g md mc ms (pc + 3) L (.long (xJ M a k) :: st) cs M Q) : xWp l g md mc ms pc L (va_rf r :: st) cs M Q := by
  subst hr; exact xr_get 1 d hf ha.1 ha.2 h
theorem yr_getR {r : Option Nat} {a i ci k : Nat} (d : decode md.2.1 pc = .ok (.getfield i, 3)) (hf : xFl md.1.cls i ci k 2) (hr : r = some a) (ha : xat M a ci) (h : xWp l g md mc ms (pc + 3) L (va_rf (xR M a k) :: st) cs M Q) : xWp l g md mc ms pc L (va_rf r :: st) cs M Q := by
  subst hr; exact xr_get 2 d hf ha.1 ha.2 h
theorem yr_getN {r : Option Nat} {a : Nat} (d : decode md.2.1 pc = .ok (.getfield 27, 3)) (ho : md.1.cls = "RadixPages$Disk") (hin : ∀ w ∈ u_ws RX5 TX5 1, w ∈ gl) (hr : r = some a) (ha : xat M a 2) (h : xWp l g md mc ms (pc + 3) L (va_rf (xR M a 0) :: st) cs M Q) : xWp l g md mc ms pc L (va_rf r :: st) cs M Q := by
  subst hr; exact xr_getN d ho hin ha.1 ha.2 h
theorem yr_putI {r : Option Nat} {a i ci k : Nat} {x : Int32} (d : decode md.2.1 pc = .ok (.putfield i, 3)) (hf : xFp false md.1.cls i ci k 0 .int) (hr : r = some a) (ha : xat M a ci) (h : xWp l g md mc ms (pc + 3) L st cs (xsI M a k x) Q) : xWp l g md mc ms pc L (.int x :: va_rf r :: st) cs M Q := by
  subst hr; exact xr_putI d hf ha.1 ha.2 h
theorem yr_putZ {r : Option Nat} {a i ci k : Nat} {x : Int32} (d : decode md.2.1 pc = .ok (.putfield i, 3)) (hf : xFp false md.1.cls i ci k 3 .boolean) (hr : r = some a) (ha : xat M a ci) (hx : x = 0 ∨ x = 1) (h : xWp l g md mc ms (pc + 3) L st cs (xsI M a k x) Q) : xWp l g md mc ms pc L (.int x :: va_rf r :: st) cs M Q := by
  subst hr; exact xr_putZ d hf ha.1 ha.2 hx h
theorem yr_putJ {r : Option Nat} {a i ci k : Nat} {x : Int64} (d : decode md.2.1 pc = .ok (.putfield i, 3)) (hf : xFp false md.1.cls i ci k 1 .long) (hr : r = some a) (ha : xat M a ci) (h : xWp l g md mc ms (pc + 3) L st cs (xsJ M a k x) Q) : xWp l g md mc ms pc L (.long x :: va_rf r :: st) cs M Q := by
  subst hr; exact xr_putJ d hf ha.1 ha.2 h
theorem yr_putR {r : Option Nat} {a i ci k : Nat} {n : String} {x : Option Nat} (d : decode md.2.1 pc = .ok (.putfield i, 3)) (hf : xFp false md.1.cls i ci k 2 (.object n)) (hr : r = some a) (ha : xat M a ci) (h : xWp l g md mc ms (pc + 3) L st cs (xsR M a k x) Q) : xWp l g md mc ms pc L (va_rf x :: va_rf r :: st) cs M Q := by
  subst hr; exact xr_putR d hf ha.1 ha.2 h
theorem yr_putRF {r : Option Nat} {a i ci k : Nat} {ty : FieldType} {x : Option Nat} (d : decode md.2.1 pc = .ok (.putfield i, 3)) (hi : md.1.name = "<init>") (hf : xFp true md.1.cls i ci k 2 ty) (ht : (∃ n, ty = .object n) ∨ ∃ n, ty = .array n) (hr : r = some a) (ha : xat M a ci) (h : xWp l g md mc ms (pc + 3) L st cs (xsR M a k x) Q) : xWp l g md mc ms pc L (va_rf x :: va_rf r :: st) cs M Q := by
  subst hr; exact xr_putRF d hi hf ht ha.1 ha.2 h
/-- an array and a place in it -/
def xai (M : xM) (a kd : Nat) (i : Int32) (j : Nat) : Prop := xat M a kd ∧ i = nI j ∧ j < xN M a ∧ xN M a < 2 ^ 31
theorem yr_iald {r : Option Nat} {a j : Nat} {i : Int32} (d : decode md.2.1 pc = .ok (.iaload, 1)) (hr : r = some a) (ha : xai M a 9 i j) (h : xWp l g md mc ms (pc + 1) L (.int (xI M a j) :: st) cs M Q) : xWp l g md mc ms pc L (.int i :: va_rf r :: st) cs M Q := by
  subst hr; exact xr_iald j d ha.1.1 ha.1.2 ha.2.1 ha.2.2.1 ha.2.2.2 h
theorem yr_bald {r : Option Nat} {a j : Nat} {i : Int32} (d : decode md.2.1 pc = .ok (.baload, 1)) (hr : r = some a) (ha : xai M a 8 i j) (h : xWp l g md mc ms (pc + 1) L (.int (xI M a j) :: st) cs M Q) : xWp l g md mc ms pc L (.int i :: va_rf r :: st) cs M Q := by
  subst hr; exact xr_bald j d ha.1.1 ha.1.2 ha.2.1 ha.2.2.1 ha.2.2.2 h
theorem yr_zald {r : Option Nat} {a j : Nat} {i : Int32} (d : decode md.2.1 pc = .ok (.baload, 1)) (hr : r = some a) (ha : xai M a 11 i j) (h : xWp l g md mc ms (pc + 1) L (.int (xI M a j) :: st) cs M Q) : xWp l g md mc ms pc L (.int i :: va_rf r :: st) cs M Q := by
  subst hr; exact xr_zald j d ha.1.1 ha.1.2 ha.2.1 ha.2.2.1 ha.2.2.2 h
theorem yr_lald {r : Option Nat} {a j : Nat} {i : Int32} (d : decode md.2.1 pc = .ok (.laload, 1)) (hr : r = some a) (ha : xai M a 10 i j) (h : xWp l g md mc ms (pc + 1) L (.long (xJ M a j) :: st) cs M Q) : xWp l g md mc ms pc L (.int i :: va_rf r :: st) cs M Q := by
  subst hr; exact xr_lald j d ha.1.1 ha.1.2 ha.2.1 ha.2.2.1 ha.2.2.2 h
theorem yr_aald {r : Option Nat} {a j : Nat} {i : Int32} (d : decode md.2.1 pc = .ok (.aaload, 1)) (hr : r = some a) (ha : xai M a 12 i j) (h : xWp l g md mc ms (pc + 1) L (va_rf (xR M a j) :: st) cs M Q) : xWp l g md mc ms pc L (.int i :: va_rf r :: st) cs M Q := by
  subst hr; exact xr_aald j d ha.1.1 ha.1.2 ha.2.1 ha.2.2.1 ha.2.2.2 h
theorem yr_iast {r : Option Nat} {a j : Nat} {i x : Int32} (d : decode md.2.1 pc = .ok (.iastore, 1)) (hr : r = some a) (ha : xai M a 9 i j) (h : xWp l g md mc ms (pc + 1) L st cs (xsI M a j x) Q) : xWp l g md mc ms pc L (.int x :: .int i :: va_rf r :: st) cs M Q := by
  subst hr; exact xr_iast j d ha.1.1 ha.1.2 ha.2.1 ha.2.2.1 ha.2.2.2 h
theorem yr_bast {r : Option Nat} {a j : Nat} {i x : Int32} (d : decode md.2.1 pc = .ok (.bastore, 1)) (hr : r = some a) (ha : xai M a 8 i j) (h : xWp l g md mc ms (pc + 1) L st cs (xsI M a j x.toInt8.toInt32) Q) : xWp l g md mc ms pc L (.int x :: .int i :: va_rf r :: st) cs M Q := by
  subst hr; exact xr_bast j d ha.1.1 ha.1.2 ha.2.1 ha.2.2.1 ha.2.2.2 h
theorem yr_zast {r : Option Nat} {a j : Nat} {i x : Int32} (d : decode md.2.1 pc = .ok (.bastore, 1)) (hr : r = some a) (ha : xai M a 11 i j) (h : xWp l g md mc ms (pc + 1) L st cs (xsI M a j (x &&& 1)) Q) : xWp l g md mc ms pc L (.int x :: .int i :: va_rf r :: st) cs M Q := by
  subst hr; exact xr_zast j d ha.1.1 ha.1.2 ha.2.1 ha.2.2.1 ha.2.2.2 h
theorem yr_last {r : Option Nat} {a j : Nat} {i : Int32} {x : Int64} (d : decode md.2.1 pc = .ok (.lastore, 1)) (hr : r = some a) (ha : xai M a 10 i j) (h : xWp l g md mc ms (pc + 1) L st cs (xsJ M a j x) Q) : xWp l g md mc ms pc L (.long x :: .int i :: va_rf r :: st) cs M Q := by
  subst hr; exact xr_last j d ha.1.1 ha.1.2 ha.2.1 ha.2.2.1 ha.2.2.2 h
theorem yr_aast {r rb : Option Nat} {a b j : Nat} {i : Int32} (d : decode md.2.1 pc = .ok (.aastore, 1)) (hr : r = some a) (ha : xai M a 12 i j) (hrb : rb = some b) (hb : xat M b 1) (h : xWp l g md mc ms (pc + 1) L st cs (xsR M a j rb) Q) : xWp l g md mc ms pc L (va_rf rb :: .int i :: va_rf r :: st) cs M Q := by
  subst hr; subst hrb; exact xr_aast j d ha.1.1 ha.1.2 hb.1 hb.2 ha.2.1 ha.2.2.1 ha.2.2.2 h
/-- the array's kind among the types of arrays -/
theorem yr_alen8 {r : Option Nat} {a : Nat} (d : decode md.2.1 pc = .ok (.arraylength, 1)) (hr : r = some a) (ha : xat M a 8) (h : xWp l g md mc ms (pc + 1) L (.int (nI (xN M a)) :: st) cs M Q) : xWp l g md mc ms pc L (va_rf r :: st) cs M Q := by
  subst hr; exact xr_alen (t := 0) d ha.1 ha.2 (by decide) (fun _ => rfl) h
theorem yr_alen9 {r : Option Nat} {a : Nat} (d : decode md.2.1 pc = .ok (.arraylength, 1)) (hr : r = some a) (ha : xat M a 9) (h : xWp l g md mc ms (pc + 1) L (.int (nI (xN M a)) :: st) cs M Q) : xWp l g md mc ms pc L (va_rf r :: st) cs M Q := by
  subst hr; exact xr_alen (t := 1) d ha.1 ha.2 (by decide) (fun _ => rfl) h
theorem yr_alen11 {r : Option Nat} {a : Nat} (d : decode md.2.1 pc = .ok (.arraylength, 1)) (hr : r = some a) (ha : xat M a 11) (h : xWp l g md mc ms (pc + 1) L (.int (nI (xN M a)) :: st) cs M Q) : xWp l g md mc ms pc L (va_rf r :: st) cs M Q := by
  subst hr; exact xr_alen (t := 3) d ha.1 ha.2 (by decide) (fun _ => rfl) h
theorem yr_alen12 {r : Option Nat} {a : Nat} (d : decode md.2.1 pc = .ok (.arraylength, 1)) (hr : r = some a) (ha : xat M a 12) (h : xWp l g md mc ms (pc + 1) L (.int (nI (xN M a)) :: st) cs M Q) : xWp l g md mc ms pc L (va_rf r :: st) cs M Q := by
  subst hr; exact xr_alen (t := 4) d ha.1 ha.2 (by decide) (fun _ => rfl) h
theorem yr_alenM (d : decode md.2.1 pc = .ok (.arraylength, 1)) (h : xWp l g md mc ms (pc + 1) L (.int 5 :: st) cs M Q) : xWp l g md mc ms pc L (va_rf (some g.2.2.1) :: st) cs M Q := fun p e R s m args below meth c A H locs Z ls hF hE hP hS hl => by
  obtain ⟨cell, k1, k2, k3, k4, k5, k6, k7⟩ := hF.2.2.2.2.2.2.2.2.2.2.2.2.1.kept hS.2.1
  exact W.alen (n := 5) hF.1 hF.2.1 k1 k2 k5 rfl rfl d (h p e R s m args below meth c A H locs Z ls hF hE hP hS hl)
theorem yr_alenS (d : decode md.2.1 pc = .ok (.arraylength, 1)) (h : xWp l g md mc ms (pc + 1) L (.int 5 :: st) cs M Q) : xWp l g md mc ms pc L (va_rf (some g.2.2.2) :: st) cs M Q := fun p e R s m args below meth c A H locs Z ls hF hE hP hS hl => by
  obtain ⟨cell, k1, k2, k3, k4, k5, k6, k7⟩ := hF.2.2.2.2.2.2.2.2.2.2.2.2.2.2.1.kept hS.2.1
  exact W.alen (n := 5) hF.1 hF.2.1 k1 k2 k5 rfl rfl d (h p e R s m args below meth c A H locs Z ls hF hE hP hS hl)
theorem yr_callV {r : Option Nat} {i ci : Nat} {md2 : xMd} {mc2 ms2 a : Nat} (As : List Value) {st0 : List Value} (d : decode md.2.1 pc = .ok (.invokevirtual i, 3)) (hc : xCv md i md2 As.length ci) (hr : r = some a) (ha : xat M a ci) (hst : st0 = As.reverse ++ va_rf r :: st) (hw : (st.map fun v => v.category).sum ≤ 8) (hm : cs.1 + mc2 ≤ mc ∧ cs.2 + ms2 ≤ ms)
    (h : xSp l g md2 mc2 ms2 (va_rf r :: As) M (fun r M1 => xWp l g md mc ms (pc + 3) L (r.toList ++ st) (cs.1 + mc2, cs.2 + ms2) M1 Q)) : xWp l g md mc ms pc L st0 cs M Q := by
  subst hr; exact xr_callV As d hc hst ha.1 ha.2 hw hm h
theorem yr_callVN {r : Option Nat} {i ci : Nat} {md2 : xMd} {mc2 ms2 a : Nat} (As : List Value) {st0 : List Value} (d : decode md.2.1 pc = .ok (.invokevirtual i, 3)) (hc : xCvN md i md2 As.length ci) (hr : r = some a) (ha : xat M a ci) (hst : st0 = As.reverse ++ va_rf r :: st) (hw : (st.map fun v => v.category).sum ≤ 8) (hm : cs.1 + mc2 ≤ mc ∧ cs.2 + ms2 ≤ ms)
    (h : xSp l g md2 mc2 ms2 (va_rf r :: As) M (fun r M1 => xWp l g md mc ms (pc + 3) L (r.toList ++ st) (cs.1 + mc2, cs.2 + ms2) M1 Q)) : xWp l g md mc ms pc L st0 cs M Q := by
  subst hr; exact xr_callVN As d hc hst ha.1 ha.2 hw hm h
theorem va_rf_cat (r : Option Nat) : (va_rf r).category = 1 := by cases r <;> rfl
end YR
end
